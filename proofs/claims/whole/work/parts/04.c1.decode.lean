theorem dX12_of_78 : decode cX12_of 78 = .ok (.lconst 0, 1) := by decide +kernel
theorem dX12_of_79 : decode cX12_of 79 = .ok (.lcmp, 1) := by decide +kernel
theorem dX12_of_80 : decode cX12_of 80 = .ok (.ifCond .lt 19, 3) := by decide +kernel
theorem dX12_of_83 : decode cX12_of 83 = .ok (.lload_n 3, 1) := by decide +kernel
theorem dX12_of_84 : decode cX12_of 84 = .ok (.lload 6, 2) := by decide +kernel
theorem dX12_of_86 : decode cX12_of 86 = .ok (.lcmp, 1) := by decide +kernel
theorem dX12_of_87 : decode cX12_of 87 = .ok (.ifCond .ge 12, 3) := by decide +kernel
theorem dX12_of_90 : decode cX12_of 90 = .ok (.lload 6, 2) := by decide +kernel
theorem dX12_of_92 : decode cX12_of 92 = .ok (.ldc2_w 213, 3) := by decide +kernel
theorem dX12_of_95 : decode cX12_of 95 = .ok (.lcmp, 1) := by decide +kernel
theorem dX12_of_96 : decode cX12_of 96 = .ok (.ifCond .le 5, 3) := by decide +kernel
theorem dX12_of_99 : decode cX12_of 99 = .ok (.iconst 0, 1) := by decide +kernel
theorem dX12_of_100 : decode cX12_of 100 = .ok (.ireturn, 1) := by decide +kernel
theorem dX12_of_101 : decode cX12_of 101 = .ok (.lload_n 3, 1) := by decide +kernel
theorem dX12_of_102 : decode cX12_of 102 = .ok (.lstore 8, 2) := by decide +kernel
theorem dX12_of_104 : decode cX12_of 104 = .ok (.iload_n 2, 1) := by decide +kernel
theorem dX12_of_105 : decode cX12_of 105 = .ok (.istore 10, 2) := by decide +kernel
theorem dX12_of_107 : decode cX12_of 107 = .ok (.iload 5, 2) := by decide +kernel
theorem dX12_of_109 : decode cX12_of 109 = .ok (.istore 11, 2) := by decide +kernel
theorem dX12_of_111 : decode cX12_of 111 = .ok (.iload 11, 2) := by decide +kernel
theorem dX12_of_113 : decode cX12_of 113 = .ok (.ifCond .le 115, 3) := by decide +kernel
theorem dX12_of_116 : decode cX12_of 116 = .ok (.aload_n 0, 1) := by decide +kernel
theorem dX12_of_117 : decode cX12_of 117 = .ok (.getfield 9, 3) := by decide +kernel
theorem dX12_of_120 : decode cX12_of 120 = .ok (.iload_n 1, 1) := by decide +kernel
theorem dX12_of_121 : decode cX12_of 121 = .ok (.invokestatic 115, 3) := by decide +kernel
theorem dX12_of_124 : decode cX12_of 124 = .ok (.iload 11, 2) := by decide +kernel
theorem dX12_of_126 : decode cX12_of 126 = .ok (.iadd, 1) := by decide +kernel
theorem dX12_of_127 : decode cX12_of 127 = .ok (.iaload, 1) := by decide +kernel
theorem dX12_of_128 : decode cX12_of 128 = .ok (.istore 12, 2) := by decide +kernel
theorem dX12_of_130 : decode cX12_of 130 = .ok (.iload 10, 2) := by decide +kernel
theorem dX12_of_132 : decode cX12_of 132 = .ok (.iload 12, 2) := by decide +kernel
theorem dX12_of_134 : decode cX12_of 134 = .ok (.idiv, 1) := by decide +kernel
theorem dX12_of_135 : decode cX12_of 135 = .ok (.istore 13, 2) := by decide +kernel
theorem dX12_of_137 : decode cX12_of 137 = .ok (.lload 8, 2) := by decide +kernel
theorem dX12_of_139 : decode cX12_of 139 = .ok (.aload_n 0, 1) := by decide +kernel
theorem dX12_of_140 : decode cX12_of 140 = .ok (.getfield 42, 3) := by decide +kernel
theorem dX12_of_143 : decode cX12_of 143 = .ok (.iload 11, 2) := by decide +kernel
theorem dX12_of_145 : decode cX12_of 145 = .ok (.iconst 1, 1) := by decide +kernel
theorem dX12_of_146 : decode cX12_of 146 = .ok (.isub, 1) := by decide +kernel
theorem dX12_of_147 : decode cX12_of 147 = .ok (.aaload, 1) := by decide +kernel
theorem dX12_of_148 : decode cX12_of 148 = .ok (.iload 10, 2) := by decide +kernel
theorem dX12_of_150 : decode cX12_of 150 = .ok (.iload 13, 2) := by decide +kernel
theorem dX12_of_152 : decode cX12_of 152 = .ok (.iload 12, 2) := by decide +kernel
theorem dX12_of_154 : decode cX12_of 154 = .ok (.imul, 1) := by decide +kernel
theorem dX12_of_155 : decode cX12_of 155 = .ok (.isub, 1) := by decide +kernel
theorem dX12_of_156 : decode cX12_of 156 = .ok (.laload, 1) := by decide +kernel
theorem dX12_of_157 : decode cX12_of 157 = .ok (.lcmp, 1) := by decide +kernel
theorem dX12_of_158 : decode cX12_of 158 = .ok (.ifCond .lt 32, 3) := by decide +kernel
theorem dX12_of_161 : decode cX12_of 161 = .ok (.lload 8, 2) := by decide +kernel
theorem dX12_of_163 : decode cX12_of 163 = .ok (.aload_n 0, 1) := by decide +kernel
theorem dX12_of_164 : decode cX12_of 164 = .ok (.getfield 42, 3) := by decide +kernel
theorem dX12_of_167 : decode cX12_of 167 = .ok (.iload 11, 2) := by decide +kernel
theorem dX12_of_169 : decode cX12_of 169 = .ok (.iconst 1, 1) := by decide +kernel
theorem dX12_of_170 : decode cX12_of 170 = .ok (.isub, 1) := by decide +kernel
theorem dX12_of_171 : decode cX12_of 171 = .ok (.aaload, 1) := by decide +kernel
theorem dX12_of_172 : decode cX12_of 172 = .ok (.iload 10, 2) := by decide +kernel
theorem dX12_of_174 : decode cX12_of 174 = .ok (.iload 13, 2) := by decide +kernel
theorem dX12_of_176 : decode cX12_of 176 = .ok (.iload 12, 2) := by decide +kernel
theorem dX12_of_178 : decode cX12_of 178 = .ok (.imul, 1) := by decide +kernel
theorem dX12_of_179 : decode cX12_of 179 = .ok (.isub, 1) := by decide +kernel
theorem dX12_of_180 : decode cX12_of 180 = .ok (.laload, 1) := by decide +kernel
theorem dX12_of_181 : decode cX12_of 181 = .ok (.lsub, 1) := by decide +kernel
theorem dX12_of_182 : decode cX12_of 182 = .ok (.lstore 8, 2) := by decide +kernel
theorem dX12_of_184 : decode cX12_of 184 = .ok (.iinc 13 (-1), 3) := by decide +kernel
theorem dX12_of_187 : decode cX12_of 187 = .ok (.goto (-50), 3) := by decide +kernel
theorem dX12_of_190 : decode cX12_of 190 = .ok (.aload_n 0, 1) := by decide +kernel
theorem dX12_of_191 : decode cX12_of 191 = .ok (.getfield 48, 3) := by decide +kernel
theorem dX12_of_194 : decode cX12_of 194 = .ok (.iload 11, 2) := by decide +kernel
theorem dX12_of_196 : decode cX12_of 196 = .ok (.iconst 1, 1) := by decide +kernel
theorem dX12_of_197 : decode cX12_of 197 = .ok (.isub, 1) := by decide +kernel
theorem dX12_of_198 : decode cX12_of 198 = .ok (.iload 12, 2) := by decide +kernel
theorem dX12_of_200 : decode cX12_of 200 = .ok (.iastore, 1) := by decide +kernel
theorem dX12_of_201 : decode cX12_of 201 = .ok (.aload_n 0, 1) := by decide +kernel
theorem dX12_of_202 : decode cX12_of 202 = .ok (.getfield 51, 3) := by decide +kernel
theorem dX12_of_205 : decode cX12_of 205 = .ok (.iload 11, 2) := by decide +kernel
theorem dX12_of_207 : decode cX12_of 207 = .ok (.iconst 1, 1) := by decide +kernel
theorem dX12_of_208 : decode cX12_of 208 = .ok (.isub, 1) := by decide +kernel
theorem dX12_of_209 : decode cX12_of 209 = .ok (.iload 13, 2) := by decide +kernel
theorem dX12_of_211 : decode cX12_of 211 = .ok (.iastore, 1) := by decide +kernel
theorem dX12_of_212 : decode cX12_of 212 = .ok (.iload 10, 2) := by decide +kernel
theorem dX12_of_214 : decode cX12_of 214 = .ok (.iload 13, 2) := by decide +kernel
theorem dX12_of_216 : decode cX12_of 216 = .ok (.iload 12, 2) := by decide +kernel
theorem dX12_of_218 : decode cX12_of 218 = .ok (.imul, 1) := by decide +kernel
theorem dX12_of_219 : decode cX12_of 219 = .ok (.isub, 1) := by decide +kernel
theorem dX12_of_220 : decode cX12_of 220 = .ok (.istore 10, 2) := by decide +kernel
theorem dX12_of_222 : decode cX12_of 222 = .ok (.iinc 11 (-1), 3) := by decide +kernel
theorem dX12_of_225 : decode cX12_of 225 = .ok (.goto (-114), 3) := by decide +kernel
theorem dX12_of_228 : decode cX12_of 228 = .ok (.aload_n 0, 1) := by decide +kernel
theorem dX12_of_229 : decode cX12_of 229 = .ok (.iload 5, 2) := by decide +kernel
theorem dX12_of_231 : decode cX12_of 231 = .ok (.putfield 217, 3) := by decide +kernel
theorem dX12_of_234 : decode cX12_of 234 = .ok (.aload_n 0, 1) := by decide +kernel
theorem dX12_of_235 : decode cX12_of 235 = .ok (.iconst 1, 1) := by decide +kernel
theorem dX12_of_236 : decode cX12_of 236 = .ok (.putfield 220, 3) := by decide +kernel
theorem dX12_of_239 : decode cX12_of 239 = .ok (.iconst 1, 1) := by decide +kernel
theorem dX12_of_240 : decode cX12_of 240 = .ok (.ireturn, 1) := by decide +kernel
theorem dX12_hand_0 : decode cX12_hand 0 = .ok (.aload_n 0, 1) := by decide +kernel
theorem dX12_hand_1 : decode cX12_hand 1 = .ok (.iconst 0, 1) := by decide +kernel
theorem dX12_hand_2 : decode cX12_hand 2 = .ok (.putfield 96, 3) := by decide +kernel
theorem dX12_hand_5 : decode cX12_hand 5 = .ok (.aload_n 0, 1) := by decide +kernel
theorem dX12_hand_6 : decode cX12_hand 6 = .ok (.getfield 220, 3) := by decide +kernel
theorem dX12_hand_9 : decode cX12_hand 9 = .ok (.ifCond .eq 15, 3) := by decide +kernel
theorem dX12_hand_12 : decode cX12_hand 12 = .ok (.iload_n 1, 1) := by decide +kernel
theorem dX12_hand_13 : decode cX12_hand 13 = .ok (.ifCond .lt 11, 3) := by decide +kernel
theorem dX12_hand_16 : decode cX12_hand 16 = .ok (.iload_n 1, 1) := by decide +kernel
theorem dX12_hand_17 : decode cX12_hand 17 = .ok (.aload_n 0, 1) := by decide +kernel
theorem dX12_hand_18 : decode cX12_hand 18 = .ok (.getfield 217, 3) := by decide +kernel
theorem dX12_hand_21 : decode cX12_hand 21 = .ok (.if_icmp .lt 9, 3) := by decide +kernel
theorem dX12_hand_24 : decode cX12_hand 24 = .ok (.aload_n 0, 1) := by decide +kernel
theorem dX12_hand_25 : decode cX12_hand 25 = .ok (.iconst 1, 1) := by decide +kernel
theorem dX12_hand_26 : decode cX12_hand 26 = .ok (.invokevirtual 122, 3) := by decide +kernel
theorem dX12_hand_29 : decode cX12_hand 29 = .ok (.ireturn, 1) := by decide +kernel
theorem dX12_hand_30 : decode cX12_hand 30 = .ok (.aload_n 0, 1) := by decide +kernel
theorem dX12_hand_31 : decode cX12_hand 31 = .ok (.getfield 51, 3) := by decide +kernel
theorem dX12_hand_34 : decode cX12_hand 34 = .ok (.iload_n 1, 1) := by decide +kernel
theorem dX12_hand_35 : decode cX12_hand 35 = .ok (.iaload, 1) := by decide +kernel
theorem dX12_hand_36 : decode cX12_hand 36 = .ok (.ireturn, 1) := by decide +kernel
theorem dX12_put_0 : decode cX12_put 0 = .ok (.aload_n 0, 1) := by decide +kernel
theorem dX12_put_1 : decode cX12_put 1 = .ok (.iconst 0, 1) := by decide +kernel
theorem dX12_put_2 : decode cX12_put 2 = .ok (.putfield 96, 3) := by decide +kernel
theorem dX12_put_5 : decode cX12_put 5 = .ok (.aload_n 0, 1) := by decide +kernel
theorem dX12_put_6 : decode cX12_put 6 = .ok (.getfield 220, 3) := by decide +kernel
theorem dX12_put_9 : decode cX12_put 9 = .ok (.ifCond .eq 15, 3) := by decide +kernel
theorem dX12_put_12 : decode cX12_put 12 = .ok (.iload_n 1, 1) := by decide +kernel
theorem dX12_put_13 : decode cX12_put 13 = .ok (.ifCond .lt 11, 3) := by decide +kernel
theorem dX12_put_16 : decode cX12_put 16 = .ok (.iload_n 1, 1) := by decide +kernel
theorem dX12_put_17 : decode cX12_put 17 = .ok (.aload_n 0, 1) := by decide +kernel
theorem dX12_put_18 : decode cX12_put 18 = .ok (.getfield 217, 3) := by decide +kernel
theorem dX12_put_21 : decode cX12_put 21 = .ok (.if_icmp .lt 9, 3) := by decide +kernel
theorem dX12_put_24 : decode cX12_put 24 = .ok (.aload_n 0, 1) := by decide +kernel
theorem dX12_put_25 : decode cX12_put 25 = .ok (.iconst 1, 1) := by decide +kernel
theorem dX12_put_26 : decode cX12_put 26 = .ok (.invokevirtual 122, 3) := by decide +kernel
theorem dX12_put_29 : decode cX12_put 29 = .ok (.ireturn, 1) := by decide +kernel
theorem dX12_put_30 : decode cX12_put 30 = .ok (.iload_n 2, 1) := by decide +kernel
theorem dX12_put_31 : decode cX12_put 31 = .ok (.ifCond .lt 10, 3) := by decide +kernel
theorem dX12_put_34 : decode cX12_put 34 = .ok (.iload_n 2, 1) := by decide +kernel
theorem dX12_put_35 : decode cX12_put 35 = .ok (.sipush 3000, 3) := by decide +kernel
theorem dX12_put_38 : decode cX12_put 38 = .ok (.if_icmp .le 9, 3) := by decide +kernel
theorem dX12_put_41 : decode cX12_put 41 = .ok (.aload_n 0, 1) := by decide +kernel
theorem dX12_put_42 : decode cX12_put 42 = .ok (.iconst 2, 1) := by decide +kernel
theorem dX12_put_43 : decode cX12_put 43 = .ok (.invokevirtual 122, 3) := by decide +kernel
theorem dX12_put_46 : decode cX12_put 46 = .ok (.ireturn, 1) := by decide +kernel
theorem dX12_put_47 : decode cX12_put 47 = .ok (.aload_n 0, 1) := by decide +kernel
theorem dX12_put_48 : decode cX12_put 48 = .ok (.getfield 51, 3) := by decide +kernel
theorem dX12_put_51 : decode cX12_put 51 = .ok (.iload_n 1, 1) := by decide +kernel
theorem dX12_put_52 : decode cX12_put 52 = .ok (.iaload, 1) := by decide +kernel
theorem dX12_put_53 : decode cX12_put 53 = .ok (.istore_n 3, 1) := by decide +kernel
theorem dX12_put_54 : decode cX12_put 54 = .ok (.aload_n 0, 1) := by decide +kernel
theorem dX12_put_55 : decode cX12_put 55 = .ok (.getfield 51, 3) := by decide +kernel
theorem dX12_put_58 : decode cX12_put 58 = .ok (.iload_n 1, 1) := by decide +kernel
theorem dX12_put_59 : decode cX12_put 59 = .ok (.iload_n 2, 1) := by decide +kernel
theorem dX12_put_60 : decode cX12_put 60 = .ok (.iastore, 1) := by decide +kernel
theorem dX12_put_61 : decode cX12_put 61 = .ok (.iload_n 3, 1) := by decide +kernel
theorem dX12_put_62 : decode cX12_put 62 = .ok (.ireturn, 1) := by decide +kernel
theorem dX12_rank_0 : decode cX12_rank 0 = .ok (.aload_n 0, 1) := by decide +kernel
theorem dX12_rank_1 : decode cX12_rank 1 = .ok (.iconst 0, 1) := by decide +kernel
theorem dX12_rank_2 : decode cX12_rank 2 = .ok (.putfield 96, 3) := by decide +kernel
theorem dX12_rank_5 : decode cX12_rank 5 = .ok (.aload_n 0, 1) := by decide +kernel
theorem dX12_rank_6 : decode cX12_rank 6 = .ok (.getfield 220, 3) := by decide +kernel
theorem dX12_rank_9 : decode cX12_rank 9 = .ok (.ifCond .ne 10, 3) := by decide +kernel
theorem dX12_rank_12 : decode cX12_rank 12 = .ok (.aload_n 0, 1) := by decide +kernel
theorem dX12_rank_13 : decode cX12_rank 13 = .ok (.iconst 1, 1) := by decide +kernel
theorem dX12_rank_14 : decode cX12_rank 14 = .ok (.invokevirtual 122, 3) := by decide +kernel
theorem dX12_rank_17 : decode cX12_rank 17 = .ok (.i2l, 1) := by decide +kernel
theorem dX12_rank_18 : decode cX12_rank 18 = .ok (.lreturn, 1) := by decide +kernel
theorem dX12_rank_19 : decode cX12_rank 19 = .ok (.lconst 0, 1) := by decide +kernel
theorem dX12_rank_20 : decode cX12_rank 20 = .ok (.lstore_n 1, 1) := by decide +kernel
theorem dX12_rank_21 : decode cX12_rank 21 = .ok (.iconst 0, 1) := by decide +kernel
theorem dX12_rank_22 : decode cX12_rank 22 = .ok (.istore_n 3, 1) := by decide +kernel
theorem dX12_rank_23 : decode cX12_rank 23 = .ok (.iload_n 3, 1) := by decide +kernel
theorem dX12_rank_24 : decode cX12_rank 24 = .ok (.aload_n 0, 1) := by decide +kernel
theorem dX12_rank_25 : decode cX12_rank 25 = .ok (.getfield 217, 3) := by decide +kernel
theorem dX12_rank_28 : decode cX12_rank 28 = .ok (.if_icmp .ge 27, 3) := by decide +kernel
theorem dX12_rank_31 : decode cX12_rank 31 = .ok (.lload_n 1, 1) := by decide +kernel
theorem dX12_rank_32 : decode cX12_rank 32 = .ok (.aload_n 0, 1) := by decide +kernel
theorem dX12_rank_33 : decode cX12_rank 33 = .ok (.getfield 51, 3) := by decide +kernel
theorem dX12_rank_36 : decode cX12_rank 36 = .ok (.iload_n 3, 1) := by decide +kernel
theorem dX12_rank_37 : decode cX12_rank 37 = .ok (.iaload, 1) := by decide +kernel
theorem dX12_rank_38 : decode cX12_rank 38 = .ok (.i2l, 1) := by decide +kernel
theorem dX12_rank_39 : decode cX12_rank 39 = .ok (.aload_n 0, 1) := by decide +kernel
theorem dX12_rank_40 : decode cX12_rank 40 = .ok (.getfield 48, 3) := by decide +kernel
theorem dX12_rank_43 : decode cX12_rank 43 = .ok (.iload_n 3, 1) := by decide +kernel
theorem dX12_rank_44 : decode cX12_rank 44 = .ok (.iaload, 1) := by decide +kernel
theorem dX12_rank_45 : decode cX12_rank 45 = .ok (.i2l, 1) := by decide +kernel
theorem dX12_rank_46 : decode cX12_rank 46 = .ok (.lmul, 1) := by decide +kernel
theorem dX12_rank_47 : decode cX12_rank 47 = .ok (.ladd, 1) := by decide +kernel
theorem dX12_rank_48 : decode cX12_rank 48 = .ok (.lstore_n 1, 1) := by decide +kernel
theorem dX12_rank_49 : decode cX12_rank 49 = .ok (.iinc 3 1, 3) := by decide +kernel
theorem dX12_rank_52 : decode cX12_rank 52 = .ok (.goto (-29), 3) := by decide +kernel
theorem dX12_rank_55 : decode cX12_rank 55 = .ok (.lload_n 1, 1) := by decide +kernel
theorem dX12_rank_56 : decode cX12_rank 56 = .ok (.ldc2_w 224, 3) := by decide +kernel
theorem dX12_rank_59 : decode cX12_rank 59 = .ok (.lcmp, 1) := by decide +kernel
theorem dX12_rank_60 : decode cX12_rank 60 = .ok (.ifCond .lt 7, 3) := by decide +kernel
theorem dX12_rank_63 : decode cX12_rank 63 = .ok (.ldc2_w 135, 3) := by decide +kernel
theorem dX12_rank_66 : decode cX12_rank 66 = .ok (.lreturn, 1) := by decide +kernel
theorem dX12_rank_67 : decode cX12_rank 67 = .ok (.aload_n 0, 1) := by decide +kernel
theorem dX12_rank_68 : decode cX12_rank 68 = .ok (.aload_n 0, 1) := by decide +kernel
theorem dX12_rank_69 : decode cX12_rank 69 = .ok (.getfield 48, 3) := by decide +kernel
theorem dX12_rank_72 : decode cX12_rank 72 = .ok (.iconst 0, 1) := by decide +kernel
theorem dX12_rank_73 : decode cX12_rank 73 = .ok (.aload_n 0, 1) := by decide +kernel
theorem dX12_rank_74 : decode cX12_rank 74 = .ok (.getfield 217, 3) := by decide +kernel
theorem dX12_rank_77 : decode cX12_rank 77 = .ok (.invokevirtual 209, 3) := by decide +kernel
theorem dX12_rank_80 : decode cX12_rank 80 = .ok (.lload_n 1, 1) := by decide +kernel
theorem dX12_rank_81 : decode cX12_rank 81 = .ok (.l2i, 1) := by decide +kernel
theorem dX12_rank_82 : decode cX12_rank 82 = .ok (.istore_n 3, 1) := by decide +kernel
theorem dX12_rank_83 : decode cX12_rank 83 = .ok (.aload_n 0, 1) := by decide +kernel
theorem dX12_rank_84 : decode cX12_rank 84 = .ok (.getfield 42, 3) := by decide +kernel
theorem dX12_rank_87 : decode cX12_rank 87 = .ok (.aload_n 0, 1) := by decide +kernel
theorem dX12_rank_88 : decode cX12_rank 88 = .ok (.getfield 217, 3) := by decide +kernel
theorem dX12_rank_91 : decode cX12_rank 91 = .ok (.aaload, 1) := by decide +kernel
theorem dX12_rank_92 : decode cX12_rank 92 = .ok (.iload_n 3, 1) := by decide +kernel
theorem dX12_rank_93 : decode cX12_rank 93 = .ok (.laload, 1) := by decide +kernel
theorem dX12_rank_94 : decode cX12_rank 94 = .ok (.ldc2_w 213, 3) := by decide +kernel
theorem dX12_rank_97 : decode cX12_rank 97 = .ok (.lcmp, 1) := by decide +kernel
theorem dX12_rank_98 : decode cX12_rank 98 = .ok (.ifCond .le 7, 3) := by decide +kernel
theorem dX12_rank_101 : decode cX12_rank 101 = .ok (.ldc2_w 135, 3) := by decide +kernel
theorem dX12_rank_104 : decode cX12_rank 104 = .ok (.lreturn, 1) := by decide +kernel
theorem dX12_rank_105 : decode cX12_rank 105 = .ok (.lconst 0, 1) := by decide +kernel
theorem dX12_rank_106 : decode cX12_rank 106 = .ok (.lstore 4, 2) := by decide +kernel
theorem dX12_rank_108 : decode cX12_rank 108 = .ok (.aload_n 0, 1) := by decide +kernel
theorem dX12_rank_109 : decode cX12_rank 109 = .ok (.getfield 217, 3) := by decide +kernel
theorem dX12_rank_112 : decode cX12_rank 112 = .ok (.istore 6, 2) := by decide +kernel
theorem dX12_rank_114 : decode cX12_rank 114 = .ok (.iload 6, 2) := by decide +kernel
theorem dX12_rank_116 : decode cX12_rank 116 = .ok (.ifCond .le 83, 3) := by decide +kernel
theorem dX12_rank_119 : decode cX12_rank 119 = .ok (.aload_n 0, 1) := by decide +kernel
theorem dX12_rank_120 : decode cX12_rank 120 = .ok (.getfield 48, 3) := by decide +kernel
theorem dX12_rank_123 : decode cX12_rank 123 = .ok (.iload 6, 2) := by decide +kernel
theorem dX12_rank_125 : decode cX12_rank 125 = .ok (.iconst 1, 1) := by decide +kernel
theorem dX12_rank_126 : decode cX12_rank 126 = .ok (.isub, 1) := by decide +kernel
theorem dX12_rank_127 : decode cX12_rank 127 = .ok (.iaload, 1) := by decide +kernel
theorem dX12_rank_128 : decode cX12_rank 128 = .ok (.istore 7, 2) := by decide +kernel
theorem dX12_rank_130 : decode cX12_rank 130 = .ok (.iload_n 3, 1) := by decide +kernel
theorem dX12_rank_131 : decode cX12_rank 131 = .ok (.iload 7, 2) := by decide +kernel
theorem dX12_rank_133 : decode cX12_rank 133 = .ok (.idiv, 1) := by decide +kernel
theorem dX12_rank_134 : decode cX12_rank 134 = .ok (.istore 8, 2) := by decide +kernel
theorem dX12_rank_136 : decode cX12_rank 136 = .ok (.iload 8, 2) := by decide +kernel
theorem dX12_rank_138 : decode cX12_rank 138 = .ok (.aload_n 0, 1) := by decide +kernel
theorem dX12_rank_139 : decode cX12_rank 139 = .ok (.getfield 51, 3) := by decide +kernel
theorem dX12_rank_142 : decode cX12_rank 142 = .ok (.iload 6, 2) := by decide +kernel
theorem dX12_rank_144 : decode cX12_rank 144 = .ok (.iconst 1, 1) := by decide +kernel
theorem dX12_rank_145 : decode cX12_rank 145 = .ok (.isub, 1) := by decide +kernel
theorem dX12_rank_146 : decode cX12_rank 146 = .ok (.iaload, 1) := by decide +kernel
theorem dX12_rank_147 : decode cX12_rank 147 = .ok (.if_icmp .le 31, 3) := by decide +kernel
theorem dX12_rank_150 : decode cX12_rank 150 = .ok (.lload 4, 2) := by decide +kernel
theorem dX12_rank_152 : decode cX12_rank 152 = .ok (.aload_n 0, 1) := by decide +kernel
theorem dX12_rank_153 : decode cX12_rank 153 = .ok (.getfield 42, 3) := by decide +kernel
theorem dX12_rank_156 : decode cX12_rank 156 = .ok (.iload 6, 2) := by decide +kernel
theorem dX12_rank_158 : decode cX12_rank 158 = .ok (.iconst 1, 1) := by decide +kernel
theorem dX12_rank_159 : decode cX12_rank 159 = .ok (.isub, 1) := by decide +kernel
theorem dX12_rank_160 : decode cX12_rank 160 = .ok (.aaload, 1) := by decide +kernel
theorem dX12_rank_161 : decode cX12_rank 161 = .ok (.iload_n 3, 1) := by decide +kernel
theorem dX12_rank_162 : decode cX12_rank 162 = .ok (.iload 8, 2) := by decide +kernel
theorem dX12_rank_164 : decode cX12_rank 164 = .ok (.iload 7, 2) := by decide +kernel
theorem dX12_rank_166 : decode cX12_rank 166 = .ok (.imul, 1) := by decide +kernel
theorem dX12_rank_167 : decode cX12_rank 167 = .ok (.isub, 1) := by decide +kernel
theorem dX12_rank_168 : decode cX12_rank 168 = .ok (.laload, 1) := by decide +kernel
theorem dX12_rank_169 : decode cX12_rank 169 = .ok (.ladd, 1) := by decide +kernel
theorem dX12_rank_170 : decode cX12_rank 170 = .ok (.lstore 4, 2) := by decide +kernel
theorem dX12_rank_172 : decode cX12_rank 172 = .ok (.iinc 8 (-1), 3) := by decide +kernel
theorem dX12_rank_175 : decode cX12_rank 175 = .ok (.goto (-39), 3) := by decide +kernel
theorem dX12_rank_178 : decode cX12_rank 178 = .ok (.iload_n 3, 1) := by decide +kernel
theorem dX12_rank_179 : decode cX12_rank 179 = .ok (.aload_n 0, 1) := by decide +kernel
theorem dX12_rank_180 : decode cX12_rank 180 = .ok (.getfield 51, 3) := by decide +kernel
theorem dX12_rank_183 : decode cX12_rank 183 = .ok (.iload 6, 2) := by decide +kernel
theorem dX12_rank_185 : decode cX12_rank 185 = .ok (.iconst 1, 1) := by decide +kernel
theorem dX12_rank_186 : decode cX12_rank 186 = .ok (.isub, 1) := by decide +kernel
theorem dX12_rank_187 : decode cX12_rank 187 = .ok (.iaload, 1) := by decide +kernel
theorem dX12_rank_188 : decode cX12_rank 188 = .ok (.iload 7, 2) := by decide +kernel
theorem dX12_rank_190 : decode cX12_rank 190 = .ok (.imul, 1) := by decide +kernel
theorem dX12_rank_191 : decode cX12_rank 191 = .ok (.isub, 1) := by decide +kernel
theorem dX12_rank_192 : decode cX12_rank 192 = .ok (.istore_n 3, 1) := by decide +kernel
theorem dX12_rank_193 : decode cX12_rank 193 = .ok (.iinc 6 (-1), 3) := by decide +kernel
theorem dX12_rank_196 : decode cX12_rank 196 = .ok (.goto (-82), 3) := by decide +kernel
theorem dX12_rank_199 : decode cX12_rank 199 = .ok (.lload 4, 2) := by decide +kernel
theorem dX12_rank_201 : decode cX12_rank 201 = .ok (.lreturn, 1) := by decide +kernel
theorem dX12_list_0 : decode cX12_list 0 = .ok (.iload_n 2, 1) := by decide +kernel
theorem dX12_list_1 : decode cX12_list 1 = .ok (.ifCond .ne 56, 3) := by decide +kernel
theorem dX12_list_4 : decode cX12_list 4 = .ok (.iload_n 3, 1) := by decide +kernel
theorem dX12_list_5 : decode cX12_list 5 = .ok (.ifCond .ne 51, 3) := by decide +kernel
theorem dX12_list_8 : decode cX12_list 8 = .ok (.iconst 0, 1) := by decide +kernel
theorem dX12_list_9 : decode cX12_list 9 = .ok (.istore 4, 2) := by decide +kernel
theorem dX12_list_11 : decode cX12_list 11 = .ok (.iload 4, 2) := by decide +kernel
theorem dX12_list_13 : decode cX12_list 13 = .ok (.bipush 12, 2) := by decide +kernel
theorem dX12_list_15 : decode cX12_list 15 = .ok (.if_icmp .ge 31, 3) := by decide +kernel
theorem dX12_list_18 : decode cX12_list 18 = .ok (.aload_n 0, 1) := by decide +kernel
theorem dX12_list_19 : decode cX12_list 19 = .ok (.getfield 54, 3) := by decide +kernel
theorem dX12_list_22 : decode cX12_list 22 = .ok (.bipush 12, 2) := by decide +kernel
theorem dX12_list_24 : decode cX12_list 24 = .ok (.aload_n 0, 1) := by decide +kernel
theorem dX12_list_25 : decode cX12_list 25 = .ok (.getfield 226, 3) := by decide +kernel
theorem dX12_list_28 : decode cX12_list 28 = .ok (.imul, 1) := by decide +kernel
theorem dX12_list_29 : decode cX12_list 29 = .ok (.iload 4, 2) := by decide +kernel
theorem dX12_list_31 : decode cX12_list 31 = .ok (.iadd, 1) := by decide +kernel
theorem dX12_list_32 : decode cX12_list 32 = .ok (.aload_n 0, 1) := by decide +kernel
theorem dX12_list_33 : decode cX12_list 33 = .ok (.getfield 57, 3) := by decide +kernel
theorem dX12_list_36 : decode cX12_list 36 = .ok (.iload 4, 2) := by decide +kernel
theorem dX12_list_38 : decode cX12_list 38 = .ok (.iaload, 1) := by decide +kernel
theorem dX12_list_39 : decode cX12_list 39 = .ok (.iastore, 1) := by decide +kernel
theorem dX12_list_40 : decode cX12_list 40 = .ok (.iinc 4 1, 3) := by decide +kernel
theorem dX12_list_43 : decode cX12_list 43 = .ok (.goto (-32), 3) := by decide +kernel
theorem dX12_list_46 : decode cX12_list 46 = .ok (.aload_n 0, 1) := by decide +kernel
theorem dX12_list_47 : decode cX12_list 47 = .ok (.dup, 1) := by decide +kernel
theorem dX12_list_48 : decode cX12_list 48 = .ok (.getfield 226, 3) := by decide +kernel
theorem dX12_list_51 : decode cX12_list 51 = .ok (.iconst 1, 1) := by decide +kernel
theorem dX12_list_52 : decode cX12_list 52 = .ok (.iadd, 1) := by decide +kernel
theorem dX12_list_53 : decode cX12_list 53 = .ok (.putfield 226, 3) := by decide +kernel
theorem dX12_list_56 : decode cX12_list 56 = .ok (.return_, 1) := by decide +kernel
theorem dX12_list_57 : decode cX12_list 57 = .ok (.aload_n 0, 1) := by decide +kernel
theorem dX12_list_58 : decode cX12_list 58 = .ok (.getfield 9, 3) := by decide +kernel
theorem dX12_list_61 : decode cX12_list 61 = .ok (.iload_n 1, 1) := by decide +kernel
theorem dX12_list_62 : decode cX12_list 62 = .ok (.invokestatic 115, 3) := by decide +kernel
theorem dX12_list_65 : decode cX12_list 65 = .ok (.iload_n 2, 1) := by decide +kernel
theorem dX12_list_66 : decode cX12_list 66 = .ok (.iadd, 1) := by decide +kernel
theorem dX12_list_67 : decode cX12_list 67 = .ok (.iaload, 1) := by decide +kernel
theorem dX12_list_68 : decode cX12_list 68 = .ok (.istore 4, 2) := by decide +kernel
theorem dX12_list_70 : decode cX12_list 70 = .ok (.iload_n 3, 1) := by decide +kernel
theorem dX12_list_71 : decode cX12_list 71 = .ok (.iload 4, 2) := by decide +kernel
theorem dX12_list_73 : decode cX12_list 73 = .ok (.idiv, 1) := by decide +kernel
theorem dX12_list_74 : decode cX12_list 74 = .ok (.istore 5, 2) := by decide +kernel
theorem dX12_list_76 : decode cX12_list 76 = .ok (.iload 5, 2) := by decide +kernel
theorem dX12_list_78 : decode cX12_list 78 = .ok (.ifCond .lt 55, 3) := by decide +kernel
theorem dX12_list_81 : decode cX12_list 81 = .ok (.aload_n 0, 1) := by decide +kernel
theorem dX12_list_82 : decode cX12_list 82 = .ok (.getfield 57, 3) := by decide +kernel
theorem dX12_list_85 : decode cX12_list 85 = .ok (.iload_n 2, 1) := by decide +kernel
theorem dX12_list_86 : decode cX12_list 86 = .ok (.iconst 1, 1) := by decide +kernel
theorem dX12_list_87 : decode cX12_list 87 = .ok (.isub, 1) := by decide +kernel
theorem dX12_list_88 : decode cX12_list 88 = .ok (.iload 5, 2) := by decide +kernel
theorem dX12_list_90 : decode cX12_list 90 = .ok (.iastore, 1) := by decide +kernel
theorem dX12_list_91 : decode cX12_list 91 = .ok (.aload_n 0, 1) := by decide +kernel
theorem dX12_list_92 : decode cX12_list 92 = .ok (.getfield 42, 3) := by decide +kernel
theorem dX12_list_95 : decode cX12_list 95 = .ok (.iload_n 2, 1) := by decide +kernel
theorem dX12_list_96 : decode cX12_list 96 = .ok (.iconst 1, 1) := by decide +kernel
theorem dX12_list_97 : decode cX12_list 97 = .ok (.isub, 1) := by decide +kernel
theorem dX12_list_98 : decode cX12_list 98 = .ok (.aaload, 1) := by decide +kernel
theorem dX12_list_99 : decode cX12_list 99 = .ok (.iload_n 3, 1) := by decide +kernel
theorem dX12_list_100 : decode cX12_list 100 = .ok (.iload 5, 2) := by decide +kernel
theorem dX12_list_102 : decode cX12_list 102 = .ok (.iload 4, 2) := by decide +kernel
theorem dX12_list_104 : decode cX12_list 104 = .ok (.imul, 1) := by decide +kernel
theorem dX12_list_105 : decode cX12_list 105 = .ok (.isub, 1) := by decide +kernel
theorem dX12_list_106 : decode cX12_list 106 = .ok (.laload, 1) := by decide +kernel
theorem dX12_list_107 : decode cX12_list 107 = .ok (.lconst 0, 1) := by decide +kernel
theorem dX12_list_108 : decode cX12_list 108 = .ok (.lcmp, 1) := by decide +kernel
theorem dX12_list_109 : decode cX12_list 109 = .ok (.ifCond .le 18, 3) := by decide +kernel
theorem dX12_list_112 : decode cX12_list 112 = .ok (.aload_n 0, 1) := by decide +kernel
theorem dX12_list_113 : decode cX12_list 113 = .ok (.iload_n 1, 1) := by decide +kernel
theorem dX12_list_114 : decode cX12_list 114 = .ok (.iload_n 2, 1) := by decide +kernel
theorem dX12_list_115 : decode cX12_list 115 = .ok (.iconst 1, 1) := by decide +kernel
theorem dX12_list_116 : decode cX12_list 116 = .ok (.isub, 1) := by decide +kernel
theorem dX12_list_117 : decode cX12_list 117 = .ok (.iload_n 3, 1) := by decide +kernel
theorem dX12_list_118 : decode cX12_list 118 = .ok (.iload 5, 2) := by decide +kernel
theorem dX12_list_120 : decode cX12_list 120 = .ok (.iload 4, 2) := by decide +kernel
theorem dX12_list_122 : decode cX12_list 122 = .ok (.imul, 1) := by decide +kernel
theorem dX12_list_123 : decode cX12_list 123 = .ok (.isub, 1) := by decide +kernel
theorem dX12_list_124 : decode cX12_list 124 = .ok (.invokevirtual 229, 3) := by decide +kernel
theorem dX12_list_127 : decode cX12_list 127 = .ok (.iinc 5 (-1), 3) := by decide +kernel
theorem dX12_list_130 : decode cX12_list 130 = .ok (.goto (-54), 3) := by decide +kernel
theorem dX12_list_133 : decode cX12_list 133 = .ok (.aload_n 0, 1) := by decide +kernel
theorem dX12_list_134 : decode cX12_list 134 = .ok (.getfield 57, 3) := by decide +kernel
theorem dX12_list_137 : decode cX12_list 137 = .ok (.iload_n 2, 1) := by decide +kernel
theorem dX12_list_138 : decode cX12_list 138 = .ok (.iconst 1, 1) := by decide +kernel
theorem dX12_list_139 : decode cX12_list 139 = .ok (.isub, 1) := by decide +kernel
theorem dX12_list_140 : decode cX12_list 140 = .ok (.iconst 0, 1) := by decide +kernel
theorem dX12_list_141 : decode cX12_list 141 = .ok (.iastore, 1) := by decide +kernel
theorem dX12_list_142 : decode cX12_list 142 = .ok (.return_, 1) := by decide +kernel
theorem dX12_differ_0 : decode cX12_differ 0 = .ok (.iconst 0, 1) := by decide +kernel
theorem dX12_differ_1 : decode cX12_differ 1 = .ok (.istore_n 3, 1) := by decide +kernel
theorem dX12_differ_2 : decode cX12_differ 2 = .ok (.iconst 0, 1) := by decide +kernel
theorem dX12_differ_3 : decode cX12_differ 3 = .ok (.istore 4, 2) := by decide +kernel
theorem dX12_differ_5 : decode cX12_differ 5 = .ok (.iconst 0, 1) := by decide +kernel
theorem dX12_differ_6 : decode cX12_differ 6 = .ok (.istore 5, 2) := by decide +kernel
theorem dX12_differ_8 : decode cX12_differ 8 = .ok (.iload 5, 2) := by decide +kernel
theorem dX12_differ_10 : decode cX12_differ 10 = .ok (.bipush 12, 2) := by decide +kernel
theorem dX12_differ_12 : decode cX12_differ 12 = .ok (.if_icmp .ge 56, 3) := by decide +kernel
theorem dX12_differ_15 : decode cX12_differ 15 = .ok (.aload_n 0, 1) := by decide +kernel
theorem dX12_differ_16 : decode cX12_differ 16 = .ok (.getfield 54, 3) := by decide +kernel
theorem dX12_differ_19 : decode cX12_differ 19 = .ok (.bipush 12, 2) := by decide +kernel
theorem dX12_differ_21 : decode cX12_differ 21 = .ok (.iload_n 1, 1) := by decide +kernel
theorem dX12_differ_22 : decode cX12_differ 22 = .ok (.imul, 1) := by decide +kernel
theorem dX12_differ_23 : decode cX12_differ 23 = .ok (.iload 5, 2) := by decide +kernel
theorem dX12_differ_25 : decode cX12_differ 25 = .ok (.iadd, 1) := by decide +kernel
theorem dX12_differ_26 : decode cX12_differ 26 = .ok (.iaload, 1) := by decide +kernel
theorem dX12_differ_27 : decode cX12_differ 27 = .ok (.aload_n 0, 1) := by decide +kernel
theorem dX12_differ_28 : decode cX12_differ 28 = .ok (.getfield 54, 3) := by decide +kernel
theorem dX12_differ_31 : decode cX12_differ 31 = .ok (.bipush 12, 2) := by decide +kernel
theorem dX12_differ_33 : decode cX12_differ 33 = .ok (.iload_n 2, 1) := by decide +kernel
theorem dX12_differ_34 : decode cX12_differ 34 = .ok (.imul, 1) := by decide +kernel
theorem dX12_differ_35 : decode cX12_differ 35 = .ok (.iload 5, 2) := by decide +kernel
theorem dX12_differ_37 : decode cX12_differ 37 = .ok (.iadd, 1) := by decide +kernel
theorem dX12_differ_38 : decode cX12_differ 38 = .ok (.iaload, 1) := by decide +kernel
theorem dX12_differ_39 : decode cX12_differ 39 = .ok (.isub, 1) := by decide +kernel
theorem dX12_differ_40 : decode cX12_differ 40 = .ok (.istore 6, 2) := by decide +kernel
theorem dX12_differ_42 : decode cX12_differ 42 = .ok (.iload 6, 2) := by decide +kernel
theorem dX12_differ_44 : decode cX12_differ 44 = .ok (.ifCond .le 11, 3) := by decide +kernel
theorem dX12_differ_47 : decode cX12_differ 47 = .ok (.iload_n 3, 1) := by decide +kernel
theorem dX12_differ_48 : decode cX12_differ 48 = .ok (.iload 6, 2) := by decide +kernel
theorem dX12_differ_50 : decode cX12_differ 50 = .ok (.iadd, 1) := by decide +kernel
theorem dX12_differ_51 : decode cX12_differ 51 = .ok (.istore_n 3, 1) := by decide +kernel
theorem dX12_differ_52 : decode cX12_differ 52 = .ok (.goto 10, 3) := by decide +kernel
theorem dX12_differ_55 : decode cX12_differ 55 = .ok (.iload 4, 2) := by decide +kernel
theorem dX12_differ_57 : decode cX12_differ 57 = .ok (.iload 6, 2) := by decide +kernel
theorem dX12_differ_59 : decode cX12_differ 59 = .ok (.isub, 1) := by decide +kernel
theorem dX12_differ_60 : decode cX12_differ 60 = .ok (.istore 4, 2) := by decide +kernel
theorem dX12_differ_62 : decode cX12_differ 62 = .ok (.iinc 5 1, 3) := by decide +kernel
theorem dX12_differ_65 : decode cX12_differ 65 = .ok (.goto (-57), 3) := by decide +kernel
theorem dX12_differ_68 : decode cX12_differ 68 = .ok (.iload_n 3, 1) := by decide +kernel
theorem dX12_differ_69 : decode cX12_differ 69 = .ok (.iload 4, 2) := by decide +kernel
theorem dX12_differ_71 : decode cX12_differ 71 = .ok (.invokestatic 233, 3) := by decide +kernel
theorem dX12_differ_74 : decode cX12_differ 74 = .ok (.ireturn, 1) := by decide +kernel
theorem dX12_apart_0 : decode cX12_apart 0 = .ok (.aload_n 0, 1) := by decide +kernel
theorem dX12_apart_1 : decode cX12_apart 1 = .ok (.iconst 0, 1) := by decide +kernel
theorem dX12_apart_2 : decode cX12_apart 2 = .ok (.putfield 96, 3) := by decide +kernel
theorem dX12_apart_5 : decode cX12_apart 5 = .ok (.iload_n 1, 1) := by decide +kernel
theorem dX12_apart_6 : decode cX12_apart 6 = .ok (.invokestatic 111, 3) := by decide +kernel
theorem dX12_apart_9 : decode cX12_apart 9 = .ok (.ifCond .ne 9, 3) := by decide +kernel
theorem dX12_apart_12 : decode cX12_apart 12 = .ok (.aload_n 0, 1) := by decide +kernel
theorem dX12_apart_13 : decode cX12_apart 13 = .ok (.iconst 1, 1) := by decide +kernel
theorem dX12_apart_14 : decode cX12_apart 14 = .ok (.invokevirtual 122, 3) := by decide +kernel
theorem dX12_apart_17 : decode cX12_apart 17 = .ok (.ireturn, 1) := by decide +kernel
theorem dX12_apart_18 : decode cX12_apart 18 = .ok (.iload_n 2, 1) := by decide +kernel
theorem dX12_apart_19 : decode cX12_apart 19 = .ok (.ifCond .lt 10, 3) := by decide +kernel
theorem dX12_apart_22 : decode cX12_apart 22 = .ok (.iload_n 2, 1) := by decide +kernel
theorem dX12_apart_23 : decode cX12_apart 23 = .ok (.sipush 3001, 3) := by decide +kernel
theorem dX12_apart_26 : decode cX12_apart 26 = .ok (.if_icmp .lt 9, 3) := by decide +kernel
theorem dX12_apart_29 : decode cX12_apart 29 = .ok (.aload_n 0, 1) := by decide +kernel
theorem dX12_apart_30 : decode cX12_apart 30 = .ok (.iconst 2, 1) := by decide +kernel
theorem dX12_apart_31 : decode cX12_apart 31 = .ok (.invokevirtual 122, 3) := by decide +kernel
theorem dX12_apart_34 : decode cX12_apart 34 = .ok (.ireturn, 1) := by decide +kernel
theorem dX12_apart_35 : decode cX12_apart 35 = .ok (.aload_n 0, 1) := by decide +kernel
theorem dX12_apart_36 : decode cX12_apart 36 = .ok (.getfield 9, 3) := by decide +kernel
theorem dX12_apart_39 : decode cX12_apart 39 = .ok (.iload_n 1, 1) := by decide +kernel
theorem dX12_apart_40 : decode cX12_apart 40 = .ok (.invokestatic 115, 3) := by decide +kernel
theorem dX12_apart_43 : decode cX12_apart 43 = .ok (.iaload, 1) := by decide +kernel
theorem dX12_apart_44 : decode cX12_apart 44 = .ok (.istore_n 3, 1) := by decide +kernel
theorem dX12_apart_45 : decode cX12_apart 45 = .ok (.aload_n 0, 1) := by decide +kernel
theorem dX12_apart_46 : decode cX12_apart 46 = .ok (.aload_n 0, 1) := by decide +kernel
theorem dX12_apart_47 : decode cX12_apart 47 = .ok (.getfield 9, 3) := by decide +kernel
theorem dX12_apart_50 : decode cX12_apart 50 = .ok (.iload_n 1, 1) := by decide +kernel
theorem dX12_apart_51 : decode cX12_apart 51 = .ok (.invokestatic 115, 3) := by decide +kernel
theorem dX12_apart_54 : decode cX12_apart 54 = .ok (.iconst 1, 1) := by decide +kernel
theorem dX12_apart_55 : decode cX12_apart 55 = .ok (.iadd, 1) := by decide +kernel
theorem dX12_apart_56 : decode cX12_apart 56 = .ok (.iload_n 3, 1) := by decide +kernel
theorem dX12_apart_57 : decode cX12_apart 57 = .ok (.invokevirtual 209, 3) := by decide +kernel
theorem dX12_apart_60 : decode cX12_apart 60 = .ok (.aload_n 0, 1) := by decide +kernel
theorem dX12_apart_61 : decode cX12_apart 61 = .ok (.getfield 42, 3) := by decide +kernel
theorem dX12_apart_64 : decode cX12_apart 64 = .ok (.iload_n 3, 1) := by decide +kernel
theorem dX12_apart_65 : decode cX12_apart 65 = .ok (.aaload, 1) := by decide +kernel
theorem dX12_apart_66 : decode cX12_apart 66 = .ok (.iload_n 2, 1) := by decide +kernel
theorem dX12_apart_67 : decode cX12_apart 67 = .ok (.laload, 1) := by decide +kernel
theorem dX12_apart_68 : decode cX12_apart 68 = .ok (.lconst 0, 1) := by decide +kernel
theorem dX12_apart_69 : decode cX12_apart 69 = .ok (.lcmp, 1) := by decide +kernel
theorem dX12_apart_70 : decode cX12_apart 70 = .ok (.ifCond .ne 5, 3) := by decide +kernel
theorem dX12_apart_73 : decode cX12_apart 73 = .ok (.iconst (-1), 1) := by decide +kernel
theorem dX12_apart_74 : decode cX12_apart 74 = .ok (.ireturn, 1) := by decide +kernel
theorem dX12_apart_75 : decode cX12_apart 75 = .ok (.aload_n 0, 1) := by decide +kernel
theorem dX12_apart_76 : decode cX12_apart 76 = .ok (.getfield 42, 3) := by decide +kernel
theorem dX12_apart_79 : decode cX12_apart 79 = .ok (.iload_n 3, 1) := by decide +kernel
theorem dX12_apart_80 : decode cX12_apart 80 = .ok (.aaload, 1) := by decide +kernel
theorem dX12_apart_81 : decode cX12_apart 81 = .ok (.iload_n 2, 1) := by decide +kernel
theorem dX12_apart_82 : decode cX12_apart 82 = .ok (.laload, 1) := by decide +kernel
theorem dX12_apart_83 : decode cX12_apart 83 = .ok (.ldc2_w 236, 3) := by decide +kernel
theorem dX12_apart_86 : decode cX12_apart 86 = .ok (.lcmp, 1) := by decide +kernel
theorem dX12_apart_87 : decode cX12_apart 87 = .ok (.ifCond .le 6, 3) := by decide +kernel
theorem dX12_apart_90 : decode cX12_apart 90 = .ok (.bipush (-2), 2) := by decide +kernel
theorem dX12_apart_92 : decode cX12_apart 92 = .ok (.ireturn, 1) := by decide +kernel
theorem dX12_apart_93 : decode cX12_apart 93 = .ok (.aload_n 0, 1) := by decide +kernel
theorem dX12_apart_94 : decode cX12_apart 94 = .ok (.iconst 0, 1) := by decide +kernel
theorem dX12_apart_95 : decode cX12_apart 95 = .ok (.putfield 226, 3) := by decide +kernel
theorem dX12_apart_98 : decode cX12_apart 98 = .ok (.iconst 0, 1) := by decide +kernel
theorem dX12_apart_99 : decode cX12_apart 99 = .ok (.istore 4, 2) := by decide +kernel
theorem dX12_apart_101 : decode cX12_apart 101 = .ok (.iload 4, 2) := by decide +kernel
theorem dX12_apart_103 : decode cX12_apart 103 = .ok (.bipush 12, 2) := by decide +kernel
theorem dX12_apart_105 : decode cX12_apart 105 = .ok (.if_icmp .ge 17, 3) := by decide +kernel
theorem dX12_apart_108 : decode cX12_apart 108 = .ok (.aload_n 0, 1) := by decide +kernel
theorem dX12_apart_109 : decode cX12_apart 109 = .ok (.getfield 57, 3) := by decide +kernel
theorem dX12_apart_112 : decode cX12_apart 112 = .ok (.iload 4, 2) := by decide +kernel
theorem dX12_apart_114 : decode cX12_apart 114 = .ok (.iconst 0, 1) := by decide +kernel
theorem dX12_apart_115 : decode cX12_apart 115 = .ok (.iastore, 1) := by decide +kernel
theorem dX12_apart_116 : decode cX12_apart 116 = .ok (.iinc 4 1, 3) := by decide +kernel
theorem dX12_apart_119 : decode cX12_apart 119 = .ok (.goto (-18), 3) := by decide +kernel
theorem dX12_apart_122 : decode cX12_apart 122 = .ok (.aload_n 0, 1) := by decide +kernel
theorem dX12_apart_123 : decode cX12_apart 123 = .ok (.iload_n 1, 1) := by decide +kernel
theorem dX12_apart_124 : decode cX12_apart 124 = .ok (.iload_n 3, 1) := by decide +kernel
theorem dX12_apart_125 : decode cX12_apart 125 = .ok (.iload_n 2, 1) := by decide +kernel
theorem dX12_apart_126 : decode cX12_apart 126 = .ok (.invokevirtual 229, 3) := by decide +kernel
theorem dX12_apart_129 : decode cX12_apart 129 = .ok (.iconst 0, 1) := by decide +kernel
theorem dX12_apart_130 : decode cX12_apart 130 = .ok (.istore 4, 2) := by decide +kernel
theorem dX12_apart_132 : decode cX12_apart 132 = .ok (.iconst 0, 1) := by decide +kernel
theorem dX12_apart_133 : decode cX12_apart 133 = .ok (.istore 5, 2) := by decide +kernel
theorem dX12_apart_135 : decode cX12_apart 135 = .ok (.iload 5, 2) := by decide +kernel
theorem dX12_apart_137 : decode cX12_apart 137 = .ok (.aload_n 0, 1) := by decide +kernel
theorem dX12_apart_138 : decode cX12_apart 138 = .ok (.getfield 226, 3) := by decide +kernel
theorem dX12_apart_141 : decode cX12_apart 141 = .ok (.if_icmp .ge 32, 3) := by decide +kernel
theorem dX12_apart_144 : decode cX12_apart 144 = .ok (.aload_n 0, 1) := by decide +kernel
theorem dX12_apart_145 : decode cX12_apart 145 = .ok (.getfield 60, 3) := by decide +kernel
theorem dX12_apart_148 : decode cX12_apart 148 = .ok (.iload 5, 2) := by decide +kernel
theorem dX12_apart_150 : decode cX12_apart 150 = .ok (.iload 5, 2) := by decide +kernel
theorem dX12_apart_152 : decode cX12_apart 152 = .ok (.ifCond .ne 7, 3) := by decide +kernel
theorem dX12_apart_155 : decode cX12_apart 155 = .ok (.iconst (-1), 1) := by decide +kernel
theorem dX12_apart_156 : decode cX12_apart 156 = .ok (.goto 10, 3) := by decide +kernel
theorem dX12_apart_159 : decode cX12_apart 159 = .ok (.aload_n 0, 1) := by decide +kernel
theorem dX12_apart_160 : decode cX12_apart 160 = .ok (.iconst 0, 1) := by decide +kernel
theorem dX12_apart_161 : decode cX12_apart 161 = .ok (.iload 5, 2) := by decide +kernel
theorem dX12_apart_163 : decode cX12_apart 163 = .ok (.invokevirtual 238, 3) := by decide +kernel
theorem dX12_apart_166 : decode cX12_apart 166 = .ok (.iastore, 1) := by decide +kernel
theorem dX12_apart_167 : decode cX12_apart 167 = .ok (.iinc 5 1, 3) := by decide +kernel
theorem dX12_apart_170 : decode cX12_apart 170 = .ok (.goto (-35), 3) := by decide +kernel
theorem dX12_apart_173 : decode cX12_apart 173 = .ok (.iconst 1, 1) := by decide +kernel
theorem dX12_apart_174 : decode cX12_apart 174 = .ok (.istore 5, 2) := by decide +kernel
theorem dX12_apart_176 : decode cX12_apart 176 = .ok (.iload 5, 2) := by decide +kernel
theorem dX12_apart_178 : decode cX12_apart 178 = .ok (.aload_n 0, 1) := by decide +kernel
theorem dX12_apart_179 : decode cX12_apart 179 = .ok (.getfield 226, 3) := by decide +kernel
theorem dX12_apart_182 : decode cX12_apart 182 = .ok (.if_icmp .ge 144, 3) := by decide +kernel
theorem dX12_apart_185 : decode cX12_apart 185 = .ok (.iconst (-1), 1) := by decide +kernel
theorem dX12_apart_186 : decode cX12_apart 186 = .ok (.istore 6, 2) := by decide +kernel
theorem dX12_apart_188 : decode cX12_apart 188 = .ok (.iconst 0, 1) := by decide +kernel
theorem dX12_apart_189 : decode cX12_apart 189 = .ok (.istore 7, 2) := by decide +kernel
theorem dX12_apart_191 : decode cX12_apart 191 = .ok (.iload 7, 2) := by decide +kernel
theorem dX12_apart_193 : decode cX12_apart 193 = .ok (.aload_n 0, 1) := by decide +kernel
theorem dX12_apart_194 : decode cX12_apart 194 = .ok (.getfield 226, 3) := by decide +kernel
theorem dX12_apart_197 : decode cX12_apart 197 = .ok (.if_icmp .ge 47, 3) := by decide +kernel
theorem dX12_apart_200 : decode cX12_apart 200 = .ok (.aload_n 0, 1) := by decide +kernel
theorem dX12_apart_201 : decode cX12_apart 201 = .ok (.getfield 60, 3) := by decide +kernel
theorem dX12_apart_204 : decode cX12_apart 204 = .ok (.iload 7, 2) := by decide +kernel
theorem dX12_apart_206 : decode cX12_apart 206 = .ok (.iaload, 1) := by decide +kernel
theorem dX12_apart_207 : decode cX12_apart 207 = .ok (.iconst (-1), 1) := by decide +kernel
theorem dX12_apart_208 : decode cX12_apart 208 = .ok (.if_icmp .eq 30, 3) := by decide +kernel
theorem dX12_apart_211 : decode cX12_apart 211 = .ok (.iload 6, 2) := by decide +kernel
theorem dX12_apart_213 : decode cX12_apart 213 = .ok (.iconst (-1), 1) := by decide +kernel
theorem dX12_apart_214 : decode cX12_apart 214 = .ok (.if_icmp .eq 20, 3) := by decide +kernel
theorem dX12_apart_217 : decode cX12_apart 217 = .ok (.aload_n 0, 1) := by decide +kernel
theorem dX12_apart_218 : decode cX12_apart 218 = .ok (.getfield 60, 3) := by decide +kernel
theorem dX12_apart_221 : decode cX12_apart 221 = .ok (.iload 7, 2) := by decide +kernel
theorem dX12_apart_223 : decode cX12_apart 223 = .ok (.iaload, 1) := by decide +kernel
theorem dX12_apart_224 : decode cX12_apart 224 = .ok (.aload_n 0, 1) := by decide +kernel
theorem dX12_apart_225 : decode cX12_apart 225 = .ok (.getfield 60, 3) := by decide +kernel
theorem dX12_apart_228 : decode cX12_apart 228 = .ok (.iload 6, 2) := by decide +kernel
theorem dX12_apart_230 : decode cX12_apart 230 = .ok (.iaload, 1) := by decide +kernel
theorem dX12_apart_231 : decode cX12_apart 231 = .ok (.if_icmp .ge 7, 3) := by decide +kernel
theorem dX12_apart_234 : decode cX12_apart 234 = .ok (.iload 7, 2) := by decide +kernel
theorem dX12_apart_236 : decode cX12_apart 236 = .ok (.istore 6, 2) := by decide +kernel
theorem dX12_apart_238 : decode cX12_apart 238 = .ok (.iinc 7 1, 3) := by decide +kernel
theorem dX12_apart_241 : decode cX12_apart 241 = .ok (.goto (-50), 3) := by decide +kernel
theorem dX12_apart_244 : decode cX12_apart 244 = .ok (.iload 4, 2) := by decide +kernel
theorem dX12_apart_246 : decode cX12_apart 246 = .ok (.aload_n 0, 1) := by decide +kernel
theorem dX12_apart_247 : decode cX12_apart 247 = .ok (.getfield 60, 3) := by decide +kernel
theorem dX12_apart_250 : decode cX12_apart 250 = .ok (.iload 6, 2) := by decide +kernel
theorem dX12_apart_252 : decode cX12_apart 252 = .ok (.iaload, 1) := by decide +kernel
theorem dX12_apart_253 : decode cX12_apart 253 = .ok (.invokestatic 233, 3) := by decide +kernel
theorem dX12_apart_256 : decode cX12_apart 256 = .ok (.istore 4, 2) := by decide +kernel
theorem dX12_apart_258 : decode cX12_apart 258 = .ok (.aload_n 0, 1) := by decide +kernel
theorem dX12_apart_259 : decode cX12_apart 259 = .ok (.getfield 60, 3) := by decide +kernel
theorem dX12_apart_262 : decode cX12_apart 262 = .ok (.iload 6, 2) := by decide +kernel
theorem dX12_apart_264 : decode cX12_apart 264 = .ok (.iconst (-1), 1) := by decide +kernel
theorem dX12_apart_265 : decode cX12_apart 265 = .ok (.iastore, 1) := by decide +kernel
theorem dX12_apart_266 : decode cX12_apart 266 = .ok (.iconst 0, 1) := by decide +kernel
theorem dX12_apart_267 : decode cX12_apart 267 = .ok (.istore 7, 2) := by decide +kernel
theorem dX12_apart_269 : decode cX12_apart 269 = .ok (.iload 7, 2) := by decide +kernel
theorem dX12_apart_271 : decode cX12_apart 271 = .ok (.aload_n 0, 1) := by decide +kernel
theorem dX12_apart_272 : decode cX12_apart 272 = .ok (.getfield 226, 3) := by decide +kernel
theorem dX12_apart_275 : decode cX12_apart 275 = .ok (.if_icmp .ge 45, 3) := by decide +kernel
theorem dX12_apart_278 : decode cX12_apart 278 = .ok (.aload_n 0, 1) := by decide +kernel
theorem dX12_apart_279 : decode cX12_apart 279 = .ok (.getfield 60, 3) := by decide +kernel
theorem dX12_apart_282 : decode cX12_apart 282 = .ok (.iload 7, 2) := by decide +kernel
theorem dX12_apart_284 : decode cX12_apart 284 = .ok (.iaload, 1) := by decide +kernel
theorem dX12_apart_285 : decode cX12_apart 285 = .ok (.iconst (-1), 1) := by decide +kernel
theorem dX12_apart_286 : decode cX12_apart 286 = .ok (.if_icmp .eq 28, 3) := by decide +kernel
theorem dX12_apart_289 : decode cX12_apart 289 = .ok (.aload_n 0, 1) := by decide +kernel
theorem dX12_apart_290 : decode cX12_apart 290 = .ok (.getfield 60, 3) := by decide +kernel
theorem dX12_apart_293 : decode cX12_apart 293 = .ok (.iload 7, 2) := by decide +kernel
theorem dX12_apart_295 : decode cX12_apart 295 = .ok (.aload_n 0, 1) := by decide +kernel
theorem dX12_apart_296 : decode cX12_apart 296 = .ok (.getfield 60, 3) := by decide +kernel
theorem dX12_apart_299 : decode cX12_apart 299 = .ok (.iload 7, 2) := by decide +kernel
theorem dX12_apart_301 : decode cX12_apart 301 = .ok (.iaload, 1) := by decide +kernel
theorem dX12_apart_302 : decode cX12_apart 302 = .ok (.aload_n 0, 1) := by decide +kernel
theorem dX12_apart_303 : decode cX12_apart 303 = .ok (.iload 6, 2) := by decide +kernel
theorem dX12_apart_305 : decode cX12_apart 305 = .ok (.iload 7, 2) := by decide +kernel
theorem dX12_apart_307 : decode cX12_apart 307 = .ok (.invokevirtual 238, 3) := by decide +kernel
theorem dX12_apart_310 : decode cX12_apart 310 = .ok (.invokestatic 157, 3) := by decide +kernel
theorem dX12_apart_313 : decode cX12_apart 313 = .ok (.iastore, 1) := by decide +kernel
theorem dX12_apart_314 : decode cX12_apart 314 = .ok (.iinc 7 1, 3) := by decide +kernel
theorem dX12_apart_317 : decode cX12_apart 317 = .ok (.goto (-48), 3) := by decide +kernel
theorem dX12_apart_320 : decode cX12_apart 320 = .ok (.iinc 5 1, 3) := by decide +kernel
theorem dX12_apart_323 : decode cX12_apart 323 = .ok (.goto (-147), 3) := by decide +kernel
theorem dX12_apart_326 : decode cX12_apart 326 = .ok (.iload 4, 2) := by decide +kernel
theorem dX12_apart_328 : decode cX12_apart 328 = .ok (.ireturn, 1) := by decide +kernel
theorem dX12_stamps_0 : decode cX12_stamps 0 = .ok (.aload_n 0, 1) := by decide +kernel
theorem dX12_stamps_1 : decode cX12_stamps 1 = .ok (.iconst 0, 1) := by decide +kernel
theorem dX12_stamps_2 : decode cX12_stamps 2 = .ok (.putfield 96, 3) := by decide +kernel
theorem dX12_stamps_5 : decode cX12_stamps 5 = .ok (.iload_n 1, 1) := by decide +kernel
theorem dX12_stamps_6 : decode cX12_stamps 6 = .ok (.invokestatic 111, 3) := by decide +kernel
theorem dX12_stamps_9 : decode cX12_stamps 9 = .ok (.ifCond .ne 9, 3) := by decide +kernel
theorem dX12_stamps_12 : decode cX12_stamps 12 = .ok (.aload_n 0, 1) := by decide +kernel
theorem dX12_stamps_13 : decode cX12_stamps 13 = .ok (.iconst 1, 1) := by decide +kernel
theorem dX12_stamps_14 : decode cX12_stamps 14 = .ok (.invokevirtual 122, 3) := by decide +kernel
theorem dX12_stamps_17 : decode cX12_stamps 17 = .ok (.ireturn, 1) := by decide +kernel
theorem dX12_stamps_18 : decode cX12_stamps 18 = .ok (.iload_n 2, 1) := by decide +kernel
theorem dX12_stamps_19 : decode cX12_stamps 19 = .ok (.iconst 1, 1) := by decide +kernel
theorem dX12_stamps_20 : decode cX12_stamps 20 = .ok (.if_icmp .lt 9, 3) := by decide +kernel
theorem dX12_stamps_23 : decode cX12_stamps 23 = .ok (.iload_n 2, 1) := by decide +kernel
theorem dX12_stamps_24 : decode cX12_stamps 24 = .ok (.bipush 50, 2) := by decide +kernel
theorem dX12_stamps_26 : decode cX12_stamps 26 = .ok (.if_icmp .le 9, 3) := by decide +kernel
theorem dX12_stamps_29 : decode cX12_stamps 29 = .ok (.aload_n 0, 1) := by decide +kernel
theorem dX12_stamps_30 : decode cX12_stamps 30 = .ok (.iconst 2, 1) := by decide +kernel
theorem dX12_stamps_31 : decode cX12_stamps 31 = .ok (.invokevirtual 122, 3) := by decide +kernel
theorem dX12_stamps_34 : decode cX12_stamps 34 = .ok (.ireturn, 1) := by decide +kernel
theorem dX12_stamps_35 : decode cX12_stamps 35 = .ok (.aload_n 0, 1) := by decide +kernel
theorem dX12_stamps_36 : decode cX12_stamps 36 = .ok (.iload_n 1, 1) := by decide +kernel
theorem dX12_stamps_37 : decode cX12_stamps 37 = .ok (.invokevirtual 145, 3) := by decide +kernel
theorem dX12_stamps_40 : decode cX12_stamps 40 = .ok (.iconst 0, 1) := by decide +kernel
theorem dX12_stamps_41 : decode cX12_stamps 41 = .ok (.istore_n 3, 1) := by decide +kernel
theorem dX12_stamps_42 : decode cX12_stamps 42 = .ok (.aload_n 0, 1) := by decide +kernel
theorem dX12_stamps_43 : decode cX12_stamps 43 = .ok (.getfield 26, 3) := by decide +kernel
theorem dX12_stamps_46 : decode cX12_stamps 46 = .ok (.aload_n 0, 1) := by decide +kernel
theorem dX12_stamps_47 : decode cX12_stamps 47 = .ok (.getfield 21, 3) := by decide +kernel
theorem dX12_stamps_50 : decode cX12_stamps 50 = .ok (.aaload, 1) := by decide +kernel
theorem dX12_stamps_51 : decode cX12_stamps 51 = .ok (.iload_n 3, 1) := by decide +kernel
theorem dX12_stamps_52 : decode cX12_stamps 52 = .ok (.iconst 1, 1) := by decide +kernel
theorem dX12_stamps_53 : decode cX12_stamps 53 = .ok (.iadd, 1) := by decide +kernel
theorem dX12_stamps_54 : decode cX12_stamps 54 = .ok (.iaload, 1) := by decide +kernel
theorem dX12_stamps_55 : decode cX12_stamps 55 = .ok (.iload_n 2, 1) := by decide +kernel
theorem dX12_stamps_56 : decode cX12_stamps 56 = .ok (.if_icmp .gt 9, 3) := by decide +kernel
theorem dX12_stamps_59 : decode cX12_stamps 59 = .ok (.iinc 3 1, 3) := by decide +kernel
theorem dX12_stamps_62 : decode cX12_stamps 62 = .ok (.goto (-20), 3) := by decide +kernel
theorem dX12_stamps_65 : decode cX12_stamps 65 = .ok (.iload_n 3, 1) := by decide +kernel
theorem dX12_stamps_66 : decode cX12_stamps 66 = .ok (.ireturn, 1) := by decide +kernel
theorem dX12_span_0 : decode cX12_span 0 = .ok (.aload_n 0, 1) := by decide +kernel
theorem dX12_span_1 : decode cX12_span 1 = .ok (.iconst 0, 1) := by decide +kernel
theorem dX12_span_2 : decode cX12_span 2 = .ok (.putfield 96, 3) := by decide +kernel
theorem dX12_span_5 : decode cX12_span 5 = .ok (.iload_n 1, 1) := by decide +kernel
theorem dX12_span_6 : decode cX12_span 6 = .ok (.invokestatic 111, 3) := by decide +kernel
theorem dX12_span_9 : decode cX12_span 9 = .ok (.ifCond .ne 10, 3) := by decide +kernel
theorem dX12_span_12 : decode cX12_span 12 = .ok (.aload_n 0, 1) := by decide +kernel
theorem dX12_span_13 : decode cX12_span 13 = .ok (.iconst 1, 1) := by decide +kernel
theorem dX12_span_14 : decode cX12_span 14 = .ok (.invokevirtual 122, 3) := by decide +kernel
theorem dX12_span_17 : decode cX12_span 17 = .ok (.i2l, 1) := by decide +kernel
theorem dX12_span_18 : decode cX12_span 18 = .ok (.lreturn, 1) := by decide +kernel
theorem dX12_span_19 : decode cX12_span 19 = .ok (.iload_n 2, 1) := by decide +kernel
theorem dX12_span_20 : decode cX12_span 20 = .ok (.ifCond .lt 14, 3) := by decide +kernel
theorem dX12_span_23 : decode cX12_span 23 = .ok (.iload_n 2, 1) := by decide +kernel
theorem dX12_span_24 : decode cX12_span 24 = .ok (.iload_n 3, 1) := by decide +kernel
theorem dX12_span_25 : decode cX12_span 25 = .ok (.if_icmp .gt 9, 3) := by decide +kernel
theorem dX12_span_28 : decode cX12_span 28 = .ok (.iload_n 3, 1) := by decide +kernel
theorem dX12_span_29 : decode cX12_span 29 = .ok (.ldc 241, 2) := by decide +kernel
theorem dX12_span_31 : decode cX12_span 31 = .ok (.if_icmp .le 10, 3) := by decide +kernel
theorem dX12_span_34 : decode cX12_span 34 = .ok (.aload_n 0, 1) := by decide +kernel
theorem dX12_span_35 : decode cX12_span 35 = .ok (.iconst 2, 1) := by decide +kernel
theorem dX12_span_36 : decode cX12_span 36 = .ok (.invokevirtual 122, 3) := by decide +kernel
theorem dX12_span_39 : decode cX12_span 39 = .ok (.i2l, 1) := by decide +kernel
theorem dX12_span_40 : decode cX12_span 40 = .ok (.lreturn, 1) := by decide +kernel
theorem dX12_span_41 : decode cX12_span 41 = .ok (.aload_n 0, 1) := by decide +kernel
theorem dX12_span_42 : decode cX12_span 42 = .ok (.iload_n 1, 1) := by decide +kernel
theorem dX12_span_43 : decode cX12_span 43 = .ok (.invokevirtual 145, 3) := by decide +kernel
theorem dX12_span_46 : decode cX12_span 46 = .ok (.lconst 0, 1) := by decide +kernel
theorem dX12_span_47 : decode cX12_span 47 = .ok (.lstore 4, 2) := by decide +kernel
theorem dX12_span_49 : decode cX12_span 49 = .ok (.iload_n 2, 1) := by decide +kernel
theorem dX12_span_50 : decode cX12_span 50 = .ok (.istore 6, 2) := by decide +kernel
theorem dX12_span_52 : decode cX12_span 52 = .ok (.iload 6, 2) := by decide +kernel
theorem dX12_span_54 : decode cX12_span 54 = .ok (.iload_n 3, 1) := by decide +kernel
theorem dX12_span_55 : decode cX12_span 55 = .ok (.if_icmp .gt 40, 3) := by decide +kernel
theorem dX12_span_58 : decode cX12_span 58 = .ok (.aload_n 0, 1) := by decide +kernel
theorem dX12_span_59 : decode cX12_span 59 = .ok (.iload 6, 2) := by decide +kernel
theorem dX12_span_61 : decode cX12_span 61 = .ok (.invokevirtual 171, 3) := by decide +kernel
theorem dX12_span_64 : decode cX12_span 64 = .ok (.ifCond .ne 7, 3) := by decide +kernel
theorem dX12_span_67 : decode cX12_span 67 = .ok (.ldc2_w 135, 3) := by decide +kernel
theorem dX12_span_70 : decode cX12_span 70 = .ok (.lreturn, 1) := by decide +kernel
theorem dX12_span_71 : decode cX12_span 71 = .ok (.lload 4, 2) := by decide +kernel
theorem dX12_span_73 : decode cX12_span 73 = .ok (.aload_n 0, 1) := by decide +kernel
theorem dX12_span_74 : decode cX12_span 74 = .ok (.getfield 26, 3) := by decide +kernel
theorem dX12_span_77 : decode cX12_span 77 = .ok (.aload_n 0, 1) := by decide +kernel
theorem dX12_span_78 : decode cX12_span 78 = .ok (.getfield 21, 3) := by decide +kernel
theorem dX12_span_81 : decode cX12_span 81 = .ok (.aaload, 1) := by decide +kernel
theorem dX12_span_82 : decode cX12_span 82 = .ok (.iload 6, 2) := by decide +kernel
theorem dX12_span_84 : decode cX12_span 84 = .ok (.iaload, 1) := by decide +kernel
theorem dX12_span_85 : decode cX12_span 85 = .ok (.i2l, 1) := by decide +kernel
theorem dX12_span_86 : decode cX12_span 86 = .ok (.ladd, 1) := by decide +kernel
theorem dX12_span_87 : decode cX12_span 87 = .ok (.lstore 4, 2) := by decide +kernel
theorem dX12_span_89 : decode cX12_span 89 = .ok (.iinc 6 1, 3) := by decide +kernel
theorem dX12_span_92 : decode cX12_span 92 = .ok (.goto (-40), 3) := by decide +kernel
theorem dX12_span_95 : decode cX12_span 95 = .ok (.lload 4, 2) := by decide +kernel
theorem dX12_span_97 : decode cX12_span 97 = .ok (.lreturn, 1) := by decide +kernel
theorem dX12_trialStamps_0 : decode cX12_trialStamps 0 = .ok (.iconst 0, 1) := by decide +kernel
theorem dX12_trialStamps_1 : decode cX12_trialStamps 1 = .ok (.istore_n 2, 1) := by decide +kernel
theorem dX12_trialStamps_2 : decode cX12_trialStamps 2 = .ok (.iconst 0, 1) := by decide +kernel
theorem dX12_trialStamps_3 : decode cX12_trialStamps 3 = .ok (.istore_n 3, 1) := by decide +kernel
theorem dX12_trialStamps_4 : decode cX12_trialStamps 4 = .ok (.aload_n 0, 1) := by decide +kernel
theorem dX12_trialStamps_5 : decode cX12_trialStamps 5 = .ok (.getfield 69, 3) := by decide +kernel
theorem dX12_trialStamps_8 : decode cX12_trialStamps 8 = .ok (.iconst 0, 1) := by decide +kernel
theorem dX12_trialStamps_9 : decode cX12_trialStamps 9 = .ok (.iconst 0, 1) := by decide +kernel
theorem dX12_trialStamps_10 : decode cX12_trialStamps 10 = .ok (.iastore, 1) := by decide +kernel
theorem dX12_trialStamps_11 : decode cX12_trialStamps 11 = .ok (.iload_n 3, 1) := by decide +kernel
theorem dX12_trialStamps_12 : decode cX12_trialStamps 12 = .ok (.aload_n 0, 1) := by decide +kernel
theorem dX12_trialStamps_13 : decode cX12_trialStamps 13 = .ok (.getfield 242, 3) := by decide +kernel
theorem dX12_trialStamps_16 : decode cX12_trialStamps 16 = .ok (.if_icmp .gt 66, 3) := by decide +kernel
theorem dX12_trialStamps_19 : decode cX12_trialStamps 19 = .ok (.iinc 2 1, 3) := by decide +kernel
theorem dX12_trialStamps_22 : decode cX12_trialStamps 22 = .ok (.ldc 126, 2) := by decide +kernel
theorem dX12_trialStamps_24 : decode cX12_trialStamps 24 = .ok (.istore_n 3, 1) := by decide +kernel
theorem dX12_trialStamps_25 : decode cX12_trialStamps 25 = .ok (.iconst 0, 1) := by decide +kernel
theorem dX12_trialStamps_26 : decode cX12_trialStamps 26 = .ok (.istore 4, 2) := by decide +kernel
theorem dX12_trialStamps_28 : decode cX12_trialStamps 28 = .ok (.iload 4, 2) := by decide +kernel
theorem dX12_trialStamps_30 : decode cX12_trialStamps 30 = .ok (.iload_n 1, 1) := by decide +kernel
theorem dX12_trialStamps_31 : decode cX12_trialStamps 31 = .ok (.if_icmp .ge 41, 3) := by decide +kernel
theorem dX12_trialStamps_34 : decode cX12_trialStamps 34 = .ok (.aload_n 0, 1) := by decide +kernel
theorem dX12_trialStamps_35 : decode cX12_trialStamps 35 = .ok (.getfield 63, 3) := by decide +kernel
theorem dX12_trialStamps_38 : decode cX12_trialStamps 38 = .ok (.iload 4, 2) := by decide +kernel
theorem dX12_trialStamps_40 : decode cX12_trialStamps 40 = .ok (.iaload, 1) := by decide +kernel
theorem dX12_trialStamps_41 : decode cX12_trialStamps 41 = .ok (.iload_n 2, 1) := by decide +kernel
theorem dX12_trialStamps_42 : decode cX12_trialStamps 42 = .ok (.if_icmp .gt 24, 3) := by decide +kernel
theorem dX12_trialStamps_45 : decode cX12_trialStamps 45 = .ok (.iload_n 3, 1) := by decide +kernel
theorem dX12_trialStamps_46 : decode cX12_trialStamps 46 = .ok (.aload_n 0, 1) := by decide +kernel
theorem dX12_trialStamps_47 : decode cX12_trialStamps 47 = .ok (.getfield 69, 3) := by decide +kernel
theorem dX12_trialStamps_50 : decode cX12_trialStamps 50 = .ok (.iload_n 2, 1) := by decide +kernel
theorem dX12_trialStamps_51 : decode cX12_trialStamps 51 = .ok (.aload_n 0, 1) := by decide +kernel
theorem dX12_trialStamps_52 : decode cX12_trialStamps 52 = .ok (.getfield 63, 3) := by decide +kernel
theorem dX12_trialStamps_55 : decode cX12_trialStamps 55 = .ok (.iload 4, 2) := by decide +kernel
theorem dX12_trialStamps_57 : decode cX12_trialStamps 57 = .ok (.iaload, 1) := by decide +kernel
theorem dX12_trialStamps_58 : decode cX12_trialStamps 58 = .ok (.isub, 1) := by decide +kernel
theorem dX12_trialStamps_59 : decode cX12_trialStamps 59 = .ok (.iaload, 1) := by decide +kernel
theorem dX12_trialStamps_60 : decode cX12_trialStamps 60 = .ok (.iconst 1, 1) := by decide +kernel
theorem dX12_trialStamps_61 : decode cX12_trialStamps 61 = .ok (.iadd, 1) := by decide +kernel
theorem dX12_trialStamps_62 : decode cX12_trialStamps 62 = .ok (.invokestatic 157, 3) := by decide +kernel
theorem dX12_trialStamps_65 : decode cX12_trialStamps 65 = .ok (.istore_n 3, 1) := by decide +kernel
theorem dX12_trialStamps_66 : decode cX12_trialStamps 66 = .ok (.iinc 4 1, 3) := by decide +kernel
theorem dX12_trialStamps_69 : decode cX12_trialStamps 69 = .ok (.goto (-41), 3) := by decide +kernel
theorem dX12_trialStamps_72 : decode cX12_trialStamps 72 = .ok (.aload_n 0, 1) := by decide +kernel
theorem dX12_trialStamps_73 : decode cX12_trialStamps 73 = .ok (.getfield 69, 3) := by decide +kernel
theorem dX12_trialStamps_76 : decode cX12_trialStamps 76 = .ok (.iload_n 2, 1) := by decide +kernel
theorem dX12_trialStamps_77 : decode cX12_trialStamps 77 = .ok (.iload_n 3, 1) := by decide +kernel
theorem dX12_trialStamps_78 : decode cX12_trialStamps 78 = .ok (.iastore, 1) := by decide +kernel
theorem dX12_trialStamps_79 : decode cX12_trialStamps 79 = .ok (.goto (-68), 3) := by decide +kernel
theorem dX12_trialStamps_82 : decode cX12_trialStamps 82 = .ok (.iload_n 2, 1) := by decide +kernel
theorem dX12_trialStamps_83 : decode cX12_trialStamps 83 = .ok (.iconst 1, 1) := by decide +kernel
theorem dX12_trialStamps_84 : decode cX12_trialStamps 84 = .ok (.isub, 1) := by decide +kernel
theorem dX12_trialStamps_85 : decode cX12_trialStamps 85 = .ok (.ireturn, 1) := by decide +kernel
theorem dX12_search_0 : decode cX12_search 0 = .ok (.aload_n 0, 1) := by decide +kernel
theorem dX12_search_1 : decode cX12_search 1 = .ok (.dup, 1) := by decide +kernel
theorem dX12_search_2 : decode cX12_search 2 = .ok (.getfield 245, 3) := by decide +kernel
theorem dX12_search_5 : decode cX12_search 5 = .ok (.iconst 1, 1) := by decide +kernel
theorem dX12_search_6 : decode cX12_search 6 = .ok (.iadd, 1) := by decide +kernel
theorem dX12_search_7 : decode cX12_search 7 = .ok (.putfield 245, 3) := by decide +kernel
theorem dX12_search_10 : decode cX12_search 10 = .ok (.aload_n 0, 1) := by decide +kernel
theorem dX12_search_11 : decode cX12_search 11 = .ok (.getfield 245, 3) := by decide +kernel
theorem dX12_search_14 : decode cX12_search 14 = .ok (.sipush 2000, 3) := by decide +kernel
theorem dX12_search_17 : decode cX12_search 17 = .ok (.if_icmp .le 4, 3) := by decide +kernel
theorem dX12_search_20 : decode cX12_search 20 = .ok (.return_, 1) := by decide +kernel
theorem dX12_search_21 : decode cX12_search 21 = .ok (.aload_n 0, 1) := by decide +kernel
theorem dX12_search_22 : decode cX12_search 22 = .ok (.iload_n 1, 1) := by decide +kernel
theorem dX12_search_23 : decode cX12_search 23 = .ok (.invokevirtual 248, 3) := by decide +kernel
theorem dX12_search_26 : decode cX12_search 26 = .ok (.istore_n 2, 1) := by decide +kernel
theorem dX12_search_27 : decode cX12_search 27 = .ok (.iload_n 1, 1) := by decide +kernel
theorem dX12_search_28 : decode cX12_search 28 = .ok (.aload_n 0, 1) := by decide +kernel
theorem dX12_search_29 : decode cX12_search 29 = .ok (.getfield 251, 3) := by decide +kernel
theorem dX12_search_32 : decode cX12_search 32 = .ok (.if_icmp .ne 42, 3) := by decide +kernel
theorem dX12_search_35 : decode cX12_search 35 = .ok (.iload_n 2, 1) := by decide +kernel
theorem dX12_search_36 : decode cX12_search 36 = .ok (.aload_n 0, 1) := by decide +kernel
theorem dX12_search_37 : decode cX12_search 37 = .ok (.getfield 254, 3) := by decide +kernel
theorem dX12_search_40 : decode cX12_search 40 = .ok (.if_icmp .le 33, 3) := by decide +kernel
theorem dX12_search_43 : decode cX12_search 43 = .ok (.aload_n 0, 1) := by decide +kernel
theorem dX12_search_44 : decode cX12_search 44 = .ok (.iload_n 2, 1) := by decide +kernel
theorem dX12_search_45 : decode cX12_search 45 = .ok (.putfield 254, 3) := by decide +kernel
theorem dX12_search_48 : decode cX12_search 48 = .ok (.iconst 0, 1) := by decide +kernel
theorem dX12_search_49 : decode cX12_search 49 = .ok (.istore_n 3, 1) := by decide +kernel
theorem dX12_search_50 : decode cX12_search 50 = .ok (.iload_n 3, 1) := by decide +kernel
theorem dX12_search_51 : decode cX12_search 51 = .ok (.iload_n 1, 1) := by decide +kernel
theorem dX12_search_52 : decode cX12_search 52 = .ok (.if_icmp .ge 21, 3) := by decide +kernel
theorem dX12_search_55 : decode cX12_search 55 = .ok (.aload_n 0, 1) := by decide +kernel
theorem dX12_search_56 : decode cX12_search 56 = .ok (.getfield 66, 3) := by decide +kernel
theorem dX12_search_59 : decode cX12_search 59 = .ok (.iload_n 3, 1) := by decide +kernel
theorem dX12_search_60 : decode cX12_search 60 = .ok (.aload_n 0, 1) := by decide +kernel
theorem dX12_search_61 : decode cX12_search 61 = .ok (.getfield 63, 3) := by decide +kernel
theorem dX12_search_64 : decode cX12_search 64 = .ok (.iload_n 3, 1) := by decide +kernel
theorem dX12_search_65 : decode cX12_search 65 = .ok (.iaload, 1) := by decide +kernel
theorem dX12_search_66 : decode cX12_search 66 = .ok (.iastore, 1) := by decide +kernel
theorem dX12_search_67 : decode cX12_search 67 = .ok (.iinc 3 1, 3) := by decide +kernel
theorem dX12_search_70 : decode cX12_search 70 = .ok (.goto (-20), 3) := by decide +kernel
theorem dX12_search_73 : decode cX12_search 73 = .ok (.return_, 1) := by decide +kernel
theorem dX12_search_74 : decode cX12_search 74 = .ok (.aload_n 0, 1) := by decide +kernel
theorem dX12_search_75 : decode cX12_search 75 = .ok (.getfield 63, 3) := by decide +kernel
theorem dX12_search_78 : decode cX12_search 78 = .ok (.iload_n 1, 1) := by decide +kernel
theorem dX12_search_79 : decode cX12_search 79 = .ok (.iconst 1, 1) := by decide +kernel
theorem dX12_search_80 : decode cX12_search 80 = .ok (.isub, 1) := by decide +kernel
theorem dX12_search_81 : decode cX12_search 81 = .ok (.iaload, 1) := by decide +kernel
theorem dX12_search_82 : decode cX12_search 82 = .ok (.iconst 1, 1) := by decide +kernel
theorem dX12_search_83 : decode cX12_search 83 = .ok (.iadd, 1) := by decide +kernel
theorem dX12_search_84 : decode cX12_search 84 = .ok (.istore_n 3, 1) := by decide +kernel
theorem dX12_search_85 : decode cX12_search 85 = .ok (.iload_n 3, 1) := by decide +kernel
theorem dX12_search_86 : decode cX12_search 86 = .ok (.iload_n 2, 1) := by decide +kernel
theorem dX12_search_87 : decode cX12_search 87 = .ok (.iconst 1, 1) := by decide +kernel
theorem dX12_search_88 : decode cX12_search 88 = .ok (.iadd, 1) := by decide +kernel
theorem dX12_search_89 : decode cX12_search 89 = .ok (.if_icmp .gt 40, 3) := by decide +kernel
theorem dX12_search_92 : decode cX12_search 92 = .ok (.iload_n 3, 1) := by decide +kernel
theorem dX12_search_93 : decode cX12_search 93 = .ok (.sipush 300, 3) := by decide +kernel
theorem dX12_search_96 : decode cX12_search 96 = .ok (.if_icmp .gt 33, 3) := by decide +kernel
theorem dX12_search_99 : decode cX12_search 99 = .ok (.aload_n 0, 1) := by decide +kernel
theorem dX12_search_100 : decode cX12_search 100 = .ok (.getfield 245, 3) := by decide +kernel
theorem dX12_search_103 : decode cX12_search 103 = .ok (.sipush 2000, 3) := by decide +kernel
theorem dX12_search_106 : decode cX12_search 106 = .ok (.if_icmp .gt 23, 3) := by decide +kernel
theorem dX12_search_109 : decode cX12_search 109 = .ok (.aload_n 0, 1) := by decide +kernel
theorem dX12_search_110 : decode cX12_search 110 = .ok (.getfield 63, 3) := by decide +kernel
theorem dX12_search_113 : decode cX12_search 113 = .ok (.iload_n 1, 1) := by decide +kernel
theorem dX12_search_114 : decode cX12_search 114 = .ok (.iload_n 3, 1) := by decide +kernel
theorem dX12_search_115 : decode cX12_search 115 = .ok (.iastore, 1) := by decide +kernel
theorem dX12_search_116 : decode cX12_search 116 = .ok (.aload_n 0, 1) := by decide +kernel
theorem dX12_search_117 : decode cX12_search 117 = .ok (.iload_n 1, 1) := by decide +kernel
theorem dX12_search_118 : decode cX12_search 118 = .ok (.iconst 1, 1) := by decide +kernel
theorem dX12_search_119 : decode cX12_search 119 = .ok (.iadd, 1) := by decide +kernel
theorem dX12_search_120 : decode cX12_search 120 = .ok (.invokevirtual 257, 3) := by decide +kernel
theorem dX12_search_123 : decode cX12_search 123 = .ok (.iinc 3 1, 3) := by decide +kernel
theorem dX12_search_126 : decode cX12_search 126 = .ok (.goto (-41), 3) := by decide +kernel
theorem dX12_search_129 : decode cX12_search 129 = .ok (.return_, 1) := by decide +kernel
theorem dX12_best_0 : decode cX12_best 0 = .ok (.aload_n 0, 1) := by decide +kernel
theorem dX12_best_1 : decode cX12_best 1 = .ok (.iconst 0, 1) := by decide +kernel
theorem dX12_best_2 : decode cX12_best 2 = .ok (.putfield 96, 3) := by decide +kernel
theorem dX12_best_5 : decode cX12_best 5 = .ok (.iload_n 3, 1) := by decide +kernel
theorem dX12_best_6 : decode cX12_best 6 = .ok (.invokestatic 111, 3) := by decide +kernel
theorem dX12_best_9 : decode cX12_best 9 = .ok (.ifCond .ne 9, 3) := by decide +kernel
theorem dX12_best_12 : decode cX12_best 12 = .ok (.aload_n 0, 1) := by decide +kernel
theorem dX12_best_13 : decode cX12_best 13 = .ok (.iconst 1, 1) := by decide +kernel
theorem dX12_best_14 : decode cX12_best 14 = .ok (.invokevirtual 122, 3) := by decide +kernel
theorem dX12_best_17 : decode cX12_best 17 = .ok (.ireturn, 1) := by decide +kernel
theorem dX12_best_18 : decode cX12_best 18 = .ok (.iload_n 1, 1) := by decide +kernel
theorem dX12_best_19 : decode cX12_best 19 = .ok (.iconst 1, 1) := by decide +kernel
theorem dX12_best_20 : decode cX12_best 20 = .ok (.if_icmp .lt 20, 3) := by decide +kernel
theorem dX12_best_23 : decode cX12_best 23 = .ok (.iload_n 1, 1) := by decide +kernel
theorem dX12_best_24 : decode cX12_best 24 = .ok (.bipush 6, 2) := by decide +kernel
theorem dX12_best_26 : decode cX12_best 26 = .ok (.if_icmp .gt 14, 3) := by decide +kernel
theorem dX12_best_29 : decode cX12_best 29 = .ok (.iload_n 2, 1) := by decide +kernel
theorem dX12_best_30 : decode cX12_best 30 = .ok (.iconst 1, 1) := by decide +kernel
theorem dX12_best_31 : decode cX12_best 31 = .ok (.if_icmp .lt 9, 3) := by decide +kernel
theorem dX12_best_34 : decode cX12_best 34 = .ok (.iload_n 2, 1) := by decide +kernel
theorem dX12_best_35 : decode cX12_best 35 = .ok (.bipush 12, 2) := by decide +kernel
theorem dX12_best_37 : decode cX12_best 37 = .ok (.if_icmp .le 9, 3) := by decide +kernel
theorem dX12_best_40 : decode cX12_best 40 = .ok (.aload_n 0, 1) := by decide +kernel
theorem dX12_best_41 : decode cX12_best 41 = .ok (.iconst 2, 1) := by decide +kernel
theorem dX12_best_42 : decode cX12_best 42 = .ok (.invokevirtual 122, 3) := by decide +kernel
theorem dX12_best_45 : decode cX12_best 45 = .ok (.ireturn, 1) := by decide +kernel
theorem dX12_best_46 : decode cX12_best 46 = .ok (.aload_n 0, 1) := by decide +kernel
theorem dX12_best_47 : decode cX12_best 47 = .ok (.iconst 0, 1) := by decide +kernel
theorem dX12_best_48 : decode cX12_best 48 = .ok (.putfield 245, 3) := by decide +kernel
theorem dX12_best_51 : decode cX12_best 51 = .ok (.aload_n 0, 1) := by decide +kernel
theorem dX12_best_52 : decode cX12_best 52 = .ok (.iconst 0, 1) := by decide +kernel
theorem dX12_best_53 : decode cX12_best 53 = .ok (.putfield 254, 3) := by decide +kernel
theorem dX12_best_56 : decode cX12_best 56 = .ok (.aload_n 0, 1) := by decide +kernel
theorem dX12_best_57 : decode cX12_best 57 = .ok (.iload_n 1, 1) := by decide +kernel
theorem dX12_best_58 : decode cX12_best 58 = .ok (.putfield 251, 3) := by decide +kernel
theorem dX12_best_61 : decode cX12_best 61 = .ok (.aload_n 0, 1) := by decide +kernel
theorem dX12_best_62 : decode cX12_best 62 = .ok (.iload_n 2, 1) := by decide +kernel
theorem dX12_best_63 : decode cX12_best 63 = .ok (.putfield 242, 3) := by decide +kernel
theorem dX12_best_66 : decode cX12_best 66 = .ok (.aload_n 0, 1) := by decide +kernel
theorem dX12_best_67 : decode cX12_best 67 = .ok (.getfield 63, 3) := by decide +kernel
theorem dX12_best_70 : decode cX12_best 70 = .ok (.iconst 0, 1) := by decide +kernel
theorem dX12_best_71 : decode cX12_best 71 = .ok (.iconst 1, 1) := by decide +kernel
theorem dX12_best_72 : decode cX12_best 72 = .ok (.iastore, 1) := by decide +kernel
theorem dX12_best_73 : decode cX12_best 73 = .ok (.aload_n 0, 1) := by decide +kernel
theorem dX12_best_74 : decode cX12_best 74 = .ok (.iconst 1, 1) := by decide +kernel
theorem dX12_best_75 : decode cX12_best 75 = .ok (.invokevirtual 257, 3) := by decide +kernel
theorem dX12_best_78 : decode cX12_best 78 = .ok (.aload_n 0, 1) := by decide +kernel
theorem dX12_best_79 : decode cX12_best 79 = .ok (.getfield 245, 3) := by decide +kernel
theorem dX12_best_82 : decode cX12_best 82 = .ok (.sipush 2000, 3) := by decide +kernel
theorem dX12_best_85 : decode cX12_best 85 = .ok (.if_icmp .le 13, 3) := by decide +kernel
theorem dX12_best_88 : decode cX12_best 88 = .ok (.aload_n 0, 1) := by decide +kernel
theorem dX12_best_89 : decode cX12_best 89 = .ok (.sipush 2000, 3) := by decide +kernel
theorem dX12_best_92 : decode cX12_best 92 = .ok (.putfield 245, 3) := by decide +kernel
theorem dX12_best_95 : decode cX12_best 95 = .ok (.bipush (-2), 2) := by decide +kernel
theorem dX12_best_97 : decode cX12_best 97 = .ok (.ireturn, 1) := by decide +kernel
theorem dX12_best_98 : decode cX12_best 98 = .ok (.aload_n 0, 1) := by decide +kernel
theorem dX12_best_99 : decode cX12_best 99 = .ok (.iload_n 1, 1) := by decide +kernel
theorem dX12_best_100 : decode cX12_best 100 = .ok (.putfield 181, 3) := by decide +kernel
theorem dX12_best_103 : decode cX12_best 103 = .ok (.iconst 0, 1) := by decide +kernel
theorem dX12_best_104 : decode cX12_best 104 = .ok (.istore 4, 2) := by decide +kernel
theorem dX12_best_106 : decode cX12_best 106 = .ok (.iload 4, 2) := by decide +kernel
theorem dX12_best_108 : decode cX12_best 108 = .ok (.iload_n 1, 1) := by decide +kernel
theorem dX12_best_109 : decode cX12_best 109 = .ok (.if_icmp .ge 23, 3) := by decide +kernel
theorem dX12_best_112 : decode cX12_best 112 = .ok (.aload_n 0, 1) := by decide +kernel
theorem dX12_best_113 : decode cX12_best 113 = .ok (.getfield 45, 3) := by decide +kernel
theorem dX12_best_116 : decode cX12_best 116 = .ok (.iload 4, 2) := by decide +kernel
theorem dX12_best_118 : decode cX12_best 118 = .ok (.aload_n 0, 1) := by decide +kernel
theorem dX12_best_119 : decode cX12_best 119 = .ok (.getfield 66, 3) := by decide +kernel
theorem dX12_best_122 : decode cX12_best 122 = .ok (.iload 4, 2) := by decide +kernel
theorem dX12_best_124 : decode cX12_best 124 = .ok (.iaload, 1) := by decide +kernel
theorem dX12_best_125 : decode cX12_best 125 = .ok (.iastore, 1) := by decide +kernel
theorem dX12_best_126 : decode cX12_best 126 = .ok (.iinc 4 1, 3) := by decide +kernel
theorem dX12_best_129 : decode cX12_best 129 = .ok (.goto (-23), 3) := by decide +kernel
theorem dX12_best_132 : decode cX12_best 132 = .ok (.aload_n 0, 1) := by decide +kernel
theorem dX12_best_133 : decode cX12_best 133 = .ok (.iload_n 3, 1) := by decide +kernel
theorem dX12_best_134 : decode cX12_best 134 = .ok (.invokevirtual 190, 3) := by decide +kernel
theorem dX12_best_137 : decode cX12_best 137 = .ok (.pop, 1) := by decide +kernel
theorem dX12_best_138 : decode cX12_best 138 = .ok (.aload_n 0, 1) := by decide +kernel
theorem dX12_best_139 : decode cX12_best 139 = .ok (.getfield 254, 3) := by decide +kernel
theorem dX12_best_142 : decode cX12_best 142 = .ok (.ireturn, 1) := by decide +kernel
theorem dX12_cases_0 : decode cX12_cases 0 = .ok (.aload_n 0, 1) := by decide +kernel
theorem dX12_cases_1 : decode cX12_cases 1 = .ok (.iconst 0, 1) := by decide +kernel
theorem dX12_cases_2 : decode cX12_cases 2 = .ok (.putfield 96, 3) := by decide +kernel
theorem dX12_cases_5 : decode cX12_cases 5 = .ok (.aload_n 0, 1) := by decide +kernel
theorem dX12_cases_6 : decode cX12_cases 6 = .ok (.getfield 245, 3) := by decide +kernel
theorem dX12_cases_9 : decode cX12_cases 9 = .ok (.ireturn, 1) := by decide +kernel
theorem dX12_open_0 : decode cX12_open 0 = .ok (.aload_n 0, 1) := by decide +kernel
theorem dX12_open_1 : decode cX12_open 1 = .ok (.iconst 0, 1) := by decide +kernel
theorem dX12_open_2 : decode cX12_open 2 = .ok (.putfield 96, 3) := by decide +kernel
theorem dX12_open_5 : decode cX12_open 5 = .ok (.iload_n 1, 1) := by decide +kernel
theorem dX12_open_6 : decode cX12_open 6 = .ok (.invokestatic 111, 3) := by decide +kernel
theorem dX12_open_9 : decode cX12_open 9 = .ok (.ifCond .eq 10, 3) := by decide +kernel
theorem dX12_open_12 : decode cX12_open 12 = .ok (.iload_n 2, 1) := by decide +kernel
theorem dX12_open_13 : decode cX12_open 13 = .ok (.invokestatic 111, 3) := by decide +kernel
theorem dX12_open_16 : decode cX12_open 16 = .ok (.ifCond .ne 10, 3) := by decide +kernel
theorem dX12_open_19 : decode cX12_open 19 = .ok (.aload_n 0, 1) := by decide +kernel
theorem dX12_open_20 : decode cX12_open 20 = .ok (.iconst 1, 1) := by decide +kernel
theorem dX12_open_21 : decode cX12_open 21 = .ok (.invokevirtual 122, 3) := by decide +kernel
theorem dX12_open_24 : decode cX12_open 24 = .ok (.pop, 1) := by decide +kernel
theorem dX12_open_25 : decode cX12_open 25 = .ok (.return_, 1) := by decide +kernel
theorem dX12_open_26 : decode cX12_open 26 = .ok (.iload_n 1, 1) := by decide +kernel
theorem dX12_open_27 : decode cX12_open 27 = .ok (.invokestatic 260, 3) := by decide +kernel
theorem dX12_open_30 : decode cX12_open 30 = .ok (.istore_n 3, 1) := by decide +kernel
theorem dX12_open_31 : decode cX12_open 31 = .ok (.aload_n 0, 1) := by decide +kernel
theorem dX12_open_32 : decode cX12_open 32 = .ok (.getfield 9, 3) := by decide +kernel
theorem dX12_open_35 : decode cX12_open 35 = .ok (.iload_n 3, 1) := by decide +kernel
theorem dX12_open_36 : decode cX12_open 36 = .ok (.aload_n 0, 1) := by decide +kernel
theorem dX12_open_37 : decode cX12_open 37 = .ok (.getfield 9, 3) := by decide +kernel
theorem dX12_open_40 : decode cX12_open 40 = .ok (.iload_n 2, 1) := by decide +kernel
theorem dX12_open_41 : decode cX12_open 41 = .ok (.invokestatic 115, 3) := by decide +kernel
theorem dX12_open_44 : decode cX12_open 44 = .ok (.iaload, 1) := by decide +kernel
theorem dX12_open_45 : decode cX12_open 45 = .ok (.iastore, 1) := by decide +kernel
theorem dX12_open_46 : decode cX12_open 46 = .ok (.iconst 0, 1) := by decide +kernel
theorem dX12_open_47 : decode cX12_open 47 = .ok (.istore 4, 2) := by decide +kernel
theorem dX12_open_49 : decode cX12_open 49 = .ok (.iload 4, 2) := by decide +kernel
theorem dX12_open_51 : decode cX12_open 51 = .ok (.bipush 12, 2) := by decide +kernel
theorem dX12_open_53 : decode cX12_open 53 = .ok (.if_icmp .ge 62, 3) := by decide +kernel
theorem dX12_open_56 : decode cX12_open 56 = .ok (.aload_n 0, 1) := by decide +kernel
theorem dX12_open_57 : decode cX12_open 57 = .ok (.getfield 9, 3) := by decide +kernel
theorem dX12_open_60 : decode cX12_open 60 = .ok (.iload_n 3, 1) := by decide +kernel
theorem dX12_open_61 : decode cX12_open 61 = .ok (.iconst 1, 1) := by decide +kernel
theorem dX12_open_62 : decode cX12_open 62 = .ok (.iadd, 1) := by decide +kernel
theorem dX12_open_63 : decode cX12_open 63 = .ok (.iload 4, 2) := by decide +kernel
theorem dX12_open_65 : decode cX12_open 65 = .ok (.iadd, 1) := by decide +kernel
theorem dX12_open_66 : decode cX12_open 66 = .ok (.iload 4, 2) := by decide +kernel
theorem dX12_open_68 : decode cX12_open 68 = .ok (.aload_n 0, 1) := by decide +kernel
theorem dX12_open_69 : decode cX12_open 69 = .ok (.getfield 9, 3) := by decide +kernel
theorem dX12_open_72 : decode cX12_open 72 = .ok (.iload_n 3, 1) := by decide +kernel
theorem dX12_open_73 : decode cX12_open 73 = .ok (.iaload, 1) := by decide +kernel
theorem dX12_open_74 : decode cX12_open 74 = .ok (.if_icmp .ge 20, 3) := by decide +kernel
theorem dX12_open_77 : decode cX12_open 77 = .ok (.aload_n 0, 1) := by decide +kernel
theorem dX12_open_78 : decode cX12_open 78 = .ok (.getfield 9, 3) := by decide +kernel
theorem dX12_open_81 : decode cX12_open 81 = .ok (.iload_n 2, 1) := by decide +kernel
theorem dX12_open_82 : decode cX12_open 82 = .ok (.invokestatic 115, 3) := by decide +kernel
theorem dX12_open_85 : decode cX12_open 85 = .ok (.iconst 1, 1) := by decide +kernel
theorem dX12_open_86 : decode cX12_open 86 = .ok (.iadd, 1) := by decide +kernel
theorem dX12_open_87 : decode cX12_open 87 = .ok (.iload 4, 2) := by decide +kernel
theorem dX12_open_89 : decode cX12_open 89 = .ok (.iadd, 1) := by decide +kernel
theorem dX12_open_90 : decode cX12_open 90 = .ok (.iaload, 1) := by decide +kernel
theorem dX12_open_91 : decode cX12_open 91 = .ok (.goto 4, 3) := by decide +kernel
theorem dX12_open_94 : decode cX12_open 94 = .ok (.iconst 0, 1) := by decide +kernel
theorem dX12_open_95 : decode cX12_open 95 = .ok (.iastore, 1) := by decide +kernel
theorem dX12_open_96 : decode cX12_open 96 = .ok (.aload_n 0, 1) := by decide +kernel
theorem dX12_open_97 : decode cX12_open 97 = .ok (.getfield 9, 3) := by decide +kernel
theorem dX12_open_100 : decode cX12_open 100 = .ok (.iload_n 3, 1) := by decide +kernel
theorem dX12_open_101 : decode cX12_open 101 = .ok (.bipush 13, 2) := by decide +kernel
theorem dX12_open_103 : decode cX12_open 103 = .ok (.iadd, 1) := by decide +kernel
theorem dX12_open_104 : decode cX12_open 104 = .ok (.iload 4, 2) := by decide +kernel
theorem dX12_open_106 : decode cX12_open 106 = .ok (.iadd, 1) := by decide +kernel
theorem dX12_open_107 : decode cX12_open 107 = .ok (.iconst 0, 1) := by decide +kernel
theorem dX12_open_108 : decode cX12_open 108 = .ok (.iastore, 1) := by decide +kernel
theorem dX12_open_109 : decode cX12_open 109 = .ok (.iinc 4 1, 3) := by decide +kernel
theorem dX12_open_112 : decode cX12_open 112 = .ok (.goto (-63), 3) := by decide +kernel
theorem dX12_open_115 : decode cX12_open 115 = .ok (.aload_n 0, 1) := by decide +kernel
theorem dX12_open_116 : decode cX12_open 116 = .ok (.invokevirtual 119, 3) := by decide +kernel
theorem dX12_open_119 : decode cX12_open 119 = .ok (.return_, 1) := by decide +kernel
theorem dX12_fill_0 : decode cX12_fill 0 = .ok (.aload_n 0, 1) := by decide +kernel
theorem dX12_fill_1 : decode cX12_fill 1 = .ok (.iconst 0, 1) := by decide +kernel
theorem dX12_fill_2 : decode cX12_fill 2 = .ok (.putfield 96, 3) := by decide +kernel
theorem dX12_fill_5 : decode cX12_fill 5 = .ok (.iload_n 1, 1) := by decide +kernel
theorem dX12_fill_6 : decode cX12_fill 6 = .ok (.invokestatic 111, 3) := by decide +kernel
theorem dX12_fill_9 : decode cX12_fill 9 = .ok (.ifCond .ne 9, 3) := by decide +kernel
theorem dX12_fill_12 : decode cX12_fill 12 = .ok (.aload_n 0, 1) := by decide +kernel
theorem dX12_fill_13 : decode cX12_fill 13 = .ok (.iconst 1, 1) := by decide +kernel
theorem dX12_fill_14 : decode cX12_fill 14 = .ok (.invokevirtual 122, 3) := by decide +kernel
theorem dX12_fill_17 : decode cX12_fill 17 = .ok (.ireturn, 1) := by decide +kernel
theorem dX12_fill_18 : decode cX12_fill 18 = .ok (.iload_n 1, 1) := by decide +kernel
theorem dX12_fill_19 : decode cX12_fill 19 = .ok (.invokestatic 260, 3) := by decide +kernel
theorem dX12_fill_22 : decode cX12_fill 22 = .ok (.istore 4, 2) := by decide +kernel
theorem dX12_fill_24 : decode cX12_fill 24 = .ok (.iconst 0, 1) := by decide +kernel
theorem dX12_fill_25 : decode cX12_fill 25 = .ok (.istore 5, 2) := by decide +kernel
theorem dX12_fill_27 : decode cX12_fill 27 = .ok (.iload 5, 2) := by decide +kernel
theorem dX12_fill_29 : decode cX12_fill 29 = .ok (.aload_n 0, 1) := by decide +kernel
theorem dX12_fill_30 : decode cX12_fill 30 = .ok (.getfield 9, 3) := by decide +kernel
theorem dX12_fill_33 : decode cX12_fill 33 = .ok (.iload 4, 2) := by decide +kernel
theorem dX12_fill_35 : decode cX12_fill 35 = .ok (.iaload, 1) := by decide +kernel
theorem dX12_fill_36 : decode cX12_fill 36 = .ok (.if_icmp .ge 100, 3) := by decide +kernel
theorem dX12_fill_39 : decode cX12_fill 39 = .ok (.aload_n 0, 1) := by decide +kernel
theorem dX12_fill_40 : decode cX12_fill 40 = .ok (.getfield 9, 3) := by decide +kernel
theorem dX12_fill_43 : decode cX12_fill 43 = .ok (.iload 4, 2) := by decide +kernel
theorem dX12_fill_45 : decode cX12_fill 45 = .ok (.iconst 1, 1) := by decide +kernel
theorem dX12_fill_46 : decode cX12_fill 46 = .ok (.iadd, 1) := by decide +kernel
theorem dX12_fill_47 : decode cX12_fill 47 = .ok (.iload 5, 2) := by decide +kernel
theorem dX12_fill_49 : decode cX12_fill 49 = .ok (.iadd, 1) := by decide +kernel
theorem dX12_fill_50 : decode cX12_fill 50 = .ok (.iaload, 1) := by decide +kernel
theorem dX12_fill_51 : decode cX12_fill 51 = .ok (.iload_n 2, 1) := by decide +kernel
theorem dX12_fill_52 : decode cX12_fill 52 = .ok (.if_icmp .ne 78, 3) := by decide +kernel
theorem dX12_fill_55 : decode cX12_fill 55 = .ok (.iload_n 3, 1) := by decide +kernel
theorem dX12_fill_56 : decode cX12_fill 56 = .ok (.ifCond .lt 74, 3) := by decide +kernel
theorem dX12_fill_59 : decode cX12_fill 59 = .ok (.iload_n 3, 1) := by decide +kernel
theorem dX12_fill_60 : decode cX12_fill 60 = .ok (.bipush 20, 2) := by decide +kernel
theorem dX12_fill_62 : decode cX12_fill 62 = .ok (.if_icmp .gt 68, 3) := by decide +kernel
theorem dX12_fill_65 : decode cX12_fill 65 = .ok (.aload_n 0, 1) := by decide +kernel
theorem dX12_fill_66 : decode cX12_fill 66 = .ok (.iload_n 1, 1) := by decide +kernel
theorem dX12_fill_67 : decode cX12_fill 67 = .ok (.invokevirtual 263, 3) := by decide +kernel
theorem dX12_fill_70 : decode cX12_fill 70 = .ok (.iload_n 3, 1) := by decide +kernel
theorem dX12_fill_71 : decode cX12_fill 71 = .ok (.aload_n 0, 1) := by decide +kernel
theorem dX12_fill_72 : decode cX12_fill 72 = .ok (.getfield 9, 3) := by decide +kernel
theorem dX12_fill_75 : decode cX12_fill 75 = .ok (.iload 4, 2) := by decide +kernel
theorem dX12_fill_77 : decode cX12_fill 77 = .ok (.bipush 13, 2) := by decide +kernel
theorem dX12_fill_79 : decode cX12_fill 79 = .ok (.iadd, 1) := by decide +kernel
theorem dX12_fill_80 : decode cX12_fill 80 = .ok (.iload 5, 2) := by decide +kernel
theorem dX12_fill_82 : decode cX12_fill 82 = .ok (.iadd, 1) := by decide +kernel
theorem dX12_fill_83 : decode cX12_fill 83 = .ok (.iaload, 1) := by decide +kernel
theorem dX12_fill_84 : decode cX12_fill 84 = .ok (.isub, 1) := by decide +kernel
theorem dX12_fill_85 : decode cX12_fill 85 = .ok (.iload_n 2, 1) := by decide +kernel
theorem dX12_fill_86 : decode cX12_fill 86 = .ok (.imul, 1) := by decide +kernel
theorem dX12_fill_87 : decode cX12_fill 87 = .ok (.iadd, 1) := by decide +kernel
theorem dX12_fill_88 : decode cX12_fill 88 = .ok (.sipush 20000, 3) := by decide +kernel
theorem dX12_fill_91 : decode cX12_fill 91 = .ok (.if_icmp .gt 39, 3) := by decide +kernel
theorem dX12_fill_94 : decode cX12_fill 94 = .ok (.aload_n 0, 1) := by decide +kernel
theorem dX12_fill_95 : decode cX12_fill 95 = .ok (.getfield 9, 3) := by decide +kernel
theorem dX12_fill_98 : decode cX12_fill 98 = .ok (.iload 4, 2) := by decide +kernel
theorem dX12_fill_100 : decode cX12_fill 100 = .ok (.bipush 13, 2) := by decide +kernel
theorem dX12_fill_102 : decode cX12_fill 102 = .ok (.iadd, 1) := by decide +kernel
theorem dX12_fill_103 : decode cX12_fill 103 = .ok (.iload 5, 2) := by decide +kernel
theorem dX12_fill_105 : decode cX12_fill 105 = .ok (.iadd, 1) := by decide +kernel
theorem dX12_fill_106 : decode cX12_fill 106 = .ok (.iaload, 1) := by decide +kernel
theorem dX12_fill_107 : decode cX12_fill 107 = .ok (.istore 6, 2) := by decide +kernel
theorem dX12_fill_109 : decode cX12_fill 109 = .ok (.aload_n 0, 1) := by decide +kernel
theorem dX12_fill_110 : decode cX12_fill 110 = .ok (.getfield 9, 3) := by decide +kernel
theorem dX12_fill_113 : decode cX12_fill 113 = .ok (.iload 4, 2) := by decide +kernel
theorem dX12_fill_115 : decode cX12_fill 115 = .ok (.bipush 13, 2) := by decide +kernel
theorem dX12_fill_117 : decode cX12_fill 117 = .ok (.iadd, 1) := by decide +kernel
theorem dX12_fill_118 : decode cX12_fill 118 = .ok (.iload 5, 2) := by decide +kernel
theorem dX12_fill_120 : decode cX12_fill 120 = .ok (.iadd, 1) := by decide +kernel
theorem dX12_fill_121 : decode cX12_fill 121 = .ok (.iload_n 3, 1) := by decide +kernel
theorem dX12_fill_122 : decode cX12_fill 122 = .ok (.iastore, 1) := by decide +kernel
theorem dX12_fill_123 : decode cX12_fill 123 = .ok (.aload_n 0, 1) := by decide +kernel
theorem dX12_fill_124 : decode cX12_fill 124 = .ok (.invokevirtual 119, 3) := by decide +kernel
theorem dX12_fill_127 : decode cX12_fill 127 = .ok (.iload 6, 2) := by decide +kernel
theorem dX12_fill_129 : decode cX12_fill 129 = .ok (.ireturn, 1) := by decide +kernel
theorem dX12_fill_130 : decode cX12_fill 130 = .ok (.iinc 5 1, 3) := by decide +kernel
theorem dX12_fill_133 : decode cX12_fill 133 = .ok (.goto (-106), 3) := by decide +kernel
theorem dX12_fill_136 : decode cX12_fill 136 = .ok (.iconst (-1), 1) := by decide +kernel
theorem dX12_fill_137 : decode cX12_fill 137 = .ok (.ireturn, 1) := by decide +kernel
theorem dX12_allOf_0 : decode cX12_allOf 0 = .ok (.iload_n 1, 1) := by decide +kernel
theorem dX12_allOf_1 : decode cX12_allOf 1 = .ok (.invokestatic 260, 3) := by decide +kernel
theorem dX12_allOf_4 : decode cX12_allOf 4 = .ok (.istore_n 2, 1) := by decide +kernel
theorem dX12_allOf_5 : decode cX12_allOf 5 = .ok (.iconst 0, 1) := by decide +kernel
theorem dX12_allOf_6 : decode cX12_allOf 6 = .ok (.istore_n 3, 1) := by decide +kernel
theorem dX12_allOf_7 : decode cX12_allOf 7 = .ok (.iconst 0, 1) := by decide +kernel
theorem dX12_allOf_8 : decode cX12_allOf 8 = .ok (.istore 4, 2) := by decide +kernel
theorem dX12_allOf_10 : decode cX12_allOf 10 = .ok (.iload 4, 2) := by decide +kernel
theorem dX12_allOf_12 : decode cX12_allOf 12 = .ok (.aload_n 0, 1) := by decide +kernel
theorem dX12_allOf_13 : decode cX12_allOf 13 = .ok (.getfield 9, 3) := by decide +kernel
theorem dX12_allOf_16 : decode cX12_allOf 16 = .ok (.iload_n 2, 1) := by decide +kernel
theorem dX12_allOf_17 : decode cX12_allOf 17 = .ok (.iaload, 1) := by decide +kernel
theorem dX12_allOf_18 : decode cX12_allOf 18 = .ok (.if_icmp .ge 36, 3) := by decide +kernel
theorem dX12_allOf_21 : decode cX12_allOf 21 = .ok (.iload_n 3, 1) := by decide +kernel
theorem dX12_allOf_22 : decode cX12_allOf 22 = .ok (.aload_n 0, 1) := by decide +kernel
theorem dX12_allOf_23 : decode cX12_allOf 23 = .ok (.getfield 9, 3) := by decide +kernel
theorem dX12_allOf_26 : decode cX12_allOf 26 = .ok (.iload_n 2, 1) := by decide +kernel
theorem dX12_allOf_27 : decode cX12_allOf 27 = .ok (.iconst 1, 1) := by decide +kernel
theorem dX12_allOf_28 : decode cX12_allOf 28 = .ok (.iadd, 1) := by decide +kernel
theorem dX12_allOf_29 : decode cX12_allOf 29 = .ok (.iload 4, 2) := by decide +kernel
theorem dX12_allOf_31 : decode cX12_allOf 31 = .ok (.iadd, 1) := by decide +kernel
theorem dX12_allOf_32 : decode cX12_allOf 32 = .ok (.iaload, 1) := by decide +kernel
theorem dX12_allOf_33 : decode cX12_allOf 33 = .ok (.aload_n 0, 1) := by decide +kernel
theorem dX12_allOf_34 : decode cX12_allOf 34 = .ok (.getfield 9, 3) := by decide +kernel
theorem dX12_allOf_37 : decode cX12_allOf 37 = .ok (.iload_n 2, 1) := by decide +kernel
theorem dX12_allOf_38 : decode cX12_allOf 38 = .ok (.bipush 13, 2) := by decide +kernel
theorem dX12_allOf_40 : decode cX12_allOf 40 = .ok (.iadd, 1) := by decide +kernel
theorem dX12_allOf_41 : decode cX12_allOf 41 = .ok (.iload 4, 2) := by decide +kernel
theorem dX12_allOf_43 : decode cX12_allOf 43 = .ok (.iadd, 1) := by decide +kernel
theorem dX12_allOf_44 : decode cX12_allOf 44 = .ok (.iaload, 1) := by decide +kernel
theorem dX12_allOf_45 : decode cX12_allOf 45 = .ok (.imul, 1) := by decide +kernel
theorem dX12_allOf_46 : decode cX12_allOf 46 = .ok (.iadd, 1) := by decide +kernel
theorem dX12_allOf_47 : decode cX12_allOf 47 = .ok (.istore_n 3, 1) := by decide +kernel
theorem dX12_allOf_48 : decode cX12_allOf 48 = .ok (.iinc 4 1, 3) := by decide +kernel
theorem dX12_allOf_51 : decode cX12_allOf 51 = .ok (.goto (-41), 3) := by decide +kernel
theorem dX12_allOf_54 : decode cX12_allOf 54 = .ok (.iload_n 3, 1) := by decide +kernel
theorem dX12_allOf_55 : decode cX12_allOf 55 = .ok (.ireturn, 1) := by decide +kernel
theorem dX12_has_0 : decode cX12_has 0 = .ok (.aload_n 0, 1) := by decide +kernel
theorem dX12_has_1 : decode cX12_has 1 = .ok (.iconst 0, 1) := by decide +kernel
theorem dX12_has_2 : decode cX12_has 2 = .ok (.putfield 96, 3) := by decide +kernel
theorem dX12_has_5 : decode cX12_has 5 = .ok (.iload_n 1, 1) := by decide +kernel
theorem dX12_has_6 : decode cX12_has 6 = .ok (.invokestatic 111, 3) := by decide +kernel
theorem dX12_has_9 : decode cX12_has 9 = .ok (.ifCond .eq 42, 3) := by decide +kernel
theorem dX12_has_12 : decode cX12_has 12 = .ok (.iload_n 2, 1) := by decide +kernel
theorem dX12_has_13 : decode cX12_has 13 = .ok (.aload_n 0, 1) := by decide +kernel
theorem dX12_has_14 : decode cX12_has 14 = .ok (.getfield 9, 3) := by decide +kernel
theorem dX12_has_17 : decode cX12_has 17 = .ok (.iload_n 1, 1) := by decide +kernel
theorem dX12_has_18 : decode cX12_has 18 = .ok (.invokestatic 260, 3) := by decide +kernel
theorem dX12_has_21 : decode cX12_has 21 = .ok (.iaload, 1) := by decide +kernel
theorem dX12_has_22 : decode cX12_has 22 = .ok (.if_icmp .ge 29, 3) := by decide +kernel
theorem dX12_has_25 : decode cX12_has 25 = .ok (.iload_n 2, 1) := by decide +kernel
theorem dX12_has_26 : decode cX12_has 26 = .ok (.bipush (-3), 2) := by decide +kernel
theorem dX12_has_28 : decode cX12_has 28 = .ok (.if_icmp .gt 29, 3) := by decide +kernel
theorem dX12_has_31 : decode cX12_has 31 = .ok (.ldc2_w 266, 3) := by decide +kernel
theorem dX12_has_34 : decode cX12_has 34 = .ok (.iload_n 2, 1) := by decide +kernel
theorem dX12_has_35 : decode cX12_has 35 = .ok (.i2l, 1) := by decide +kernel
theorem dX12_has_36 : decode cX12_has 36 = .ok (.lsub, 1) := by decide +kernel
theorem dX12_has_37 : decode cX12_has 37 = .ok (.aload_n 0, 1) := by decide +kernel
theorem dX12_has_38 : decode cX12_has 38 = .ok (.getfield 9, 3) := by decide +kernel
theorem dX12_has_41 : decode cX12_has 41 = .ok (.iload_n 1, 1) := by decide +kernel
theorem dX12_has_42 : decode cX12_has 42 = .ok (.invokestatic 260, 3) := by decide +kernel
theorem dX12_has_45 : decode cX12_has 45 = .ok (.iaload, 1) := by decide +kernel
theorem dX12_has_46 : decode cX12_has 46 = .ok (.i2l, 1) := by decide +kernel
theorem dX12_has_47 : decode cX12_has 47 = .ok (.lcmp, 1) := by decide +kernel
theorem dX12_has_48 : decode cX12_has 48 = .ok (.ifCond .lt 9, 3) := by decide +kernel
theorem dX12_has_51 : decode cX12_has 51 = .ok (.aload_n 0, 1) := by decide +kernel
theorem dX12_has_52 : decode cX12_has 52 = .ok (.iconst 1, 1) := by decide +kernel
theorem dX12_has_53 : decode cX12_has 53 = .ok (.invokevirtual 122, 3) := by decide +kernel
theorem dX12_has_56 : decode cX12_has 56 = .ok (.ireturn, 1) := by decide +kernel
theorem dX12_has_57 : decode cX12_has 57 = .ok (.iload_n 1, 1) := by decide +kernel
theorem dX12_has_58 : decode cX12_has 58 = .ok (.invokestatic 260, 3) := by decide +kernel
theorem dX12_has_61 : decode cX12_has 61 = .ok (.istore_n 3, 1) := by decide +kernel
theorem dX12_has_62 : decode cX12_has 62 = .ok (.iload_n 2, 1) := by decide +kernel
theorem dX12_has_63 : decode cX12_has 63 = .ok (.iconst (-1), 1) := by decide +kernel
theorem dX12_has_64 : decode cX12_has 64 = .ok (.if_icmp .ne 12, 3) := by decide +kernel
theorem dX12_has_67 : decode cX12_has 67 = .ok (.aload_n 0, 1) := by decide +kernel
theorem dX12_has_68 : decode cX12_has 68 = .ok (.getfield 9, 3) := by decide +kernel
theorem dX12_has_71 : decode cX12_has 71 = .ok (.iload_n 3, 1) := by decide +kernel
theorem dX12_has_72 : decode cX12_has 72 = .ok (.iaload, 1) := by decide +kernel
theorem dX12_has_73 : decode cX12_has 73 = .ok (.goto 47, 3) := by decide +kernel
theorem dX12_has_76 : decode cX12_has 76 = .ok (.iload_n 2, 1) := by decide +kernel
theorem dX12_has_77 : decode cX12_has 77 = .ok (.bipush (-2), 2) := by decide +kernel
theorem dX12_has_79 : decode cX12_has 79 = .ok (.if_icmp .ne 11, 3) := by decide +kernel
theorem dX12_has_82 : decode cX12_has 82 = .ok (.aload_n 0, 1) := by decide +kernel
theorem dX12_has_83 : decode cX12_has 83 = .ok (.iload_n 1, 1) := by decide +kernel
theorem dX12_has_84 : decode cX12_has 84 = .ok (.invokevirtual 263, 3) := by decide +kernel
theorem dX12_has_87 : decode cX12_has 87 = .ok (.goto 33, 3) := by decide +kernel
theorem dX12_has_90 : decode cX12_has 90 = .ok (.iload_n 2, 1) := by decide +kernel
theorem dX12_has_91 : decode cX12_has 91 = .ok (.ifCond .ge 18, 3) := by decide +kernel
theorem dX12_has_94 : decode cX12_has 94 = .ok (.aload_n 0, 1) := by decide +kernel
theorem dX12_has_95 : decode cX12_has 95 = .ok (.getfield 9, 3) := by decide +kernel
theorem dX12_has_98 : decode cX12_has 98 = .ok (.iload_n 3, 1) := by decide +kernel
theorem dX12_has_99 : decode cX12_has 99 = .ok (.iconst 1, 1) := by decide +kernel
theorem dX12_has_100 : decode cX12_has 100 = .ok (.iadd, 1) := by decide +kernel
theorem dX12_has_101 : decode cX12_has 101 = .ok (.iconst 3, 1) := by decide +kernel
theorem dX12_has_102 : decode cX12_has 102 = .ok (.isub, 1) := by decide +kernel
theorem dX12_has_103 : decode cX12_has 103 = .ok (.iload_n 2, 1) := by decide +kernel
theorem dX12_has_104 : decode cX12_has 104 = .ok (.isub, 1) := by decide +kernel
theorem dX12_has_105 : decode cX12_has 105 = .ok (.iaload, 1) := by decide +kernel
theorem dX12_has_106 : decode cX12_has 106 = .ok (.goto 14, 3) := by decide +kernel
theorem dX12_has_109 : decode cX12_has 109 = .ok (.aload_n 0, 1) := by decide +kernel
theorem dX12_has_110 : decode cX12_has 110 = .ok (.getfield 9, 3) := by decide +kernel
theorem dX12_has_113 : decode cX12_has 113 = .ok (.iload_n 3, 1) := by decide +kernel
theorem dX12_has_114 : decode cX12_has 114 = .ok (.bipush 13, 2) := by decide +kernel
theorem dX12_has_116 : decode cX12_has 116 = .ok (.iadd, 1) := by decide +kernel
theorem dX12_has_117 : decode cX12_has 117 = .ok (.iload_n 2, 1) := by decide +kernel
theorem dX12_has_118 : decode cX12_has 118 = .ok (.iadd, 1) := by decide +kernel
theorem dX12_has_119 : decode cX12_has 119 = .ok (.iaload, 1) := by decide +kernel
theorem dX12_has_120 : decode cX12_has 120 = .ok (.ireturn, 1) := by decide +kernel
theorem dX12_fillTable_0 : decode cX12_fillTable 0 = .ok (.iload_n 1, 1) := by decide +kernel
theorem dX12_fillTable_1 : decode cX12_fillTable 1 = .ok (.invokestatic 260, 3) := by decide +kernel
theorem dX12_fillTable_4 : decode cX12_fillTable 4 = .ok (.istore_n 3, 1) := by decide +kernel
theorem dX12_fillTable_5 : decode cX12_fillTable 5 = .ok (.iconst 0, 1) := by decide +kernel
theorem dX12_fillTable_6 : decode cX12_fillTable 6 = .ok (.istore 4, 2) := by decide +kernel
theorem dX12_fillTable_8 : decode cX12_fillTable 8 = .ok (.iload 4, 2) := by decide +kernel
theorem dX12_fillTable_10 : decode cX12_fillTable 10 = .ok (.sipush 20001, 3) := by decide +kernel
theorem dX12_fillTable_13 : decode cX12_fillTable 13 = .ok (.if_icmp .ge 26, 3) := by decide +kernel
theorem dX12_fillTable_16 : decode cX12_fillTable 16 = .ok (.aload_n 2, 1) := by decide +kernel
theorem dX12_fillTable_17 : decode cX12_fillTable 17 = .ok (.iconst 0, 1) := by decide +kernel
theorem dX12_fillTable_18 : decode cX12_fillTable 18 = .ok (.aaload, 1) := by decide +kernel
theorem dX12_fillTable_19 : decode cX12_fillTable 19 = .ok (.iload 4, 2) := by decide +kernel
theorem dX12_fillTable_21 : decode cX12_fillTable 21 = .ok (.iload 4, 2) := by decide +kernel
theorem dX12_fillTable_23 : decode cX12_fillTable 23 = .ok (.ifCond .ne 7, 3) := by decide +kernel
theorem dX12_fillTable_26 : decode cX12_fillTable 26 = .ok (.iconst 0, 1) := by decide +kernel
theorem dX12_fillTable_27 : decode cX12_fillTable 27 = .ok (.goto 5, 3) := by decide +kernel
theorem dX12_fillTable_30 : decode cX12_fillTable 30 = .ok (.ldc 126, 2) := by decide +kernel
theorem dX12_fillTable_32 : decode cX12_fillTable 32 = .ok (.iastore, 1) := by decide +kernel
theorem dX12_fillTable_33 : decode cX12_fillTable 33 = .ok (.iinc 4 1, 3) := by decide +kernel
theorem dX12_fillTable_36 : decode cX12_fillTable 36 = .ok (.goto (-28), 3) := by decide +kernel
theorem dX12_fillTable_39 : decode cX12_fillTable 39 = .ok (.iconst 0, 1) := by decide +kernel
theorem dX12_fillTable_40 : decode cX12_fillTable 40 = .ok (.istore 4, 2) := by decide +kernel
theorem dX12_fillTable_42 : decode cX12_fillTable 42 = .ok (.iconst 1, 1) := by decide +kernel
theorem dX12_fillTable_43 : decode cX12_fillTable 43 = .ok (.istore 5, 2) := by decide +kernel
theorem dX12_fillTable_45 : decode cX12_fillTable 45 = .ok (.iload 5, 2) := by decide +kernel
theorem dX12_fillTable_47 : decode cX12_fillTable 47 = .ok (.aload_n 0, 1) := by decide +kernel
theorem dX12_fillTable_48 : decode cX12_fillTable 48 = .ok (.getfield 9, 3) := by decide +kernel
theorem dX12_fillTable_51 : decode cX12_fillTable 51 = .ok (.iload_n 3, 1) := by decide +kernel
theorem dX12_fillTable_52 : decode cX12_fillTable 52 = .ok (.iaload, 1) := by decide +kernel
theorem dX12_fillTable_53 : decode cX12_fillTable 53 = .ok (.if_icmp .gt 147, 3) := by decide +kernel
theorem dX12_fillTable_56 : decode cX12_fillTable 56 = .ok (.aload_n 0, 1) := by decide +kernel
theorem dX12_fillTable_57 : decode cX12_fillTable 57 = .ok (.getfield 9, 3) := by decide +kernel
theorem dX12_fillTable_60 : decode cX12_fillTable 60 = .ok (.iload_n 3, 1) := by decide +kernel
theorem dX12_fillTable_61 : decode cX12_fillTable 61 = .ok (.iload 5, 2) := by decide +kernel
theorem dX12_fillTable_63 : decode cX12_fillTable 63 = .ok (.iadd, 1) := by decide +kernel
theorem dX12_fillTable_64 : decode cX12_fillTable 64 = .ok (.iaload, 1) := by decide +kernel
theorem dX12_fillTable_65 : decode cX12_fillTable 65 = .ok (.istore 6, 2) := by decide +kernel
theorem dX12_fillTable_67 : decode cX12_fillTable 67 = .ok (.aload_n 0, 1) := by decide +kernel
theorem dX12_fillTable_68 : decode cX12_fillTable 68 = .ok (.getfield 9, 3) := by decide +kernel
theorem dX12_fillTable_71 : decode cX12_fillTable 71 = .ok (.iload_n 3, 1) := by decide +kernel
theorem dX12_fillTable_72 : decode cX12_fillTable 72 = .ok (.bipush 12, 2) := by decide +kernel
theorem dX12_fillTable_74 : decode cX12_fillTable 74 = .ok (.iadd, 1) := by decide +kernel
theorem dX12_fillTable_75 : decode cX12_fillTable 75 = .ok (.iload 5, 2) := by decide +kernel
theorem dX12_fillTable_77 : decode cX12_fillTable 77 = .ok (.iadd, 1) := by decide +kernel
theorem dX12_fillTable_78 : decode cX12_fillTable 78 = .ok (.iaload, 1) := by decide +kernel
theorem dX12_fillTable_79 : decode cX12_fillTable 79 = .ok (.istore 7, 2) := by decide +kernel
theorem dX12_fillTable_81 : decode cX12_fillTable 81 = .ok (.iload 4, 2) := by decide +kernel
theorem dX12_fillTable_83 : decode cX12_fillTable 83 = .ok (.iload 6, 2) := by decide +kernel
theorem dX12_fillTable_85 : decode cX12_fillTable 85 = .ok (.iload 7, 2) := by decide +kernel
theorem dX12_fillTable_87 : decode cX12_fillTable 87 = .ok (.imul, 1) := by decide +kernel
theorem dX12_fillTable_88 : decode cX12_fillTable 88 = .ok (.iadd, 1) := by decide +kernel
theorem dX12_fillTable_89 : decode cX12_fillTable 89 = .ok (.istore 4, 2) := by decide +kernel
theorem dX12_fillTable_91 : decode cX12_fillTable 91 = .ok (.iconst 0, 1) := by decide +kernel
theorem dX12_fillTable_92 : decode cX12_fillTable 92 = .ok (.istore 8, 2) := by decide +kernel
theorem dX12_fillTable_94 : decode cX12_fillTable 94 = .ok (.iload 8, 2) := by decide +kernel
theorem dX12_fillTable_96 : decode cX12_fillTable 96 = .ok (.sipush 20001, 3) := by decide +kernel
theorem dX12_fillTable_99 : decode cX12_fillTable 99 = .ok (.if_icmp .ge 18, 3) := by decide +kernel
theorem dX12_fillTable_102 : decode cX12_fillTable 102 = .ok (.aload_n 2, 1) := by decide +kernel
theorem dX12_fillTable_103 : decode cX12_fillTable 103 = .ok (.iload 5, 2) := by decide +kernel
theorem dX12_fillTable_105 : decode cX12_fillTable 105 = .ok (.aaload, 1) := by decide +kernel
theorem dX12_fillTable_106 : decode cX12_fillTable 106 = .ok (.iload 8, 2) := by decide +kernel
theorem dX12_fillTable_108 : decode cX12_fillTable 108 = .ok (.ldc 126, 2) := by decide +kernel
theorem dX12_fillTable_110 : decode cX12_fillTable 110 = .ok (.iastore, 1) := by decide +kernel
theorem dX12_fillTable_111 : decode cX12_fillTable 111 = .ok (.iinc 8 1, 3) := by decide +kernel
theorem dX12_fillTable_114 : decode cX12_fillTable 114 = .ok (.goto (-20), 3) := by decide +kernel
theorem dX12_fillTable_117 : decode cX12_fillTable 117 = .ok (.iconst 0, 1) := by decide +kernel
theorem dX12_fillTable_118 : decode cX12_fillTable 118 = .ok (.istore 8, 2) := by decide +kernel
theorem dX12_fillTable_120 : decode cX12_fillTable 120 = .ok (.iload 8, 2) := by decide +kernel
theorem dX12_fillTable_122 : decode cX12_fillTable 122 = .ok (.iload 4, 2) := by decide +kernel
theorem dX12_fillTable_124 : decode cX12_fillTable 124 = .ok (.if_icmp .gt 70, 3) := by decide +kernel
theorem dX12_fillTable_127 : decode cX12_fillTable 127 = .ok (.iconst 0, 1) := by decide +kernel
theorem dX12_fillTable_128 : decode cX12_fillTable 128 = .ok (.istore 9, 2) := by decide +kernel
theorem dX12_fillTable_130 : decode cX12_fillTable 130 = .ok (.iload 9, 2) := by decide +kernel
theorem dX12_fillTable_132 : decode cX12_fillTable 132 = .ok (.iload 7, 2) := by decide +kernel
theorem dX12_fillTable_134 : decode cX12_fillTable 134 = .ok (.if_icmp .gt 54, 3) := by decide +kernel
theorem dX12_fillTable_137 : decode cX12_fillTable 137 = .ok (.iload 9, 2) := by decide +kernel
theorem dX12_fillTable_139 : decode cX12_fillTable 139 = .ok (.iload 6, 2) := by decide +kernel
theorem dX12_fillTable_141 : decode cX12_fillTable 141 = .ok (.imul, 1) := by decide +kernel
theorem dX12_fillTable_142 : decode cX12_fillTable 142 = .ok (.iload 8, 2) := by decide +kernel
theorem dX12_fillTable_144 : decode cX12_fillTable 144 = .ok (.if_icmp .gt 44, 3) := by decide +kernel
theorem dX12_fillTable_147 : decode cX12_fillTable 147 = .ok (.aload_n 2, 1) := by decide +kernel
theorem dX12_fillTable_148 : decode cX12_fillTable 148 = .ok (.iload 5, 2) := by decide +kernel
theorem dX12_fillTable_150 : decode cX12_fillTable 150 = .ok (.aaload, 1) := by decide +kernel
theorem dX12_fillTable_151 : decode cX12_fillTable 151 = .ok (.iload 8, 2) := by decide +kernel
theorem dX12_fillTable_153 : decode cX12_fillTable 153 = .ok (.aload_n 2, 1) := by decide +kernel
theorem dX12_fillTable_154 : decode cX12_fillTable 154 = .ok (.iload 5, 2) := by decide +kernel
theorem dX12_fillTable_156 : decode cX12_fillTable 156 = .ok (.aaload, 1) := by decide +kernel
theorem dX12_fillTable_157 : decode cX12_fillTable 157 = .ok (.iload 8, 2) := by decide +kernel
theorem dX12_fillTable_159 : decode cX12_fillTable 159 = .ok (.iaload, 1) := by decide +kernel
theorem dX12_fillTable_160 : decode cX12_fillTable 160 = .ok (.aload_n 2, 1) := by decide +kernel
theorem dX12_fillTable_161 : decode cX12_fillTable 161 = .ok (.iload 5, 2) := by decide +kernel
theorem dX12_fillTable_163 : decode cX12_fillTable 163 = .ok (.iconst 1, 1) := by decide +kernel
theorem dX12_fillTable_164 : decode cX12_fillTable 164 = .ok (.isub, 1) := by decide +kernel
theorem dX12_fillTable_165 : decode cX12_fillTable 165 = .ok (.aaload, 1) := by decide +kernel
theorem dX12_fillTable_166 : decode cX12_fillTable 166 = .ok (.iload 8, 2) := by decide +kernel
theorem dX12_fillTable_168 : decode cX12_fillTable 168 = .ok (.iload 9, 2) := by decide +kernel
theorem dX12_fillTable_170 : decode cX12_fillTable 170 = .ok (.iload 6, 2) := by decide +kernel
theorem dX12_fillTable_172 : decode cX12_fillTable 172 = .ok (.imul, 1) := by decide +kernel
theorem dX12_fillTable_173 : decode cX12_fillTable 173 = .ok (.isub, 1) := by decide +kernel
theorem dX12_fillTable_174 : decode cX12_fillTable 174 = .ok (.iaload, 1) := by decide +kernel
theorem dX12_fillTable_175 : decode cX12_fillTable 175 = .ok (.iload 9, 2) := by decide +kernel
theorem dX12_fillTable_177 : decode cX12_fillTable 177 = .ok (.iadd, 1) := by decide +kernel
theorem dX12_fillTable_178 : decode cX12_fillTable 178 = .ok (.invokestatic 157, 3) := by decide +kernel
theorem dX12_fillTable_181 : decode cX12_fillTable 181 = .ok (.iastore, 1) := by decide +kernel
theorem dX12_fillTable_182 : decode cX12_fillTable 182 = .ok (.iinc 9 1, 3) := by decide +kernel
theorem dX12_fillTable_185 : decode cX12_fillTable 185 = .ok (.goto (-55), 3) := by decide +kernel
theorem dX12_fillTable_188 : decode cX12_fillTable 188 = .ok (.iinc 8 1, 3) := by decide +kernel
theorem dX12_fillTable_191 : decode cX12_fillTable 191 = .ok (.goto (-71), 3) := by decide +kernel
theorem dX12_fillTable_194 : decode cX12_fillTable 194 = .ok (.iinc 5 1, 3) := by decide +kernel
theorem dX12_fillTable_197 : decode cX12_fillTable 197 = .ok (.goto (-152), 3) := by decide +kernel
theorem dX12_fillTable_200 : decode cX12_fillTable 200 = .ok (.return_, 1) := by decide +kernel
theorem dX12_pays_0 : decode cX12_pays 0 = .ok (.aload_n 0, 1) := by decide +kernel
theorem dX12_pays_1 : decode cX12_pays 1 = .ok (.iconst 0, 1) := by decide +kernel
theorem dX12_pays_2 : decode cX12_pays 2 = .ok (.putfield 96, 3) := by decide +kernel
theorem dX12_pays_5 : decode cX12_pays 5 = .ok (.iload_n 1, 1) := by decide +kernel
theorem dX12_pays_6 : decode cX12_pays 6 = .ok (.invokestatic 111, 3) := by decide +kernel
theorem dX12_pays_9 : decode cX12_pays 9 = .ok (.ifCond .ne 9, 3) := by decide +kernel
theorem dX12_pays_12 : decode cX12_pays 12 = .ok (.aload_n 0, 1) := by decide +kernel
theorem dX12_pays_13 : decode cX12_pays 13 = .ok (.iconst 1, 1) := by decide +kernel
theorem dX12_pays_14 : decode cX12_pays 14 = .ok (.invokevirtual 122, 3) := by decide +kernel
theorem dX12_pays_17 : decode cX12_pays 17 = .ok (.ireturn, 1) := by decide +kernel
theorem dX12_pays_18 : decode cX12_pays 18 = .ok (.iload_n 2, 1) := by decide +kernel
theorem dX12_pays_19 : decode cX12_pays 19 = .ok (.ifCond .lt 12, 3) := by decide +kernel
theorem dX12_pays_22 : decode cX12_pays 22 = .ok (.iload_n 2, 1) := by decide +kernel
theorem dX12_pays_23 : decode cX12_pays 23 = .ok (.aload_n 0, 1) := by decide +kernel
theorem dX12_pays_24 : decode cX12_pays 24 = .ok (.iload_n 1, 1) := by decide +kernel
theorem dX12_pays_25 : decode cX12_pays 25 = .ok (.invokevirtual 263, 3) := by decide +kernel
theorem dX12_pays_28 : decode cX12_pays 28 = .ok (.if_icmp .le 5, 3) := by decide +kernel
theorem dX12_pays_31 : decode cX12_pays 31 = .ok (.iconst (-1), 1) := by decide +kernel
theorem dX12_pays_32 : decode cX12_pays 32 = .ok (.ireturn, 1) := by decide +kernel
theorem dX12_pays_33 : decode cX12_pays 33 = .ok (.aload_n 0, 1) := by decide +kernel
theorem dX12_pays_34 : decode cX12_pays 34 = .ok (.iload_n 1, 1) := by decide +kernel
theorem dX12_pays_35 : decode cX12_pays 35 = .ok (.aload_n 0, 1) := by decide +kernel
theorem dX12_pays_36 : decode cX12_pays 36 = .ok (.getfield 72, 3) := by decide +kernel
theorem dX12_pays_39 : decode cX12_pays 39 = .ok (.invokevirtual 268, 3) := by decide +kernel
theorem dX12_pays_42 : decode cX12_pays 42 = .ok (.aload_n 0, 1) := by decide +kernel
theorem dX12_pays_43 : decode cX12_pays 43 = .ok (.getfield 72, 3) := by decide +kernel
theorem dX12_pays_46 : decode cX12_pays 46 = .ok (.aload_n 0, 1) := by decide +kernel
theorem dX12_pays_47 : decode cX12_pays 47 = .ok (.getfield 9, 3) := by decide +kernel
theorem dX12_pays_50 : decode cX12_pays 50 = .ok (.iload_n 1, 1) := by decide +kernel
theorem dX12_pays_51 : decode cX12_pays 51 = .ok (.invokestatic 260, 3) := by decide +kernel
theorem dX12_pays_54 : decode cX12_pays 54 = .ok (.iaload, 1) := by decide +kernel
theorem dX12_pays_55 : decode cX12_pays 55 = .ok (.aaload, 1) := by decide +kernel
theorem dX12_pays_56 : decode cX12_pays 56 = .ok (.iload_n 2, 1) := by decide +kernel
theorem dX12_pays_57 : decode cX12_pays 57 = .ok (.iaload, 1) := by decide +kernel
theorem dX12_pays_58 : decode cX12_pays 58 = .ok (.istore_n 3, 1) := by decide +kernel
theorem dX12_pays_59 : decode cX12_pays 59 = .ok (.iload_n 3, 1) := by decide +kernel
theorem dX12_pays_60 : decode cX12_pays 60 = .ok (.ldc 126, 2) := by decide +kernel
theorem dX12_pays_62 : decode cX12_pays 62 = .ok (.if_icmp .lt 7, 3) := by decide +kernel
theorem dX12_pays_65 : decode cX12_pays 65 = .ok (.iconst (-1), 1) := by decide +kernel
theorem dX12_pays_66 : decode cX12_pays 66 = .ok (.goto 4, 3) := by decide +kernel
theorem dX12_pays_69 : decode cX12_pays 69 = .ok (.iload_n 3, 1) := by decide +kernel
theorem dX12_pays_70 : decode cX12_pays 70 = .ok (.ireturn, 1) := by decide +kernel
theorem dX12_holes_0 : decode cX12_holes 0 = .ok (.aload_n 0, 1) := by decide +kernel
theorem dX12_holes_1 : decode cX12_holes 1 = .ok (.iconst 0, 1) := by decide +kernel
theorem dX12_holes_2 : decode cX12_holes 2 = .ok (.putfield 96, 3) := by decide +kernel
theorem dX12_holes_5 : decode cX12_holes 5 = .ok (.iload_n 1, 1) := by decide +kernel
theorem dX12_holes_6 : decode cX12_holes 6 = .ok (.invokestatic 111, 3) := by decide +kernel
theorem dX12_holes_9 : decode cX12_holes 9 = .ok (.ifCond .ne 9, 3) := by decide +kernel
theorem dX12_holes_12 : decode cX12_holes 12 = .ok (.aload_n 0, 1) := by decide +kernel
theorem dX12_holes_13 : decode cX12_holes 13 = .ok (.iconst 1, 1) := by decide +kernel
theorem dX12_holes_14 : decode cX12_holes 14 = .ok (.invokevirtual 122, 3) := by decide +kernel
theorem dX12_holes_17 : decode cX12_holes 17 = .ok (.ireturn, 1) := by decide +kernel
theorem dX12_holes_18 : decode cX12_holes 18 = .ok (.aload_n 0, 1) := by decide +kernel
theorem dX12_holes_19 : decode cX12_holes 19 = .ok (.iload_n 1, 1) := by decide +kernel
theorem dX12_holes_20 : decode cX12_holes 20 = .ok (.aload_n 0, 1) := by decide +kernel
theorem dX12_holes_21 : decode cX12_holes 21 = .ok (.getfield 72, 3) := by decide +kernel
theorem dX12_holes_24 : decode cX12_holes 24 = .ok (.invokevirtual 268, 3) := by decide +kernel
theorem dX12_holes_27 : decode cX12_holes 27 = .ok (.iconst 0, 1) := by decide +kernel
theorem dX12_holes_28 : decode cX12_holes 28 = .ok (.istore_n 2, 1) := by decide +kernel
theorem dX12_holes_29 : decode cX12_holes 29 = .ok (.aload_n 0, 1) := by decide +kernel
theorem dX12_holes_30 : decode cX12_holes 30 = .ok (.iload_n 1, 1) := by decide +kernel
theorem dX12_holes_31 : decode cX12_holes 31 = .ok (.invokevirtual 263, 3) := by decide +kernel
theorem dX12_holes_34 : decode cX12_holes 34 = .ok (.istore_n 3, 1) := by decide +kernel
theorem dX12_holes_35 : decode cX12_holes 35 = .ok (.iconst 0, 1) := by decide +kernel
theorem dX12_holes_36 : decode cX12_holes 36 = .ok (.istore 4, 2) := by decide +kernel
theorem dX12_holes_38 : decode cX12_holes 38 = .ok (.iload 4, 2) := by decide +kernel
theorem dX12_holes_40 : decode cX12_holes 40 = .ok (.iload_n 3, 1) := by decide +kernel
theorem dX12_holes_41 : decode cX12_holes 41 = .ok (.if_icmp .gt 39, 3) := by decide +kernel
theorem dX12_holes_44 : decode cX12_holes 44 = .ok (.iload_n 2, 1) := by decide +kernel
theorem dX12_holes_45 : decode cX12_holes 45 = .ok (.aload_n 0, 1) := by decide +kernel
theorem dX12_holes_46 : decode cX12_holes 46 = .ok (.getfield 72, 3) := by decide +kernel
theorem dX12_holes_49 : decode cX12_holes 49 = .ok (.aload_n 0, 1) := by decide +kernel
theorem dX12_holes_50 : decode cX12_holes 50 = .ok (.getfield 9, 3) := by decide +kernel
theorem dX12_holes_53 : decode cX12_holes 53 = .ok (.iload_n 1, 1) := by decide +kernel
theorem dX12_holes_54 : decode cX12_holes 54 = .ok (.invokestatic 260, 3) := by decide +kernel
theorem dX12_holes_57 : decode cX12_holes 57 = .ok (.iaload, 1) := by decide +kernel
theorem dX12_holes_58 : decode cX12_holes 58 = .ok (.aaload, 1) := by decide +kernel
theorem dX12_holes_59 : decode cX12_holes 59 = .ok (.iload 4, 2) := by decide +kernel
theorem dX12_holes_61 : decode cX12_holes 61 = .ok (.iaload, 1) := by decide +kernel
theorem dX12_holes_62 : decode cX12_holes 62 = .ok (.ldc 126, 2) := by decide +kernel
theorem dX12_holes_64 : decode cX12_holes 64 = .ok (.if_icmp .lt 7, 3) := by decide +kernel
theorem dX12_holes_67 : decode cX12_holes 67 = .ok (.iconst 1, 1) := by decide +kernel
theorem dX12_holes_68 : decode cX12_holes 68 = .ok (.goto 4, 3) := by decide +kernel
theorem dX12_holes_71 : decode cX12_holes 71 = .ok (.iconst 0, 1) := by decide +kernel
theorem dX12_holes_72 : decode cX12_holes 72 = .ok (.iadd, 1) := by decide +kernel
theorem dX12_holes_73 : decode cX12_holes 73 = .ok (.istore_n 2, 1) := by decide +kernel
theorem dX12_holes_74 : decode cX12_holes 74 = .ok (.iinc 4 1, 3) := by decide +kernel
theorem dX12_holes_77 : decode cX12_holes 77 = .ok (.goto (-39), 3) := by decide +kernel
theorem dX12_holes_80 : decode cX12_holes 80 = .ok (.iload_n 2, 1) := by decide +kernel
theorem dX12_holes_81 : decode cX12_holes 81 = .ok (.ireturn, 1) := by decide +kernel
theorem dX12_least_0 : decode cX12_least 0 = .ok (.ldc 126, 2) := by decide +kernel
theorem dX12_least_2 : decode cX12_least 2 = .ok (.istore 6, 2) := by decide +kernel
theorem dX12_least_4 : decode cX12_least 4 = .ok (.aload_n 0, 1) := by decide +kernel
theorem dX12_least_5 : decode cX12_least 5 = .ok (.iload_n 2, 1) := by decide +kernel
theorem dX12_least_6 : decode cX12_least 6 = .ok (.invokevirtual 263, 3) := by decide +kernel
theorem dX12_least_9 : decode cX12_least 9 = .ok (.istore 7, 2) := by decide +kernel
theorem dX12_least_11 : decode cX12_least 11 = .ok (.aload_n 0, 1) := by decide +kernel
theorem dX12_least_12 : decode cX12_least 12 = .ok (.getfield 9, 3) := by decide +kernel
theorem dX12_least_15 : decode cX12_least 15 = .ok (.iload_n 2, 1) := by decide +kernel
theorem dX12_least_16 : decode cX12_least 16 = .ok (.invokestatic 260, 3) := by decide +kernel
theorem dX12_least_19 : decode cX12_least 19 = .ok (.iaload, 1) := by decide +kernel
theorem dX12_least_20 : decode cX12_least 20 = .ok (.istore 8, 2) := by decide +kernel
theorem dX12_least_22 : decode cX12_least 22 = .ok (.iconst 0, 1) := by decide +kernel
theorem dX12_least_23 : decode cX12_least 23 = .ok (.istore 9, 2) := by decide +kernel
theorem dX12_least_25 : decode cX12_least 25 = .ok (.iload 9, 2) := by decide +kernel
theorem dX12_least_27 : decode cX12_least 27 = .ok (.iload 7, 2) := by decide +kernel
theorem dX12_least_29 : decode cX12_least 29 = .ok (.if_icmp .gt 67, 3) := by decide +kernel
theorem dX12_least_32 : decode cX12_least 32 = .ok (.lload_n 3, 1) := by decide +kernel
theorem dX12_least_33 : decode cX12_least 33 = .ok (.iload 9, 2) := by decide +kernel
theorem dX12_least_35 : decode cX12_least 35 = .ok (.i2l, 1) := by decide +kernel
theorem dX12_least_36 : decode cX12_least 36 = .ok (.ladd, 1) := by decide +kernel
theorem dX12_least_37 : decode cX12_least 37 = .ok (.iload 5, 2) := by decide +kernel
theorem dX12_least_39 : decode cX12_least 39 = .ok (.i2l, 1) := by decide +kernel
theorem dX12_least_40 : decode cX12_least 40 = .ok (.lsub, 1) := by decide +kernel
theorem dX12_least_41 : decode cX12_least 41 = .ok (.lstore 10, 2) := by decide +kernel
theorem dX12_least_43 : decode cX12_least 43 = .ok (.lload 10, 2) := by decide +kernel
theorem dX12_least_45 : decode cX12_least 45 = .ok (.lconst 0, 1) := by decide +kernel
theorem dX12_least_46 : decode cX12_least 46 = .ok (.lcmp, 1) := by decide +kernel
theorem dX12_least_47 : decode cX12_least 47 = .ok (.ifCond .lt 43, 3) := by decide +kernel
theorem dX12_least_50 : decode cX12_least 50 = .ok (.lload 10, 2) := by decide +kernel
theorem dX12_least_52 : decode cX12_least 52 = .ok (.ldc2_w 272, 3) := by decide +kernel
theorem dX12_least_55 : decode cX12_least 55 = .ok (.lcmp, 1) := by decide +kernel
theorem dX12_least_56 : decode cX12_least 56 = .ok (.ifCond .lt 6, 3) := by decide +kernel
theorem dX12_least_59 : decode cX12_least 59 = .ok (.goto 31, 3) := by decide +kernel
theorem dX12_least_62 : decode cX12_least 62 = .ok (.iload 6, 2) := by decide +kernel
theorem dX12_least_64 : decode cX12_least 64 = .ok (.aload_n 0, 1) := by decide +kernel
theorem dX12_least_65 : decode cX12_least 65 = .ok (.getfield 72, 3) := by decide +kernel
theorem dX12_least_68 : decode cX12_least 68 = .ok (.iload_n 1, 1) := by decide +kernel
theorem dX12_least_69 : decode cX12_least 69 = .ok (.aaload, 1) := by decide +kernel
theorem dX12_least_70 : decode cX12_least 70 = .ok (.lload 10, 2) := by decide +kernel
theorem dX12_least_72 : decode cX12_least 72 = .ok (.l2i, 1) := by decide +kernel
theorem dX12_least_73 : decode cX12_least 73 = .ok (.iaload, 1) := by decide +kernel
theorem dX12_least_74 : decode cX12_least 74 = .ok (.aload_n 0, 1) := by decide +kernel
theorem dX12_least_75 : decode cX12_least 75 = .ok (.getfield 75, 3) := by decide +kernel
theorem dX12_least_78 : decode cX12_least 78 = .ok (.iload 8, 2) := by decide +kernel
theorem dX12_least_80 : decode cX12_least 80 = .ok (.aaload, 1) := by decide +kernel
theorem dX12_least_81 : decode cX12_least 81 = .ok (.iload 9, 2) := by decide +kernel
theorem dX12_least_83 : decode cX12_least 83 = .ok (.iaload, 1) := by decide +kernel
theorem dX12_least_84 : decode cX12_least 84 = .ok (.iadd, 1) := by decide +kernel
theorem dX12_least_85 : decode cX12_least 85 = .ok (.invokestatic 157, 3) := by decide +kernel
theorem dX12_least_88 : decode cX12_least 88 = .ok (.istore 6, 2) := by decide +kernel
theorem dX12_least_90 : decode cX12_least 90 = .ok (.iinc 9 1, 3) := by decide +kernel
theorem dX12_least_93 : decode cX12_least 93 = .ok (.goto (-68), 3) := by decide +kernel
theorem dX12_least_96 : decode cX12_least 96 = .ok (.iload 6, 2) := by decide +kernel
theorem dX12_least_98 : decode cX12_least 98 = .ok (.ireturn, 1) := by decide +kernel
theorem dX12_change_0 : decode cX12_change 0 = .ok (.aload_n 0, 1) := by decide +kernel
theorem dX12_change_1 : decode cX12_change 1 = .ok (.iconst 0, 1) := by decide +kernel
theorem dX12_change_2 : decode cX12_change 2 = .ok (.putfield 96, 3) := by decide +kernel
theorem dX12_change_5 : decode cX12_change 5 = .ok (.iload_n 1, 1) := by decide +kernel
theorem dX12_change_6 : decode cX12_change 6 = .ok (.invokestatic 111, 3) := by decide +kernel
theorem dX12_change_9 : decode cX12_change 9 = .ok (.ifCond .eq 10, 3) := by decide +kernel
theorem dX12_change_12 : decode cX12_change 12 = .ok (.iload_n 2, 1) := by decide +kernel
theorem dX12_change_13 : decode cX12_change 13 = .ok (.invokestatic 111, 3) := by decide +kernel
theorem dX12_change_16 : decode cX12_change 16 = .ok (.ifCond .ne 9, 3) := by decide +kernel
theorem dX12_change_19 : decode cX12_change 19 = .ok (.aload_n 0, 1) := by decide +kernel
theorem dX12_change_20 : decode cX12_change 20 = .ok (.iconst 1, 1) := by decide +kernel
theorem dX12_change_21 : decode cX12_change 21 = .ok (.invokevirtual 122, 3) := by decide +kernel
theorem dX12_change_24 : decode cX12_change 24 = .ok (.ireturn, 1) := by decide +kernel
theorem dX12_change_25 : decode cX12_change 25 = .ok (.iload_n 3, 1) := by decide +kernel
theorem dX12_change_26 : decode cX12_change 26 = .ok (.ifCond .lt 8, 3) := by decide +kernel
theorem dX12_change_29 : decode cX12_change 29 = .ok (.iload_n 1, 1) := by decide +kernel
theorem dX12_change_30 : decode cX12_change 30 = .ok (.iload_n 2, 1) := by decide +kernel
theorem dX12_change_31 : decode cX12_change 31 = .ok (.if_icmp .ne 9, 3) := by decide +kernel
theorem dX12_change_34 : decode cX12_change 34 = .ok (.aload_n 0, 1) := by decide +kernel
theorem dX12_change_35 : decode cX12_change 35 = .ok (.iconst 2, 1) := by decide +kernel
theorem dX12_change_36 : decode cX12_change 36 = .ok (.invokevirtual 122, 3) := by decide +kernel
theorem dX12_change_39 : decode cX12_change 39 = .ok (.ireturn, 1) := by decide +kernel
theorem dX12_change_40 : decode cX12_change 40 = .ok (.aload_n 0, 1) := by decide +kernel
theorem dX12_change_41 : decode cX12_change 41 = .ok (.iload_n 1, 1) := by decide +kernel
theorem dX12_change_42 : decode cX12_change 42 = .ok (.aload_n 0, 1) := by decide +kernel
theorem dX12_change_43 : decode cX12_change 43 = .ok (.getfield 72, 3) := by decide +kernel
theorem dX12_change_46 : decode cX12_change 46 = .ok (.invokevirtual 268, 3) := by decide +kernel
theorem dX12_change_49 : decode cX12_change 49 = .ok (.aload_n 0, 1) := by decide +kernel
theorem dX12_change_50 : decode cX12_change 50 = .ok (.iload_n 2, 1) := by decide +kernel
theorem dX12_change_51 : decode cX12_change 51 = .ok (.aload_n 0, 1) := by decide +kernel
theorem dX12_change_52 : decode cX12_change 52 = .ok (.getfield 75, 3) := by decide +kernel
theorem dX12_change_55 : decode cX12_change 55 = .ok (.invokevirtual 268, 3) := by decide +kernel
theorem dX12_change_58 : decode cX12_change 58 = .ok (.aload_n 0, 1) := by decide +kernel
theorem dX12_change_59 : decode cX12_change 59 = .ok (.aload_n 0, 1) := by decide +kernel
theorem dX12_change_60 : decode cX12_change 60 = .ok (.getfield 9, 3) := by decide +kernel
theorem dX12_change_63 : decode cX12_change 63 = .ok (.iload_n 1, 1) := by decide +kernel
theorem dX12_change_64 : decode cX12_change 64 = .ok (.invokestatic 260, 3) := by decide +kernel
theorem dX12_change_67 : decode cX12_change 67 = .ok (.iaload, 1) := by decide +kernel
theorem dX12_change_68 : decode cX12_change 68 = .ok (.iload_n 2, 1) := by decide +kernel
theorem dX12_change_69 : decode cX12_change 69 = .ok (.iload_n 3, 1) := by decide +kernel
theorem dX12_change_70 : decode cX12_change 70 = .ok (.i2l, 1) := by decide +kernel
theorem dX12_change_71 : decode cX12_change 71 = .ok (.iconst 0, 1) := by decide +kernel
theorem dX12_change_72 : decode cX12_change 72 = .ok (.invokevirtual 274, 3) := by decide +kernel
theorem dX12_change_75 : decode cX12_change 75 = .ok (.istore 4, 2) := by decide +kernel
theorem dX12_change_77 : decode cX12_change 77 = .ok (.iload 4, 2) := by decide +kernel
theorem dX12_change_79 : decode cX12_change 79 = .ok (.ldc 126, 2) := by decide +kernel
theorem dX12_change_81 : decode cX12_change 81 = .ok (.if_icmp .lt 7, 3) := by decide +kernel
theorem dX12_change_84 : decode cX12_change 84 = .ok (.iconst (-1), 1) := by decide +kernel
theorem dX12_change_85 : decode cX12_change 85 = .ok (.goto 5, 3) := by decide +kernel
theorem dX12_change_88 : decode cX12_change 88 = .ok (.iload 4, 2) := by decide +kernel
theorem dX12_change_90 : decode cX12_change 90 = .ok (.ireturn, 1) := by decide +kernel
theorem dX12_deal_0 : decode cX12_deal 0 = .ok (.aload_n 0, 1) := by decide +kernel
theorem dX12_deal_1 : decode cX12_deal 1 = .ok (.iconst 0, 1) := by decide +kernel
theorem dX12_deal_2 : decode cX12_deal 2 = .ok (.putfield 96, 3) := by decide +kernel
theorem dX12_deal_5 : decode cX12_deal 5 = .ok (.aload_n 0, 1) := by decide +kernel
theorem dX12_deal_6 : decode cX12_deal 6 = .ok (.iload_n 1, 1) := by decide +kernel
theorem dX12_deal_7 : decode cX12_deal 7 = .ok (.iload_n 2, 1) := by decide +kernel
theorem dX12_deal_8 : decode cX12_deal 8 = .ok (.iload_n 3, 1) := by decide +kernel
theorem dX12_deal_9 : decode cX12_deal 9 = .ok (.invokevirtual 278, 3) := by decide +kernel
theorem dX12_deal_12 : decode cX12_deal 12 = .ok (.istore 4, 2) := by decide +kernel
theorem dX12_deal_14 : decode cX12_deal 14 = .ok (.aload_n 0, 1) := by decide +kernel
theorem dX12_deal_15 : decode cX12_deal 15 = .ok (.getfield 96, 3) := by decide +kernel
theorem dX12_deal_18 : decode cX12_deal 18 = .ok (.ifCond .ne 9, 3) := by decide +kernel
theorem dX12_deal_21 : decode cX12_deal 21 = .ok (.iload 4, 2) := by decide +kernel
theorem dX12_deal_23 : decode cX12_deal 23 = .ok (.iconst (-1), 1) := by decide +kernel
theorem dX12_deal_24 : decode cX12_deal 24 = .ok (.if_icmp .ne 6, 3) := by decide +kernel
theorem dX12_deal_27 : decode cX12_deal 27 = .ok (.iload 4, 2) := by decide +kernel
theorem dX12_deal_29 : decode cX12_deal 29 = .ok (.ireturn, 1) := by decide +kernel
theorem dX12_deal_30 : decode cX12_deal 30 = .ok (.iload_n 1, 1) := by decide +kernel
theorem dX12_deal_31 : decode cX12_deal 31 = .ok (.invokestatic 260, 3) := by decide +kernel
theorem dX12_deal_34 : decode cX12_deal 34 = .ok (.istore 5, 2) := by decide +kernel
theorem dX12_deal_36 : decode cX12_deal 36 = .ok (.iload_n 2, 1) := by decide +kernel
theorem dX12_deal_37 : decode cX12_deal 37 = .ok (.invokestatic 260, 3) := by decide +kernel
theorem dX12_deal_40 : decode cX12_deal 40 = .ok (.istore 6, 2) := by decide +kernel
theorem dX12_deal_42 : decode cX12_deal 42 = .ok (.iconst 0, 1) := by decide +kernel
theorem dX12_deal_43 : decode cX12_deal 43 = .ok (.istore 7, 2) := by decide +kernel
theorem dX12_deal_45 : decode cX12_deal 45 = .ok (.iconst 0, 1) := by decide +kernel
theorem dX12_deal_46 : decode cX12_deal 46 = .ok (.istore 8, 2) := by decide +kernel
theorem dX12_deal_48 : decode cX12_deal 48 = .ok (.aload_n 0, 1) := by decide +kernel
theorem dX12_deal_49 : decode cX12_deal 49 = .ok (.getfield 9, 3) := by decide +kernel
theorem dX12_deal_52 : decode cX12_deal 52 = .ok (.iload 5, 2) := by decide +kernel
theorem dX12_deal_54 : decode cX12_deal 54 = .ok (.iaload, 1) := by decide +kernel
theorem dX12_deal_55 : decode cX12_deal 55 = .ok (.istore 9, 2) := by decide +kernel
theorem dX12_deal_57 : decode cX12_deal 57 = .ok (.iload 9, 2) := by decide +kernel
theorem dX12_deal_59 : decode cX12_deal 59 = .ok (.ifCond .le 100, 3) := by decide +kernel
theorem dX12_deal_62 : decode cX12_deal 62 = .ok (.aload_n 0, 1) := by decide +kernel
theorem dX12_deal_63 : decode cX12_deal 63 = .ok (.getfield 9, 3) := by decide +kernel
theorem dX12_deal_66 : decode cX12_deal 66 = .ok (.iload 5, 2) := by decide +kernel
theorem dX12_deal_68 : decode cX12_deal 68 = .ok (.iload 9, 2) := by decide +kernel
theorem dX12_deal_70 : decode cX12_deal 70 = .ok (.iadd, 1) := by decide +kernel
theorem dX12_deal_71 : decode cX12_deal 71 = .ok (.iaload, 1) := by decide +kernel
theorem dX12_deal_72 : decode cX12_deal 72 = .ok (.istore 10, 2) := by decide +kernel
theorem dX12_deal_74 : decode cX12_deal 74 = .ok (.aload_n 0, 1) := by decide +kernel
theorem dX12_deal_75 : decode cX12_deal 75 = .ok (.getfield 9, 3) := by decide +kernel
theorem dX12_deal_78 : decode cX12_deal 78 = .ok (.iload 5, 2) := by decide +kernel
theorem dX12_deal_80 : decode cX12_deal 80 = .ok (.bipush 12, 2) := by decide +kernel
theorem dX12_deal_82 : decode cX12_deal 82 = .ok (.iadd, 1) := by decide +kernel
theorem dX12_deal_83 : decode cX12_deal 83 = .ok (.iload 9, 2) := by decide +kernel
theorem dX12_deal_85 : decode cX12_deal 85 = .ok (.iadd, 1) := by decide +kernel
theorem dX12_deal_86 : decode cX12_deal 86 = .ok (.iaload, 1) := by decide +kernel
theorem dX12_deal_87 : decode cX12_deal 87 = .ok (.istore 11, 2) := by decide +kernel
theorem dX12_deal_89 : decode cX12_deal 89 = .ok (.aload_n 0, 1) := by decide +kernel
theorem dX12_deal_90 : decode cX12_deal 90 = .ok (.iload 9, 2) := by decide +kernel
theorem dX12_deal_92 : decode cX12_deal 92 = .ok (.iconst 1, 1) := by decide +kernel
theorem dX12_deal_93 : decode cX12_deal 93 = .ok (.isub, 1) := by decide +kernel
theorem dX12_deal_94 : decode cX12_deal 94 = .ok (.iload_n 2, 1) := by decide +kernel
theorem dX12_deal_95 : decode cX12_deal 95 = .ok (.iload_n 3, 1) := by decide +kernel
theorem dX12_deal_96 : decode cX12_deal 96 = .ok (.i2l, 1) := by decide +kernel
theorem dX12_deal_97 : decode cX12_deal 97 = .ok (.iload 7, 2) := by decide +kernel
theorem dX12_deal_99 : decode cX12_deal 99 = .ok (.iload 11, 2) := by decide +kernel
theorem dX12_deal_101 : decode cX12_deal 101 = .ok (.iload 10, 2) := by decide +kernel
theorem dX12_deal_103 : decode cX12_deal 103 = .ok (.imul, 1) := by decide +kernel
theorem dX12_deal_104 : decode cX12_deal 104 = .ok (.iadd, 1) := by decide +kernel
theorem dX12_deal_105 : decode cX12_deal 105 = .ok (.invokevirtual 274, 3) := by decide +kernel
theorem dX12_deal_108 : decode cX12_deal 108 = .ok (.iload 8, 2) := by decide +kernel
theorem dX12_deal_110 : decode cX12_deal 110 = .ok (.iadd, 1) := by decide +kernel
theorem dX12_deal_111 : decode cX12_deal 111 = .ok (.iload 11, 2) := by decide +kernel
theorem dX12_deal_113 : decode cX12_deal 113 = .ok (.iadd, 1) := by decide +kernel
theorem dX12_deal_114 : decode cX12_deal 114 = .ok (.iload 4, 2) := by decide +kernel
theorem dX12_deal_116 : decode cX12_deal 116 = .ok (.if_icmp .eq 9, 3) := by decide +kernel
theorem dX12_deal_119 : decode cX12_deal 119 = .ok (.iinc 11 (-1), 3) := by decide +kernel
theorem dX12_deal_122 : decode cX12_deal 122 = .ok (.goto (-33), 3) := by decide +kernel
theorem dX12_deal_125 : decode cX12_deal 125 = .ok (.aload_n 0, 1) := by decide +kernel
theorem dX12_deal_126 : decode cX12_deal 126 = .ok (.getfield 87, 3) := by decide +kernel
theorem dX12_deal_129 : decode cX12_deal 129 = .ok (.iload 9, 2) := by decide +kernel
theorem dX12_deal_131 : decode cX12_deal 131 = .ok (.iconst 1, 1) := by decide +kernel
theorem dX12_deal_132 : decode cX12_deal 132 = .ok (.isub, 1) := by decide +kernel
theorem dX12_deal_133 : decode cX12_deal 133 = .ok (.iload 11, 2) := by decide +kernel
theorem dX12_deal_135 : decode cX12_deal 135 = .ok (.iastore, 1) := by decide +kernel
theorem dX12_deal_136 : decode cX12_deal 136 = .ok (.iload 7, 2) := by decide +kernel
theorem dX12_deal_138 : decode cX12_deal 138 = .ok (.iload 11, 2) := by decide +kernel
theorem dX12_deal_140 : decode cX12_deal 140 = .ok (.iload 10, 2) := by decide +kernel
theorem dX12_deal_142 : decode cX12_deal 142 = .ok (.imul, 1) := by decide +kernel
theorem dX12_deal_143 : decode cX12_deal 143 = .ok (.iadd, 1) := by decide +kernel
theorem dX12_deal_144 : decode cX12_deal 144 = .ok (.istore 7, 2) := by decide +kernel
theorem dX12_deal_146 : decode cX12_deal 146 = .ok (.iload 8, 2) := by decide +kernel
theorem dX12_deal_148 : decode cX12_deal 148 = .ok (.iload 11, 2) := by decide +kernel
theorem dX12_deal_150 : decode cX12_deal 150 = .ok (.iadd, 1) := by decide +kernel
theorem dX12_deal_151 : decode cX12_deal 151 = .ok (.istore 8, 2) := by decide +kernel
theorem dX12_deal_153 : decode cX12_deal 153 = .ok (.iinc 9 (-1), 3) := by decide +kernel
theorem dX12_deal_156 : decode cX12_deal 156 = .ok (.goto (-99), 3) := by decide +kernel
theorem dX12_deal_159 : decode cX12_deal 159 = .ok (.iload 7, 2) := by decide +kernel
theorem dX12_deal_161 : decode cX12_deal 161 = .ok (.iload_n 3, 1) := by decide +kernel
theorem dX12_deal_162 : decode cX12_deal 162 = .ok (.isub, 1) := by decide +kernel
theorem dX12_deal_163 : decode cX12_deal 163 = .ok (.istore 9, 2) := by decide +kernel
theorem dX12_deal_165 : decode cX12_deal 165 = .ok (.iload 4, 2) := by decide +kernel
theorem dX12_deal_167 : decode cX12_deal 167 = .ok (.iload 8, 2) := by decide +kernel
theorem dX12_deal_169 : decode cX12_deal 169 = .ok (.isub, 1) := by decide +kernel
theorem dX12_deal_170 : decode cX12_deal 170 = .ok (.istore 10, 2) := by decide +kernel
theorem dX12_deal_172 : decode cX12_deal 172 = .ok (.aload_n 0, 1) := by decide +kernel
theorem dX12_deal_173 : decode cX12_deal 173 = .ok (.getfield 9, 3) := by decide +kernel
theorem dX12_deal_176 : decode cX12_deal 176 = .ok (.iload 6, 2) := by decide +kernel
theorem dX12_deal_178 : decode cX12_deal 178 = .ok (.iaload, 1) := by decide +kernel
theorem dX12_deal_179 : decode cX12_deal 179 = .ok (.istore 11, 2) := by decide +kernel
theorem dX12_deal_181 : decode cX12_deal 181 = .ok (.iload 11, 2) := by decide +kernel
theorem dX12_deal_183 : decode cX12_deal 183 = .ok (.ifCond .le 104, 3) := by decide +kernel
theorem dX12_deal_186 : decode cX12_deal 186 = .ok (.aload_n 0, 1) := by decide +kernel
theorem dX12_deal_187 : decode cX12_deal 187 = .ok (.getfield 9, 3) := by decide +kernel
theorem dX12_deal_190 : decode cX12_deal 190 = .ok (.iload 6, 2) := by decide +kernel
theorem dX12_deal_192 : decode cX12_deal 192 = .ok (.iload 11, 2) := by decide +kernel
theorem dX12_deal_194 : decode cX12_deal 194 = .ok (.iadd, 1) := by decide +kernel
theorem dX12_deal_195 : decode cX12_deal 195 = .ok (.iaload, 1) := by decide +kernel
theorem dX12_deal_196 : decode cX12_deal 196 = .ok (.istore 12, 2) := by decide +kernel
theorem dX12_deal_198 : decode cX12_deal 198 = .ok (.aload_n 0, 1) := by decide +kernel
theorem dX12_deal_199 : decode cX12_deal 199 = .ok (.getfield 9, 3) := by decide +kernel
theorem dX12_deal_202 : decode cX12_deal 202 = .ok (.iload 6, 2) := by decide +kernel
theorem dX12_deal_204 : decode cX12_deal 204 = .ok (.bipush 12, 2) := by decide +kernel
theorem dX12_deal_206 : decode cX12_deal 206 = .ok (.iadd, 1) := by decide +kernel
theorem dX12_deal_207 : decode cX12_deal 207 = .ok (.iload 11, 2) := by decide +kernel
theorem dX12_deal_209 : decode cX12_deal 209 = .ok (.iadd, 1) := by decide +kernel
theorem dX12_deal_210 : decode cX12_deal 210 = .ok (.iaload, 1) := by decide +kernel
theorem dX12_deal_211 : decode cX12_deal 211 = .ok (.iload 9, 2) := by decide +kernel
theorem dX12_deal_213 : decode cX12_deal 213 = .ok (.iload 12, 2) := by decide +kernel
theorem dX12_deal_215 : decode cX12_deal 215 = .ok (.idiv, 1) := by decide +kernel
theorem dX12_deal_216 : decode cX12_deal 216 = .ok (.invokestatic 157, 3) := by decide +kernel
theorem dX12_deal_219 : decode cX12_deal 219 = .ok (.istore 13, 2) := by decide +kernel
theorem dX12_deal_221 : decode cX12_deal 221 = .ok (.aload_n 0, 1) := by decide +kernel
theorem dX12_deal_222 : decode cX12_deal 222 = .ok (.getfield 75, 3) := by decide +kernel
theorem dX12_deal_225 : decode cX12_deal 225 = .ok (.iload 11, 2) := by decide +kernel
theorem dX12_deal_227 : decode cX12_deal 227 = .ok (.iconst 1, 1) := by decide +kernel
theorem dX12_deal_228 : decode cX12_deal 228 = .ok (.isub, 1) := by decide +kernel
theorem dX12_deal_229 : decode cX12_deal 229 = .ok (.aaload, 1) := by decide +kernel
theorem dX12_deal_230 : decode cX12_deal 230 = .ok (.iload 9, 2) := by decide +kernel
theorem dX12_deal_232 : decode cX12_deal 232 = .ok (.iload 13, 2) := by decide +kernel
theorem dX12_deal_234 : decode cX12_deal 234 = .ok (.iload 12, 2) := by decide +kernel
theorem dX12_deal_236 : decode cX12_deal 236 = .ok (.imul, 1) := by decide +kernel
theorem dX12_deal_237 : decode cX12_deal 237 = .ok (.isub, 1) := by decide +kernel
theorem dX12_deal_238 : decode cX12_deal 238 = .ok (.iaload, 1) := by decide +kernel
theorem dX12_deal_239 : decode cX12_deal 239 = .ok (.iload 13, 2) := by decide +kernel
theorem dX12_deal_241 : decode cX12_deal 241 = .ok (.iadd, 1) := by decide +kernel
theorem dX12_deal_242 : decode cX12_deal 242 = .ok (.iload 10, 2) := by decide +kernel
theorem dX12_deal_244 : decode cX12_deal 244 = .ok (.if_icmp .eq 9, 3) := by decide +kernel
theorem dX12_deal_247 : decode cX12_deal 247 = .ok (.iinc 13 (-1), 3) := by decide +kernel
theorem dX12_deal_250 : decode cX12_deal 250 = .ok (.goto (-29), 3) := by decide +kernel
theorem dX12_deal_253 : decode cX12_deal 253 = .ok (.aload_n 0, 1) := by decide +kernel
theorem dX12_deal_254 : decode cX12_deal 254 = .ok (.getfield 90, 3) := by decide +kernel
theorem dX12_deal_257 : decode cX12_deal 257 = .ok (.iload 11, 2) := by decide +kernel
theorem dX12_deal_259 : decode cX12_deal 259 = .ok (.iconst 1, 1) := by decide +kernel
theorem dX12_deal_260 : decode cX12_deal 260 = .ok (.isub, 1) := by decide +kernel
theorem dX12_deal_261 : decode cX12_deal 261 = .ok (.iload 13, 2) := by decide +kernel
theorem dX12_deal_263 : decode cX12_deal 263 = .ok (.iastore, 1) := by decide +kernel
theorem dX12_deal_264 : decode cX12_deal 264 = .ok (.iload 9, 2) := by decide +kernel
theorem dX12_deal_266 : decode cX12_deal 266 = .ok (.iload 13, 2) := by decide +kernel
theorem dX12_deal_268 : decode cX12_deal 268 = .ok (.iload 12, 2) := by decide +kernel
theorem dX12_deal_270 : decode cX12_deal 270 = .ok (.imul, 1) := by decide +kernel
theorem dX12_deal_271 : decode cX12_deal 271 = .ok (.isub, 1) := by decide +kernel
theorem dX12_deal_272 : decode cX12_deal 272 = .ok (.istore 9, 2) := by decide +kernel
theorem dX12_deal_274 : decode cX12_deal 274 = .ok (.iload 10, 2) := by decide +kernel
theorem dX12_deal_276 : decode cX12_deal 276 = .ok (.iload 13, 2) := by decide +kernel
theorem dX12_deal_278 : decode cX12_deal 278 = .ok (.isub, 1) := by decide +kernel
theorem dX12_deal_279 : decode cX12_deal 279 = .ok (.istore 10, 2) := by decide +kernel
theorem dX12_deal_281 : decode cX12_deal 281 = .ok (.iinc 11 (-1), 3) := by decide +kernel
theorem dX12_deal_284 : decode cX12_deal 284 = .ok (.goto (-103), 3) := by decide +kernel
theorem dX12_deal_287 : decode cX12_deal 287 = .ok (.aload_n 0, 1) := by decide +kernel
theorem dX12_deal_288 : decode cX12_deal 288 = .ok (.iload_n 1, 1) := by decide +kernel
theorem dX12_deal_289 : decode cX12_deal 289 = .ok (.iload_n 2, 1) := by decide +kernel
theorem dX12_deal_290 : decode cX12_deal 290 = .ok (.aload_n 0, 1) := by decide +kernel
theorem dX12_deal_291 : decode cX12_deal 291 = .ok (.getfield 90, 3) := by decide +kernel
theorem dX12_deal_294 : decode cX12_deal 294 = .ok (.aload_n 0, 1) := by decide +kernel
theorem dX12_deal_295 : decode cX12_deal 295 = .ok (.getfield 87, 3) := by decide +kernel
theorem dX12_deal_298 : decode cX12_deal 298 = .ok (.invokevirtual 282, 3) := by decide +kernel
theorem dX12_deal_301 : decode cX12_deal 301 = .ok (.ifCond .eq 33, 3) := by decide +kernel
theorem dX12_deal_304 : decode cX12_deal 304 = .ok (.aload_n 0, 1) := by decide +kernel
theorem dX12_deal_305 : decode cX12_deal 305 = .ok (.iload_n 2, 1) := by decide +kernel
theorem dX12_deal_306 : decode cX12_deal 306 = .ok (.iload_n 1, 1) := by decide +kernel
theorem dX12_deal_307 : decode cX12_deal 307 = .ok (.aload_n 0, 1) := by decide +kernel
theorem dX12_deal_308 : decode cX12_deal 308 = .ok (.getfield 87, 3) := by decide +kernel
theorem dX12_deal_311 : decode cX12_deal 311 = .ok (.aload_n 0, 1) := by decide +kernel
theorem dX12_deal_312 : decode cX12_deal 312 = .ok (.getfield 90, 3) := by decide +kernel
theorem dX12_deal_315 : decode cX12_deal 315 = .ok (.invokevirtual 282, 3) := by decide +kernel
theorem dX12_deal_318 : decode cX12_deal 318 = .ok (.ifCond .eq 16, 3) := by decide +kernel
theorem dX12_deal_321 : decode cX12_deal 321 = .ok (.aload_n 0, 1) := by decide +kernel
theorem dX12_deal_322 : decode cX12_deal 322 = .ok (.iload_n 2, 1) := by decide +kernel
theorem dX12_deal_323 : decode cX12_deal 323 = .ok (.invokevirtual 263, 3) := by decide +kernel
theorem dX12_deal_326 : decode cX12_deal 326 = .ok (.iload_n 3, 1) := by decide +kernel
theorem dX12_deal_327 : decode cX12_deal 327 = .ok (.iadd, 1) := by decide +kernel
theorem dX12_deal_328 : decode cX12_deal 328 = .ok (.sipush 20000, 3) := by decide +kernel
theorem dX12_deal_331 : decode cX12_deal 331 = .ok (.if_icmp .le 6, 3) := by decide +kernel
theorem dX12_deal_334 : decode cX12_deal 334 = .ok (.bipush (-2), 2) := by decide +kernel
theorem dX12_deal_336 : decode cX12_deal 336 = .ok (.ireturn, 1) := by decide +kernel
theorem dX12_deal_337 : decode cX12_deal 337 = .ok (.aload_n 0, 1) := by decide +kernel
theorem dX12_deal_338 : decode cX12_deal 338 = .ok (.getfield 93, 3) := by decide +kernel
theorem dX12_deal_341 : decode cX12_deal 341 = .ok (.astore 11, 2) := by decide +kernel
theorem dX12_deal_343 : decode cX12_deal 343 = .ok (.iconst 0, 1) := by decide +kernel
theorem dX12_deal_344 : decode cX12_deal 344 = .ok (.istore 12, 2) := by decide +kernel
theorem dX12_deal_346 : decode cX12_deal 346 = .ok (.iload 12, 2) := by decide +kernel
theorem dX12_deal_348 : decode cX12_deal 348 = .ok (.bipush 25, 2) := by decide +kernel
theorem dX12_deal_350 : decode cX12_deal 350 = .ok (.if_icmp .ge 42, 3) := by decide +kernel
theorem dX12_deal_353 : decode cX12_deal 353 = .ok (.aload 11, 2) := by decide +kernel
theorem dX12_deal_355 : decode cX12_deal 355 = .ok (.iload 12, 2) := by decide +kernel
theorem dX12_deal_357 : decode cX12_deal 357 = .ok (.aload_n 0, 1) := by decide +kernel
theorem dX12_deal_358 : decode cX12_deal 358 = .ok (.getfield 9, 3) := by decide +kernel
theorem dX12_deal_361 : decode cX12_deal 361 = .ok (.iload 5, 2) := by decide +kernel
theorem dX12_deal_363 : decode cX12_deal 363 = .ok (.iload 12, 2) := by decide +kernel
theorem dX12_deal_365 : decode cX12_deal 365 = .ok (.iadd, 1) := by decide +kernel
theorem dX12_deal_366 : decode cX12_deal 366 = .ok (.iaload, 1) := by decide +kernel
theorem dX12_deal_367 : decode cX12_deal 367 = .ok (.iastore, 1) := by decide +kernel
theorem dX12_deal_368 : decode cX12_deal 368 = .ok (.aload 11, 2) := by decide +kernel
theorem dX12_deal_370 : decode cX12_deal 370 = .ok (.bipush 25, 2) := by decide +kernel
theorem dX12_deal_372 : decode cX12_deal 372 = .ok (.iload 12, 2) := by decide +kernel
theorem dX12_deal_374 : decode cX12_deal 374 = .ok (.iadd, 1) := by decide +kernel
theorem dX12_deal_375 : decode cX12_deal 375 = .ok (.aload_n 0, 1) := by decide +kernel
theorem dX12_deal_376 : decode cX12_deal 376 = .ok (.getfield 9, 3) := by decide +kernel
theorem dX12_deal_379 : decode cX12_deal 379 = .ok (.iload 6, 2) := by decide +kernel
theorem dX12_deal_381 : decode cX12_deal 381 = .ok (.iload 12, 2) := by decide +kernel
theorem dX12_deal_383 : decode cX12_deal 383 = .ok (.iadd, 1) := by decide +kernel
theorem dX12_deal_384 : decode cX12_deal 384 = .ok (.iaload, 1) := by decide +kernel
theorem dX12_deal_385 : decode cX12_deal 385 = .ok (.iastore, 1) := by decide +kernel
theorem dX12_deal_386 : decode cX12_deal 386 = .ok (.iinc 12 1, 3) := by decide +kernel
theorem dX12_deal_389 : decode cX12_deal 389 = .ok (.goto (-43), 3) := by decide +kernel
theorem dX12_deal_392 : decode cX12_deal 392 = .ok (.iconst 0, 1) := by decide +kernel
theorem dX12_deal_393 : decode cX12_deal 393 = .ok (.istore 12, 2) := by decide +kernel
theorem dX12_deal_395 : decode cX12_deal 395 = .ok (.iload 12, 2) := by decide +kernel
theorem dX12_deal_397 : decode cX12_deal 397 = .ok (.aload 11, 2) := by decide +kernel
theorem dX12_deal_399 : decode cX12_deal 399 = .ok (.iconst 0, 1) := by decide +kernel
theorem dX12_deal_400 : decode cX12_deal 400 = .ok (.iaload, 1) := by decide +kernel
theorem dX12_deal_401 : decode cX12_deal 401 = .ok (.if_icmp .ge 32, 3) := by decide +kernel
theorem dX12_deal_404 : decode cX12_deal 404 = .ok (.aload_n 0, 1) := by decide +kernel
theorem dX12_deal_405 : decode cX12_deal 405 = .ok (.getfield 9, 3) := by decide +kernel
theorem dX12_deal_408 : decode cX12_deal 408 = .ok (.iload 5, 2) := by decide +kernel
theorem dX12_deal_410 : decode cX12_deal 410 = .ok (.bipush 13, 2) := by decide +kernel
theorem dX12_deal_412 : decode cX12_deal 412 = .ok (.iadd, 1) := by decide +kernel
theorem dX12_deal_413 : decode cX12_deal 413 = .ok (.iload 12, 2) := by decide +kernel
theorem dX12_deal_415 : decode cX12_deal 415 = .ok (.iadd, 1) := by decide +kernel
theorem dX12_deal_416 : decode cX12_deal 416 = .ok (.dup2, 1) := by decide +kernel
theorem dX12_deal_417 : decode cX12_deal 417 = .ok (.iaload, 1) := by decide +kernel
theorem dX12_deal_418 : decode cX12_deal 418 = .ok (.aload_n 0, 1) := by decide +kernel
theorem dX12_deal_419 : decode cX12_deal 419 = .ok (.getfield 87, 3) := by decide +kernel
theorem dX12_deal_422 : decode cX12_deal 422 = .ok (.iload 12, 2) := by decide +kernel
theorem dX12_deal_424 : decode cX12_deal 424 = .ok (.iaload, 1) := by decide +kernel
theorem dX12_deal_425 : decode cX12_deal 425 = .ok (.isub, 1) := by decide +kernel
theorem dX12_deal_426 : decode cX12_deal 426 = .ok (.iastore, 1) := by decide +kernel
theorem dX12_deal_427 : decode cX12_deal 427 = .ok (.iinc 12 1, 3) := by decide +kernel
theorem dX12_deal_430 : decode cX12_deal 430 = .ok (.goto (-35), 3) := by decide +kernel
theorem dX12_deal_433 : decode cX12_deal 433 = .ok (.iconst 0, 1) := by decide +kernel
theorem dX12_deal_434 : decode cX12_deal 434 = .ok (.istore 12, 2) := by decide +kernel
theorem dX12_deal_436 : decode cX12_deal 436 = .ok (.iload 12, 2) := by decide +kernel
theorem dX12_deal_438 : decode cX12_deal 438 = .ok (.aload 11, 2) := by decide +kernel
theorem dX12_deal_440 : decode cX12_deal 440 = .ok (.bipush 25, 2) := by decide +kernel
theorem dX12_deal_442 : decode cX12_deal 442 = .ok (.iaload, 1) := by decide +kernel
theorem dX12_deal_443 : decode cX12_deal 443 = .ok (.if_icmp .ge 32, 3) := by decide +kernel
theorem dX12_deal_446 : decode cX12_deal 446 = .ok (.aload_n 0, 1) := by decide +kernel
theorem dX12_deal_447 : decode cX12_deal 447 = .ok (.getfield 9, 3) := by decide +kernel
theorem dX12_deal_450 : decode cX12_deal 450 = .ok (.iload 6, 2) := by decide +kernel
theorem dX12_deal_452 : decode cX12_deal 452 = .ok (.bipush 13, 2) := by decide +kernel
theorem dX12_deal_454 : decode cX12_deal 454 = .ok (.iadd, 1) := by decide +kernel
theorem dX12_deal_455 : decode cX12_deal 455 = .ok (.iload 12, 2) := by decide +kernel
theorem dX12_deal_457 : decode cX12_deal 457 = .ok (.iadd, 1) := by decide +kernel
theorem dX12_deal_458 : decode cX12_deal 458 = .ok (.dup2, 1) := by decide +kernel
theorem dX12_deal_459 : decode cX12_deal 459 = .ok (.iaload, 1) := by decide +kernel
theorem dX12_deal_460 : decode cX12_deal 460 = .ok (.aload_n 0, 1) := by decide +kernel
theorem dX12_deal_461 : decode cX12_deal 461 = .ok (.getfield 90, 3) := by decide +kernel
theorem dX12_deal_464 : decode cX12_deal 464 = .ok (.iload 12, 2) := by decide +kernel
theorem dX12_deal_466 : decode cX12_deal 466 = .ok (.iaload, 1) := by decide +kernel
theorem dX12_deal_467 : decode cX12_deal 467 = .ok (.isub, 1) := by decide +kernel
theorem dX12_deal_468 : decode cX12_deal 468 = .ok (.iastore, 1) := by decide +kernel
theorem dX12_deal_469 : decode cX12_deal 469 = .ok (.iinc 12 1, 3) := by decide +kernel
theorem dX12_deal_472 : decode cX12_deal 472 = .ok (.goto (-36), 3) := by decide +kernel
theorem dX12_deal_475 : decode cX12_deal 475 = .ok (.iconst 0, 1) := by decide +kernel
theorem dX12_deal_476 : decode cX12_deal 476 = .ok (.istore 12, 2) := by decide +kernel
theorem dX12_deal_478 : decode cX12_deal 478 = .ok (.iload 12, 2) := by decide +kernel
theorem dX12_deal_480 : decode cX12_deal 480 = .ok (.aload 11, 2) := by decide +kernel
theorem dX12_deal_482 : decode cX12_deal 482 = .ok (.iconst 0, 1) := by decide +kernel
theorem dX12_deal_483 : decode cX12_deal 483 = .ok (.iaload, 1) := by decide +kernel
theorem dX12_deal_484 : decode cX12_deal 484 = .ok (.if_icmp .ge 29, 3) := by decide +kernel
theorem dX12_deal_487 : decode cX12_deal 487 = .ok (.aload_n 0, 1) := by decide +kernel
theorem dX12_deal_488 : decode cX12_deal 488 = .ok (.iload 6, 2) := by decide +kernel
theorem dX12_deal_490 : decode cX12_deal 490 = .ok (.aload 11, 2) := by decide +kernel
theorem dX12_deal_492 : decode cX12_deal 492 = .ok (.iconst 1, 1) := by decide +kernel
theorem dX12_deal_493 : decode cX12_deal 493 = .ok (.iload 12, 2) := by decide +kernel
theorem dX12_deal_495 : decode cX12_deal 495 = .ok (.iadd, 1) := by decide +kernel
theorem dX12_deal_496 : decode cX12_deal 496 = .ok (.iaload, 1) := by decide +kernel
theorem dX12_deal_497 : decode cX12_deal 497 = .ok (.aload_n 0, 1) := by decide +kernel
theorem dX12_deal_498 : decode cX12_deal 498 = .ok (.getfield 87, 3) := by decide +kernel
theorem dX12_deal_501 : decode cX12_deal 501 = .ok (.iload 12, 2) := by decide +kernel
theorem dX12_deal_503 : decode cX12_deal 503 = .ok (.iaload, 1) := by decide +kernel
theorem dX12_deal_504 : decode cX12_deal 504 = .ok (.invokevirtual 286, 3) := by decide +kernel
theorem dX12_deal_507 : decode cX12_deal 507 = .ok (.iinc 12 1, 3) := by decide +kernel
theorem dX12_deal_510 : decode cX12_deal 510 = .ok (.goto (-32), 3) := by decide +kernel
theorem dX12_deal_513 : decode cX12_deal 513 = .ok (.iconst 0, 1) := by decide +kernel
theorem dX12_deal_514 : decode cX12_deal 514 = .ok (.istore 12, 2) := by decide +kernel
theorem dX12_deal_516 : decode cX12_deal 516 = .ok (.iload 12, 2) := by decide +kernel
theorem dX12_deal_518 : decode cX12_deal 518 = .ok (.aload 11, 2) := by decide +kernel
theorem dX12_deal_520 : decode cX12_deal 520 = .ok (.bipush 25, 2) := by decide +kernel
theorem dX12_deal_522 : decode cX12_deal 522 = .ok (.iaload, 1) := by decide +kernel
theorem dX12_deal_523 : decode cX12_deal 523 = .ok (.if_icmp .ge 30, 3) := by decide +kernel
theorem dX12_deal_526 : decode cX12_deal 526 = .ok (.aload_n 0, 1) := by decide +kernel
theorem dX12_deal_527 : decode cX12_deal 527 = .ok (.iload 5, 2) := by decide +kernel
theorem dX12_deal_529 : decode cX12_deal 529 = .ok (.aload 11, 2) := by decide +kernel
theorem dX12_deal_531 : decode cX12_deal 531 = .ok (.bipush 26, 2) := by decide +kernel
theorem dX12_deal_533 : decode cX12_deal 533 = .ok (.iload 12, 2) := by decide +kernel
theorem dX12_deal_535 : decode cX12_deal 535 = .ok (.iadd, 1) := by decide +kernel
theorem dX12_deal_536 : decode cX12_deal 536 = .ok (.iaload, 1) := by decide +kernel
theorem dX12_deal_537 : decode cX12_deal 537 = .ok (.aload_n 0, 1) := by decide +kernel
theorem dX12_deal_538 : decode cX12_deal 538 = .ok (.getfield 90, 3) := by decide +kernel
theorem dX12_deal_541 : decode cX12_deal 541 = .ok (.iload 12, 2) := by decide +kernel
theorem dX12_deal_543 : decode cX12_deal 543 = .ok (.iaload, 1) := by decide +kernel
theorem dX12_deal_544 : decode cX12_deal 544 = .ok (.invokevirtual 286, 3) := by decide +kernel
theorem dX12_deal_547 : decode cX12_deal 547 = .ok (.iinc 12 1, 3) := by decide +kernel
theorem dX12_deal_550 : decode cX12_deal 550 = .ok (.goto (-34), 3) := by decide +kernel
theorem dX12_deal_553 : decode cX12_deal 553 = .ok (.aload_n 0, 1) := by decide +kernel
theorem dX12_deal_554 : decode cX12_deal 554 = .ok (.invokevirtual 119, 3) := by decide +kernel
theorem dX12_deal_557 : decode cX12_deal 557 = .ok (.iload 4, 2) := by decide +kernel
theorem dX12_deal_559 : decode cX12_deal 559 = .ok (.ireturn, 1) := by decide +kernel
theorem dX12_fits_0 : decode cX12_fits 0 = .ok (.iload_n 1, 1) := by decide +kernel
theorem dX12_fits_1 : decode cX12_fits 1 = .ok (.invokestatic 260, 3) := by decide +kernel
theorem dX12_fits_4 : decode cX12_fits 4 = .ok (.istore 5, 2) := by decide +kernel
theorem dX12_fits_6 : decode cX12_fits 6 = .ok (.iload_n 2, 1) := by decide +kernel
theorem dX12_fits_7 : decode cX12_fits 7 = .ok (.invokestatic 260, 3) := by decide +kernel
theorem dX12_fits_10 : decode cX12_fits 10 = .ok (.istore 6, 2) := by decide +kernel
theorem dX12_fits_12 : decode cX12_fits 12 = .ok (.aload_n 0, 1) := by decide +kernel
theorem dX12_fits_13 : decode cX12_fits 13 = .ok (.getfield 9, 3) := by decide +kernel
theorem dX12_fits_16 : decode cX12_fits 16 = .ok (.iload 5, 2) := by decide +kernel
theorem dX12_fits_18 : decode cX12_fits 18 = .ok (.iaload, 1) := by decide +kernel
theorem dX12_fits_19 : decode cX12_fits 19 = .ok (.istore 7, 2) := by decide +kernel
theorem dX12_fits_21 : decode cX12_fits 21 = .ok (.iconst 1, 1) := by decide +kernel
theorem dX12_fits_22 : decode cX12_fits 22 = .ok (.istore 8, 2) := by decide +kernel
theorem dX12_fits_24 : decode cX12_fits 24 = .ok (.iconst 0, 1) := by decide +kernel
theorem dX12_fits_25 : decode cX12_fits 25 = .ok (.istore 9, 2) := by decide +kernel
theorem dX12_fits_27 : decode cX12_fits 27 = .ok (.iload 9, 2) := by decide +kernel
theorem dX12_fits_29 : decode cX12_fits 29 = .ok (.aload_n 0, 1) := by decide +kernel
theorem dX12_fits_30 : decode cX12_fits 30 = .ok (.getfield 9, 3) := by decide +kernel
theorem dX12_fits_33 : decode cX12_fits 33 = .ok (.iload 6, 2) := by decide +kernel
theorem dX12_fits_35 : decode cX12_fits 35 = .ok (.iaload, 1) := by decide +kernel
theorem dX12_fits_36 : decode cX12_fits 36 = .ok (.if_icmp .ge 126, 3) := by decide +kernel
theorem dX12_fits_39 : decode cX12_fits 39 = .ok (.aload_n 3, 1) := by decide +kernel
theorem dX12_fits_40 : decode cX12_fits 40 = .ok (.iload 9, 2) := by decide +kernel
theorem dX12_fits_42 : decode cX12_fits 42 = .ok (.iaload, 1) := by decide +kernel
theorem dX12_fits_43 : decode cX12_fits 43 = .ok (.ifCond .ne 6, 3) := by decide +kernel
theorem dX12_fits_46 : decode cX12_fits 46 = .ok (.goto 110, 3) := by decide +kernel
theorem dX12_fits_49 : decode cX12_fits 49 = .ok (.iconst 0, 1) := by decide +kernel
theorem dX12_fits_50 : decode cX12_fits 50 = .ok (.istore 10, 2) := by decide +kernel
theorem dX12_fits_52 : decode cX12_fits 52 = .ok (.iload 10, 2) := by decide +kernel
theorem dX12_fits_54 : decode cX12_fits 54 = .ok (.aload_n 0, 1) := by decide +kernel
theorem dX12_fits_55 : decode cX12_fits 55 = .ok (.getfield 9, 3) := by decide +kernel
theorem dX12_fits_58 : decode cX12_fits 58 = .ok (.iload 5, 2) := by decide +kernel
theorem dX12_fits_60 : decode cX12_fits 60 = .ok (.iaload, 1) := by decide +kernel
theorem dX12_fits_61 : decode cX12_fits 61 = .ok (.if_icmp .ge 36, 3) := by decide +kernel
theorem dX12_fits_64 : decode cX12_fits 64 = .ok (.aload_n 0, 1) := by decide +kernel
theorem dX12_fits_65 : decode cX12_fits 65 = .ok (.getfield 9, 3) := by decide +kernel
theorem dX12_fits_68 : decode cX12_fits 68 = .ok (.iload 5, 2) := by decide +kernel
theorem dX12_fits_70 : decode cX12_fits 70 = .ok (.iconst 1, 1) := by decide +kernel
theorem dX12_fits_71 : decode cX12_fits 71 = .ok (.iadd, 1) := by decide +kernel
theorem dX12_fits_72 : decode cX12_fits 72 = .ok (.iload 10, 2) := by decide +kernel
theorem dX12_fits_74 : decode cX12_fits 74 = .ok (.iadd, 1) := by decide +kernel
theorem dX12_fits_75 : decode cX12_fits 75 = .ok (.iaload, 1) := by decide +kernel
theorem dX12_fits_76 : decode cX12_fits 76 = .ok (.aload_n 0, 1) := by decide +kernel
theorem dX12_fits_77 : decode cX12_fits 77 = .ok (.getfield 9, 3) := by decide +kernel
theorem dX12_fits_80 : decode cX12_fits 80 = .ok (.iload 6, 2) := by decide +kernel
theorem dX12_fits_82 : decode cX12_fits 82 = .ok (.iconst 1, 1) := by decide +kernel
theorem dX12_fits_83 : decode cX12_fits 83 = .ok (.iadd, 1) := by decide +kernel
theorem dX12_fits_84 : decode cX12_fits 84 = .ok (.iload 9, 2) := by decide +kernel
theorem dX12_fits_86 : decode cX12_fits 86 = .ok (.iadd, 1) := by decide +kernel
theorem dX12_fits_87 : decode cX12_fits 87 = .ok (.iaload, 1) := by decide +kernel
theorem dX12_fits_88 : decode cX12_fits 88 = .ok (.if_icmp .eq 9, 3) := by decide +kernel
theorem dX12_fits_91 : decode cX12_fits 91 = .ok (.iinc 10 1, 3) := by decide +kernel
theorem dX12_fits_94 : decode cX12_fits 94 = .ok (.goto (-42), 3) := by decide +kernel
theorem dX12_fits_97 : decode cX12_fits 97 = .ok (.iload 10, 2) := by decide +kernel
theorem dX12_fits_99 : decode cX12_fits 99 = .ok (.aload_n 0, 1) := by decide +kernel
theorem dX12_fits_100 : decode cX12_fits 100 = .ok (.getfield 9, 3) := by decide +kernel
theorem dX12_fits_103 : decode cX12_fits 103 = .ok (.iload 5, 2) := by decide +kernel
theorem dX12_fits_105 : decode cX12_fits 105 = .ok (.iaload, 1) := by decide +kernel
theorem dX12_fits_106 : decode cX12_fits 106 = .ok (.if_icmp .ne 9, 3) := by decide +kernel
theorem dX12_fits_109 : decode cX12_fits 109 = .ok (.iinc 7 1, 3) := by decide +kernel
theorem dX12_fits_112 : decode cX12_fits 112 = .ok (.goto 44, 3) := by decide +kernel
theorem dX12_fits_115 : decode cX12_fits 115 = .ok (.iload 8, 2) := by decide +kernel
theorem dX12_fits_117 : decode cX12_fits 117 = .ok (.ifCond .eq 36, 3) := by decide +kernel
theorem dX12_fits_120 : decode cX12_fits 120 = .ok (.aload_n 0, 1) := by decide +kernel
theorem dX12_fits_121 : decode cX12_fits 121 = .ok (.getfield 9, 3) := by decide +kernel
theorem dX12_fits_124 : decode cX12_fits 124 = .ok (.iload 5, 2) := by decide +kernel
theorem dX12_fits_126 : decode cX12_fits 126 = .ok (.bipush 13, 2) := by decide +kernel
theorem dX12_fits_128 : decode cX12_fits 128 = .ok (.iadd, 1) := by decide +kernel
theorem dX12_fits_129 : decode cX12_fits 129 = .ok (.iload 10, 2) := by decide +kernel
theorem dX12_fits_131 : decode cX12_fits 131 = .ok (.iadd, 1) := by decide +kernel
theorem dX12_fits_132 : decode cX12_fits 132 = .ok (.iaload, 1) := by decide +kernel
theorem dX12_fits_133 : decode cX12_fits 133 = .ok (.aload 4, 2) := by decide +kernel
theorem dX12_fits_135 : decode cX12_fits 135 = .ok (.iload 10, 2) := by decide +kernel
theorem dX12_fits_137 : decode cX12_fits 137 = .ok (.iaload, 1) := by decide +kernel
theorem dX12_fits_138 : decode cX12_fits 138 = .ok (.isub, 1) := by decide +kernel
theorem dX12_fits_139 : decode cX12_fits 139 = .ok (.aload_n 3, 1) := by decide +kernel
theorem dX12_fits_140 : decode cX12_fits 140 = .ok (.iload 9, 2) := by decide +kernel
theorem dX12_fits_142 : decode cX12_fits 142 = .ok (.iaload, 1) := by decide +kernel
theorem dX12_fits_143 : decode cX12_fits 143 = .ok (.iadd, 1) := by decide +kernel
theorem dX12_fits_144 : decode cX12_fits 144 = .ok (.bipush 20, 2) := by decide +kernel
theorem dX12_fits_146 : decode cX12_fits 146 = .ok (.if_icmp .gt 7, 3) := by decide +kernel
theorem dX12_fits_149 : decode cX12_fits 149 = .ok (.iconst 1, 1) := by decide +kernel
theorem dX12_fits_150 : decode cX12_fits 150 = .ok (.goto 4, 3) := by decide +kernel
theorem dX12_fits_153 : decode cX12_fits 153 = .ok (.iconst 0, 1) := by decide +kernel
theorem dX12_fits_154 : decode cX12_fits 154 = .ok (.istore 8, 2) := by decide +kernel
theorem dX12_fits_156 : decode cX12_fits 156 = .ok (.iinc 9 1, 3) := by decide +kernel
theorem dX12_fits_159 : decode cX12_fits 159 = .ok (.goto (-132), 3) := by decide +kernel
theorem dX12_fits_162 : decode cX12_fits 162 = .ok (.iload 8, 2) := by decide +kernel
theorem dX12_fits_164 : decode cX12_fits 164 = .ok (.ifCond .eq 14, 3) := by decide +kernel
theorem dX12_fits_167 : decode cX12_fits 167 = .ok (.iload 7, 2) := by decide +kernel
theorem dX12_fits_169 : decode cX12_fits 169 = .ok (.bipush 12, 2) := by decide +kernel
theorem dX12_fits_171 : decode cX12_fits 171 = .ok (.if_icmp .gt 7, 3) := by decide +kernel
theorem dX12_fits_174 : decode cX12_fits 174 = .ok (.iconst 1, 1) := by decide +kernel
theorem dX12_fits_175 : decode cX12_fits 175 = .ok (.goto 4, 3) := by decide +kernel
theorem dX12_fits_178 : decode cX12_fits 178 = .ok (.iconst 0, 1) := by decide +kernel
theorem dX12_fits_179 : decode cX12_fits 179 = .ok (.ireturn, 1) := by decide +kernel
theorem dX12_gets_0 : decode cX12_gets 0 = .ok (.iload_n 3, 1) := by decide +kernel
theorem dX12_gets_1 : decode cX12_gets 1 = .ok (.ifCond .ne 4, 3) := by decide +kernel
theorem dX12_gets_4 : decode cX12_gets 4 = .ok (.return_, 1) := by decide +kernel
theorem dX12_gets_5 : decode cX12_gets 5 = .ok (.aload_n 0, 1) := by decide +kernel
theorem dX12_gets_6 : decode cX12_gets 6 = .ok (.getfield 9, 3) := by decide +kernel
theorem dX12_gets_9 : decode cX12_gets 9 = .ok (.iload_n 1, 1) := by decide +kernel
theorem dX12_gets_10 : decode cX12_gets 10 = .ok (.iaload, 1) := by decide +kernel
theorem dX12_gets_11 : decode cX12_gets 11 = .ok (.istore 4, 2) := by decide +kernel
theorem dX12_gets_13 : decode cX12_gets 13 = .ok (.iload 4, 2) := by decide +kernel
theorem dX12_gets_15 : decode cX12_gets 15 = .ok (.ifCond .le 22, 3) := by decide +kernel
theorem dX12_gets_18 : decode cX12_gets 18 = .ok (.aload_n 0, 1) := by decide +kernel
theorem dX12_gets_19 : decode cX12_gets 19 = .ok (.getfield 9, 3) := by decide +kernel
theorem dX12_gets_22 : decode cX12_gets 22 = .ok (.iload_n 1, 1) := by decide +kernel
theorem dX12_gets_23 : decode cX12_gets 23 = .ok (.iload 4, 2) := by decide +kernel
theorem dX12_gets_25 : decode cX12_gets 25 = .ok (.iadd, 1) := by decide +kernel
theorem dX12_gets_26 : decode cX12_gets 26 = .ok (.iaload, 1) := by decide +kernel
theorem dX12_gets_27 : decode cX12_gets 27 = .ok (.iload_n 2, 1) := by decide +kernel
theorem dX12_gets_28 : decode cX12_gets 28 = .ok (.if_icmp .le 9, 3) := by decide +kernel
theorem dX12_gets_31 : decode cX12_gets 31 = .ok (.iinc 4 (-1), 3) := by decide +kernel
theorem dX12_gets_34 : decode cX12_gets 34 = .ok (.goto (-21), 3) := by decide +kernel
theorem dX12_gets_37 : decode cX12_gets 37 = .ok (.iload 4, 2) := by decide +kernel
theorem dX12_gets_39 : decode cX12_gets 39 = .ok (.ifCond .le 33, 3) := by decide +kernel
theorem dX12_gets_42 : decode cX12_gets 42 = .ok (.aload_n 0, 1) := by decide +kernel
theorem dX12_gets_43 : decode cX12_gets 43 = .ok (.getfield 9, 3) := by decide +kernel
theorem dX12_gets_46 : decode cX12_gets 46 = .ok (.iload_n 1, 1) := by decide +kernel
theorem dX12_gets_47 : decode cX12_gets 47 = .ok (.iload 4, 2) := by decide +kernel
theorem dX12_gets_49 : decode cX12_gets 49 = .ok (.iadd, 1) := by decide +kernel
theorem dX12_gets_50 : decode cX12_gets 50 = .ok (.iaload, 1) := by decide +kernel
theorem dX12_gets_51 : decode cX12_gets 51 = .ok (.iload_n 2, 1) := by decide +kernel
theorem dX12_gets_52 : decode cX12_gets 52 = .ok (.if_icmp .ne 20, 3) := by decide +kernel
theorem dX12_gets_55 : decode cX12_gets 55 = .ok (.aload_n 0, 1) := by decide +kernel
theorem dX12_gets_56 : decode cX12_gets 56 = .ok (.getfield 9, 3) := by decide +kernel
theorem dX12_gets_59 : decode cX12_gets 59 = .ok (.iload_n 1, 1) := by decide +kernel
theorem dX12_gets_60 : decode cX12_gets 60 = .ok (.bipush 12, 2) := by decide +kernel
theorem dX12_gets_62 : decode cX12_gets 62 = .ok (.iadd, 1) := by decide +kernel
theorem dX12_gets_63 : decode cX12_gets 63 = .ok (.iload 4, 2) := by decide +kernel
theorem dX12_gets_65 : decode cX12_gets 65 = .ok (.iadd, 1) := by decide +kernel
theorem dX12_gets_66 : decode cX12_gets 66 = .ok (.dup2, 1) := by decide +kernel
theorem dX12_gets_67 : decode cX12_gets 67 = .ok (.iaload, 1) := by decide +kernel
theorem dX12_gets_68 : decode cX12_gets 68 = .ok (.iload_n 3, 1) := by decide +kernel
theorem dX12_gets_69 : decode cX12_gets 69 = .ok (.iadd, 1) := by decide +kernel
theorem dX12_gets_70 : decode cX12_gets 70 = .ok (.iastore, 1) := by decide +kernel
theorem dX12_gets_71 : decode cX12_gets 71 = .ok (.return_, 1) := by decide +kernel
theorem dX12_gets_72 : decode cX12_gets 72 = .ok (.aload_n 0, 1) := by decide +kernel
theorem dX12_gets_73 : decode cX12_gets 73 = .ok (.getfield 9, 3) := by decide +kernel
theorem dX12_gets_76 : decode cX12_gets 76 = .ok (.iload_n 1, 1) := by decide +kernel
theorem dX12_gets_77 : decode cX12_gets 77 = .ok (.iaload, 1) := by decide +kernel
theorem dX12_gets_78 : decode cX12_gets 78 = .ok (.istore 5, 2) := by decide +kernel
theorem dX12_gets_80 : decode cX12_gets 80 = .ok (.iload 5, 2) := by decide +kernel
theorem dX12_gets_82 : decode cX12_gets 82 = .ok (.iload 4, 2) := by decide +kernel
theorem dX12_gets_84 : decode cX12_gets 84 = .ok (.if_icmp .le 53, 3) := by decide +kernel
theorem dX12_gets_87 : decode cX12_gets 87 = .ok (.aload_n 0, 1) := by decide +kernel
theorem dX12_gets_88 : decode cX12_gets 88 = .ok (.getfield 9, 3) := by decide +kernel
theorem dX12_gets_91 : decode cX12_gets 91 = .ok (.iload_n 1, 1) := by decide +kernel
theorem dX12_gets_92 : decode cX12_gets 92 = .ok (.iload 5, 2) := by decide +kernel
theorem dX12_gets_94 : decode cX12_gets 94 = .ok (.iadd, 1) := by decide +kernel
theorem dX12_gets_95 : decode cX12_gets 95 = .ok (.iconst 1, 1) := by decide +kernel
theorem dX12_gets_96 : decode cX12_gets 96 = .ok (.iadd, 1) := by decide +kernel
theorem dX12_gets_97 : decode cX12_gets 97 = .ok (.aload_n 0, 1) := by decide +kernel
theorem dX12_gets_98 : decode cX12_gets 98 = .ok (.getfield 9, 3) := by decide +kernel
theorem dX12_gets_101 : decode cX12_gets 101 = .ok (.iload_n 1, 1) := by decide +kernel
theorem dX12_gets_102 : decode cX12_gets 102 = .ok (.iload 5, 2) := by decide +kernel
theorem dX12_gets_104 : decode cX12_gets 104 = .ok (.iadd, 1) := by decide +kernel
theorem dX12_gets_105 : decode cX12_gets 105 = .ok (.iaload, 1) := by decide +kernel
theorem dX12_gets_106 : decode cX12_gets 106 = .ok (.iastore, 1) := by decide +kernel
theorem dX12_gets_107 : decode cX12_gets 107 = .ok (.aload_n 0, 1) := by decide +kernel
theorem dX12_gets_108 : decode cX12_gets 108 = .ok (.getfield 9, 3) := by decide +kernel
theorem dX12_gets_111 : decode cX12_gets 111 = .ok (.iload_n 1, 1) := by decide +kernel
theorem dX12_gets_112 : decode cX12_gets 112 = .ok (.bipush 13, 2) := by decide +kernel
theorem dX12_gets_114 : decode cX12_gets 114 = .ok (.iadd, 1) := by decide +kernel
theorem dX12_gets_115 : decode cX12_gets 115 = .ok (.iload 5, 2) := by decide +kernel
theorem dX12_gets_117 : decode cX12_gets 117 = .ok (.iadd, 1) := by decide +kernel
theorem dX12_gets_118 : decode cX12_gets 118 = .ok (.aload_n 0, 1) := by decide +kernel
theorem dX12_gets_119 : decode cX12_gets 119 = .ok (.getfield 9, 3) := by decide +kernel
theorem dX12_gets_122 : decode cX12_gets 122 = .ok (.iload_n 1, 1) := by decide +kernel
theorem dX12_gets_123 : decode cX12_gets 123 = .ok (.bipush 12, 2) := by decide +kernel
theorem dX12_gets_125 : decode cX12_gets 125 = .ok (.iadd, 1) := by decide +kernel
theorem dX12_gets_126 : decode cX12_gets 126 = .ok (.iload 5, 2) := by decide +kernel
theorem dX12_gets_128 : decode cX12_gets 128 = .ok (.iadd, 1) := by decide +kernel
theorem dX12_gets_129 : decode cX12_gets 129 = .ok (.iaload, 1) := by decide +kernel
theorem dX12_gets_130 : decode cX12_gets 130 = .ok (.iastore, 1) := by decide +kernel
theorem dX12_gets_131 : decode cX12_gets 131 = .ok (.iinc 5 (-1), 3) := by decide +kernel
theorem dX12_gets_134 : decode cX12_gets 134 = .ok (.goto (-54), 3) := by decide +kernel
theorem dX12_gets_137 : decode cX12_gets 137 = .ok (.aload_n 0, 1) := by decide +kernel
theorem dX12_gets_138 : decode cX12_gets 138 = .ok (.getfield 9, 3) := by decide +kernel
theorem dX12_gets_141 : decode cX12_gets 141 = .ok (.iload_n 1, 1) := by decide +kernel
theorem dX12_gets_142 : decode cX12_gets 142 = .ok (.iload 4, 2) := by decide +kernel
theorem dX12_gets_144 : decode cX12_gets 144 = .ok (.iadd, 1) := by decide +kernel
theorem dX12_gets_145 : decode cX12_gets 145 = .ok (.iconst 1, 1) := by decide +kernel
theorem dX12_gets_146 : decode cX12_gets 146 = .ok (.iadd, 1) := by decide +kernel
theorem dX12_gets_147 : decode cX12_gets 147 = .ok (.iload_n 2, 1) := by decide +kernel
theorem dX12_gets_148 : decode cX12_gets 148 = .ok (.iastore, 1) := by decide +kernel
theorem dX12_gets_149 : decode cX12_gets 149 = .ok (.aload_n 0, 1) := by decide +kernel
theorem dX12_gets_150 : decode cX12_gets 150 = .ok (.getfield 9, 3) := by decide +kernel
theorem dX12_gets_153 : decode cX12_gets 153 = .ok (.iload_n 1, 1) := by decide +kernel
theorem dX12_gets_154 : decode cX12_gets 154 = .ok (.bipush 13, 2) := by decide +kernel
theorem dX12_gets_156 : decode cX12_gets 156 = .ok (.iadd, 1) := by decide +kernel
theorem dX12_gets_157 : decode cX12_gets 157 = .ok (.iload 4, 2) := by decide +kernel
theorem dX12_gets_159 : decode cX12_gets 159 = .ok (.iadd, 1) := by decide +kernel
theorem dX12_gets_160 : decode cX12_gets 160 = .ok (.iload_n 3, 1) := by decide +kernel
theorem dX12_gets_161 : decode cX12_gets 161 = .ok (.iastore, 1) := by decide +kernel
theorem dX12_gets_162 : decode cX12_gets 162 = .ok (.aload_n 0, 1) := by decide +kernel
theorem dX12_gets_163 : decode cX12_gets 163 = .ok (.getfield 9, 3) := by decide +kernel
theorem dX12_gets_166 : decode cX12_gets 166 = .ok (.iload_n 1, 1) := by decide +kernel
theorem dX12_gets_167 : decode cX12_gets 167 = .ok (.dup2, 1) := by decide +kernel
theorem dX12_gets_168 : decode cX12_gets 168 = .ok (.iaload, 1) := by decide +kernel
theorem dX12_gets_169 : decode cX12_gets 169 = .ok (.iconst 1, 1) := by decide +kernel
theorem dX12_gets_170 : decode cX12_gets 170 = .ok (.iadd, 1) := by decide +kernel
theorem dX12_gets_171 : decode cX12_gets 171 = .ok (.iastore, 1) := by decide +kernel
theorem dX12_gets_172 : decode cX12_gets 172 = .ok (.return_, 1) := by decide +kernel
