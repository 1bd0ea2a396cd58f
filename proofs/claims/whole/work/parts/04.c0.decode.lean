theorem dX12_init_0 : decode cX12_init 0 = .ok (.aload_n 0, 1) := by decide +kernel
theorem dX12_init_1 : decode cX12_init 1 = .ok (.invokespecial 3, 3) := by decide +kernel
theorem dX12_init_4 : decode cX12_init 4 = .ok (.aload_n 0, 1) := by decide +kernel
theorem dX12_init_5 : decode cX12_init 5 = .ok (.sipush 304, 3) := by decide +kernel
theorem dX12_init_8 : decode cX12_init 8 = .ok (.newarray .int, 2) := by decide +kernel
theorem dX12_init_10 : decode cX12_init 10 = .ok (.putfield 9, 3) := by decide +kernel
theorem dX12_init_13 : decode cX12_init 13 = .ok (.aload_n 0, 1) := by decide +kernel
theorem dX12_init_14 : decode cX12_init 14 = .ok (.bipush 21, 2) := by decide +kernel
theorem dX12_init_16 : decode cX12_init 16 = .ok (.sipush 304, 3) := by decide +kernel
theorem dX12_init_19 : decode cX12_init 19 = .ok (.multianewarray 13 2, 4) := by decide +kernel
theorem dX12_init_23 : decode cX12_init 23 = .ok (.putfield 15, 3) := by decide +kernel
theorem dX12_init_26 : decode cX12_init 26 = .ok (.aload_n 0, 1) := by decide +kernel
theorem dX12_init_27 : decode cX12_init 27 = .ok (.bipush 12, 2) := by decide +kernel
theorem dX12_init_29 : decode cX12_init 29 = .ok (.newarray .int, 2) := by decide +kernel
theorem dX12_init_31 : decode cX12_init 31 = .ok (.putfield 18, 3) := by decide +kernel
theorem dX12_init_34 : decode cX12_init 34 = .ok (.aload_n 0, 1) := by decide +kernel
theorem dX12_init_35 : decode cX12_init 35 = .ok (.iconst (-1), 1) := by decide +kernel
theorem dX12_init_36 : decode cX12_init 36 = .ok (.putfield 21, 3) := by decide +kernel
theorem dX12_init_39 : decode cX12_init 39 = .ok (.aload_n 0, 1) := by decide +kernel
theorem dX12_init_40 : decode cX12_init 40 = .ok (.bipush 13, 2) := by decide +kernel
theorem dX12_init_42 : decode cX12_init 42 = .ok (.ldc 25, 2) := by decide +kernel
theorem dX12_init_44 : decode cX12_init 44 = .ok (.multianewarray 13 2, 4) := by decide +kernel
theorem dX12_init_48 : decode cX12_init 48 = .ok (.putfield 26, 3) := by decide +kernel
theorem dX12_init_51 : decode cX12_init 51 = .ok (.aload_n 0, 1) := by decide +kernel
theorem dX12_init_52 : decode cX12_init 52 = .ok (.ldc 29, 2) := by decide +kernel
theorem dX12_init_54 : decode cX12_init 54 = .ok (.newarray .boolean, 2) := by decide +kernel
theorem dX12_init_56 : decode cX12_init 56 = .ok (.putfield 30, 3) := by decide +kernel
theorem dX12_init_59 : decode cX12_init 59 = .ok (.aload_n 0, 1) := by decide +kernel
theorem dX12_init_60 : decode cX12_init 60 = .ok (.ldc 29, 2) := by decide +kernel
theorem dX12_init_62 : decode cX12_init 62 = .ok (.newarray .boolean, 2) := by decide +kernel
theorem dX12_init_64 : decode cX12_init 64 = .ok (.putfield 34, 3) := by decide +kernel
theorem dX12_init_67 : decode cX12_init 67 = .ok (.aload_n 0, 1) := by decide +kernel
theorem dX12_init_68 : decode cX12_init 68 = .ok (.ldc 29, 2) := by decide +kernel
theorem dX12_init_70 : decode cX12_init 70 = .ok (.newarray .boolean, 2) := by decide +kernel
theorem dX12_init_72 : decode cX12_init 72 = .ok (.putfield 37, 3) := by decide +kernel
theorem dX12_init_75 : decode cX12_init 75 = .ok (.aload_n 0, 1) := by decide +kernel
theorem dX12_init_76 : decode cX12_init 76 = .ok (.bipush 13, 2) := by decide +kernel
theorem dX12_init_78 : decode cX12_init 78 = .ok (.sipush 3001, 3) := by decide +kernel
theorem dX12_init_81 : decode cX12_init 81 = .ok (.multianewarray 40 2, 4) := by decide +kernel
theorem dX12_init_85 : decode cX12_init 85 = .ok (.putfield 42, 3) := by decide +kernel
theorem dX12_init_88 : decode cX12_init 88 = .ok (.aload_n 0, 1) := by decide +kernel
theorem dX12_init_89 : decode cX12_init 89 = .ok (.bipush 24, 2) := by decide +kernel
theorem dX12_init_91 : decode cX12_init 91 = .ok (.newarray .int, 2) := by decide +kernel
theorem dX12_init_93 : decode cX12_init 93 = .ok (.putfield 45, 3) := by decide +kernel
theorem dX12_init_96 : decode cX12_init 96 = .ok (.aload_n 0, 1) := by decide +kernel
theorem dX12_init_97 : decode cX12_init 97 = .ok (.bipush 12, 2) := by decide +kernel
theorem dX12_init_99 : decode cX12_init 99 = .ok (.newarray .int, 2) := by decide +kernel
theorem dX12_init_101 : decode cX12_init 101 = .ok (.putfield 48, 3) := by decide +kernel
theorem dX12_init_104 : decode cX12_init 104 = .ok (.aload_n 0, 1) := by decide +kernel
theorem dX12_init_105 : decode cX12_init 105 = .ok (.bipush 12, 2) := by decide +kernel
theorem dX12_init_107 : decode cX12_init 107 = .ok (.newarray .int, 2) := by decide +kernel
theorem dX12_init_109 : decode cX12_init 109 = .ok (.putfield 51, 3) := by decide +kernel
theorem dX12_init_112 : decode cX12_init 112 = .ok (.aload_n 0, 1) := by decide +kernel
theorem dX12_init_113 : decode cX12_init 113 = .ok (.sipush 2400, 3) := by decide +kernel
theorem dX12_init_116 : decode cX12_init 116 = .ok (.newarray .int, 2) := by decide +kernel
theorem dX12_init_118 : decode cX12_init 118 = .ok (.putfield 54, 3) := by decide +kernel
theorem dX12_init_121 : decode cX12_init 121 = .ok (.aload_n 0, 1) := by decide +kernel
theorem dX12_init_122 : decode cX12_init 122 = .ok (.bipush 12, 2) := by decide +kernel
theorem dX12_init_124 : decode cX12_init 124 = .ok (.newarray .int, 2) := by decide +kernel
theorem dX12_init_126 : decode cX12_init 126 = .ok (.putfield 57, 3) := by decide +kernel
theorem dX12_init_129 : decode cX12_init 129 = .ok (.aload_n 0, 1) := by decide +kernel
theorem dX12_init_130 : decode cX12_init 130 = .ok (.sipush 200, 3) := by decide +kernel
theorem dX12_init_133 : decode cX12_init 133 = .ok (.newarray .int, 2) := by decide +kernel
theorem dX12_init_135 : decode cX12_init 135 = .ok (.putfield 60, 3) := by decide +kernel
theorem dX12_init_138 : decode cX12_init 138 = .ok (.aload_n 0, 1) := by decide +kernel
theorem dX12_init_139 : decode cX12_init 139 = .ok (.bipush 6, 2) := by decide +kernel
theorem dX12_init_141 : decode cX12_init 141 = .ok (.newarray .int, 2) := by decide +kernel
theorem dX12_init_143 : decode cX12_init 143 = .ok (.putfield 63, 3) := by decide +kernel
theorem dX12_init_146 : decode cX12_init 146 = .ok (.aload_n 0, 1) := by decide +kernel
theorem dX12_init_147 : decode cX12_init 147 = .ok (.bipush 6, 2) := by decide +kernel
theorem dX12_init_149 : decode cX12_init 149 = .ok (.newarray .int, 2) := by decide +kernel
theorem dX12_init_151 : decode cX12_init 151 = .ok (.putfield 66, 3) := by decide +kernel
theorem dX12_init_154 : decode cX12_init 154 = .ok (.aload_n 0, 1) := by decide +kernel
theorem dX12_init_155 : decode cX12_init 155 = .ok (.sipush 3902, 3) := by decide +kernel
theorem dX12_init_158 : decode cX12_init 158 = .ok (.newarray .int, 2) := by decide +kernel
theorem dX12_init_160 : decode cX12_init 160 = .ok (.putfield 69, 3) := by decide +kernel
theorem dX12_init_163 : decode cX12_init 163 = .ok (.aload_n 0, 1) := by decide +kernel
theorem dX12_init_164 : decode cX12_init 164 = .ok (.bipush 13, 2) := by decide +kernel
theorem dX12_init_166 : decode cX12_init 166 = .ok (.sipush 20001, 3) := by decide +kernel
theorem dX12_init_169 : decode cX12_init 169 = .ok (.multianewarray 13 2, 4) := by decide +kernel
theorem dX12_init_173 : decode cX12_init 173 = .ok (.putfield 72, 3) := by decide +kernel
theorem dX12_init_176 : decode cX12_init 176 = .ok (.aload_n 0, 1) := by decide +kernel
theorem dX12_init_177 : decode cX12_init 177 = .ok (.bipush 13, 2) := by decide +kernel
theorem dX12_init_179 : decode cX12_init 179 = .ok (.sipush 20001, 3) := by decide +kernel
theorem dX12_init_182 : decode cX12_init 182 = .ok (.multianewarray 13 2, 4) := by decide +kernel
theorem dX12_init_186 : decode cX12_init 186 = .ok (.putfield 75, 3) := by decide +kernel
theorem dX12_init_189 : decode cX12_init 189 = .ok (.aload_n 0, 1) := by decide +kernel
theorem dX12_init_190 : decode cX12_init 190 = .ok (.ldc 25, 2) := by decide +kernel
theorem dX12_init_192 : decode cX12_init 192 = .ok (.newarray .int, 2) := by decide +kernel
theorem dX12_init_194 : decode cX12_init 194 = .ok (.putfield 78, 3) := by decide +kernel
theorem dX12_init_197 : decode cX12_init 197 = .ok (.aload_n 0, 1) := by decide +kernel
theorem dX12_init_198 : decode cX12_init 198 = .ok (.sipush 301, 3) := by decide +kernel
theorem dX12_init_201 : decode cX12_init 201 = .ok (.newarray .boolean, 2) := by decide +kernel
theorem dX12_init_203 : decode cX12_init 203 = .ok (.putfield 81, 3) := by decide +kernel
theorem dX12_init_206 : decode cX12_init 206 = .ok (.aload_n 0, 1) := by decide +kernel
theorem dX12_init_207 : decode cX12_init 207 = .ok (.bipush 12, 2) := by decide +kernel
theorem dX12_init_209 : decode cX12_init 209 = .ok (.newarray .int, 2) := by decide +kernel
theorem dX12_init_211 : decode cX12_init 211 = .ok (.putfield 84, 3) := by decide +kernel
theorem dX12_init_214 : decode cX12_init 214 = .ok (.aload_n 0, 1) := by decide +kernel
theorem dX12_init_215 : decode cX12_init 215 = .ok (.bipush 12, 2) := by decide +kernel
theorem dX12_init_217 : decode cX12_init 217 = .ok (.newarray .int, 2) := by decide +kernel
theorem dX12_init_219 : decode cX12_init 219 = .ok (.putfield 87, 3) := by decide +kernel
theorem dX12_init_222 : decode cX12_init 222 = .ok (.aload_n 0, 1) := by decide +kernel
theorem dX12_init_223 : decode cX12_init 223 = .ok (.bipush 12, 2) := by decide +kernel
theorem dX12_init_225 : decode cX12_init 225 = .ok (.newarray .int, 2) := by decide +kernel
theorem dX12_init_227 : decode cX12_init 227 = .ok (.putfield 90, 3) := by decide +kernel
theorem dX12_init_230 : decode cX12_init 230 = .ok (.aload_n 0, 1) := by decide +kernel
theorem dX12_init_231 : decode cX12_init 231 = .ok (.bipush 50, 2) := by decide +kernel
theorem dX12_init_233 : decode cX12_init 233 = .ok (.newarray .int, 2) := by decide +kernel
theorem dX12_init_235 : decode cX12_init 235 = .ok (.putfield 93, 3) := by decide +kernel
theorem dX12_init_238 : decode cX12_init 238 = .ok (.return_, 1) := by decide +kernel
theorem dX12_thrown_0 : decode cX12_thrown 0 = .ok (.aload_n 0, 1) := by decide +kernel
theorem dX12_thrown_1 : decode cX12_thrown 1 = .ok (.getfield 96, 3) := by decide +kernel
theorem dX12_thrown_4 : decode cX12_thrown 4 = .ok (.ireturn, 1) := by decide +kernel
theorem dX12_fail_0 : decode cX12_fail 0 = .ok (.aload_n 0, 1) := by decide +kernel
theorem dX12_fail_1 : decode cX12_fail 1 = .ok (.iload_n 1, 1) := by decide +kernel
theorem dX12_fail_2 : decode cX12_fail 2 = .ok (.putfield 96, 3) := by decide +kernel
theorem dX12_fail_5 : decode cX12_fail 5 = .ok (.iconst 0, 1) := by decide +kernel
theorem dX12_fail_6 : decode cX12_fail 6 = .ok (.ireturn, 1) := by decide +kernel
theorem dX12_isMint_0 : decode cX12_isMint 0 = .ok (.iload_n 0, 1) := by decide +kernel
theorem dX12_isMint_1 : decode cX12_isMint 1 = .ok (.ifCond .lt 13, 3) := by decide +kernel
theorem dX12_isMint_4 : decode cX12_isMint 4 = .ok (.iload_n 0, 1) := by decide +kernel
theorem dX12_isMint_5 : decode cX12_isMint 5 = .ok (.bipush 8, 2) := by decide +kernel
theorem dX12_isMint_7 : decode cX12_isMint 7 = .ok (.if_icmp .ge 7, 3) := by decide +kernel
theorem dX12_isMint_10 : decode cX12_isMint 10 = .ok (.iconst 1, 1) := by decide +kernel
theorem dX12_isMint_11 : decode cX12_isMint 11 = .ok (.goto 4, 3) := by decide +kernel
theorem dX12_isMint_14 : decode cX12_isMint 14 = .ok (.iconst 0, 1) := by decide +kernel
theorem dX12_isMint_15 : decode cX12_isMint 15 = .ok (.ireturn, 1) := by decide +kernel
theorem dX12_mintAt_0 : decode cX12_mintAt 0 = .ok (.bipush 13, 2) := by decide +kernel
theorem dX12_mintAt_2 : decode cX12_mintAt 2 = .ok (.iload_n 0, 1) := by decide +kernel
theorem dX12_mintAt_3 : decode cX12_mintAt 3 = .ok (.imul, 1) := by decide +kernel
theorem dX12_mintAt_4 : decode cX12_mintAt 4 = .ok (.ireturn, 1) := by decide +kernel
theorem dX12_purseAt_0 : decode cX12_purseAt 0 = .ok (.bipush 104, 2) := by decide +kernel
theorem dX12_purseAt_2 : decode cX12_purseAt 2 = .ok (.bipush 25, 2) := by decide +kernel
theorem dX12_purseAt_4 : decode cX12_purseAt 4 = .ok (.iload_n 0, 1) := by decide +kernel
theorem dX12_purseAt_5 : decode cX12_purseAt 5 = .ok (.imul, 1) := by decide +kernel
theorem dX12_purseAt_6 : decode cX12_purseAt 6 = .ok (.iadd, 1) := by decide +kernel
theorem dX12_purseAt_7 : decode cX12_purseAt 7 = .ok (.ireturn, 1) := by decide +kernel
theorem dX12_changed_0 : decode cX12_changed 0 = .ok (.aload_n 0, 1) := by decide +kernel
theorem dX12_changed_1 : decode cX12_changed 1 = .ok (.iconst 0, 1) := by decide +kernel
theorem dX12_changed_2 : decode cX12_changed 2 = .ok (.putfield 99, 3) := by decide +kernel
theorem dX12_changed_5 : decode cX12_changed 5 = .ok (.aload_n 0, 1) := by decide +kernel
theorem dX12_changed_6 : decode cX12_changed 6 = .ok (.aload_n 0, 1) := by decide +kernel
theorem dX12_changed_7 : decode cX12_changed 7 = .ok (.getfield 102, 3) := by decide +kernel
theorem dX12_changed_10 : decode cX12_changed 10 = .ok (.iconst 1, 1) := by decide +kernel
theorem dX12_changed_11 : decode cX12_changed 11 = .ok (.iadd, 1) := by decide +kernel
theorem dX12_changed_12 : decode cX12_changed 12 = .ok (.bipush 21, 2) := by decide +kernel
theorem dX12_changed_14 : decode cX12_changed 14 = .ok (.irem, 1) := by decide +kernel
theorem dX12_changed_15 : decode cX12_changed 15 = .ok (.putfield 102, 3) := by decide +kernel
theorem dX12_changed_18 : decode cX12_changed 18 = .ok (.aload_n 0, 1) := by decide +kernel
theorem dX12_changed_19 : decode cX12_changed 19 = .ok (.getfield 105, 3) := by decide +kernel
theorem dX12_changed_22 : decode cX12_changed 22 = .ok (.bipush 20, 2) := by decide +kernel
theorem dX12_changed_24 : decode cX12_changed 24 = .ok (.if_icmp .ge 13, 3) := by decide +kernel
theorem dX12_changed_27 : decode cX12_changed 27 = .ok (.aload_n 0, 1) := by decide +kernel
theorem dX12_changed_28 : decode cX12_changed 28 = .ok (.dup, 1) := by decide +kernel
theorem dX12_changed_29 : decode cX12_changed 29 = .ok (.getfield 105, 3) := by decide +kernel
theorem dX12_changed_32 : decode cX12_changed 32 = .ok (.iconst 1, 1) := by decide +kernel
theorem dX12_changed_33 : decode cX12_changed 33 = .ok (.iadd, 1) := by decide +kernel
theorem dX12_changed_34 : decode cX12_changed 34 = .ok (.putfield 105, 3) := by decide +kernel
theorem dX12_changed_37 : decode cX12_changed 37 = .ok (.iconst 0, 1) := by decide +kernel
theorem dX12_changed_38 : decode cX12_changed 38 = .ok (.istore_n 1, 1) := by decide +kernel
theorem dX12_changed_39 : decode cX12_changed 39 = .ok (.iload_n 1, 1) := by decide +kernel
theorem dX12_changed_40 : decode cX12_changed 40 = .ok (.sipush 304, 3) := by decide +kernel
theorem dX12_changed_43 : decode cX12_changed 43 = .ok (.if_icmp .ge 26, 3) := by decide +kernel
theorem dX12_changed_46 : decode cX12_changed 46 = .ok (.aload_n 0, 1) := by decide +kernel
theorem dX12_changed_47 : decode cX12_changed 47 = .ok (.getfield 15, 3) := by decide +kernel
theorem dX12_changed_50 : decode cX12_changed 50 = .ok (.aload_n 0, 1) := by decide +kernel
theorem dX12_changed_51 : decode cX12_changed 51 = .ok (.getfield 102, 3) := by decide +kernel
theorem dX12_changed_54 : decode cX12_changed 54 = .ok (.aaload, 1) := by decide +kernel
theorem dX12_changed_55 : decode cX12_changed 55 = .ok (.iload_n 1, 1) := by decide +kernel
theorem dX12_changed_56 : decode cX12_changed 56 = .ok (.aload_n 0, 1) := by decide +kernel
theorem dX12_changed_57 : decode cX12_changed 57 = .ok (.getfield 9, 3) := by decide +kernel
theorem dX12_changed_60 : decode cX12_changed 60 = .ok (.iload_n 1, 1) := by decide +kernel
theorem dX12_changed_61 : decode cX12_changed 61 = .ok (.iaload, 1) := by decide +kernel
theorem dX12_changed_62 : decode cX12_changed 62 = .ok (.iastore, 1) := by decide +kernel
theorem dX12_changed_63 : decode cX12_changed 63 = .ok (.iinc 1 1, 3) := by decide +kernel
theorem dX12_changed_66 : decode cX12_changed 66 = .ok (.goto (-27), 3) := by decide +kernel
theorem dX12_changed_69 : decode cX12_changed 69 = .ok (.return_, 1) := by decide +kernel
theorem dX12_again_0 : decode cX12_again 0 = .ok (.iconst 0, 1) := by decide +kernel
theorem dX12_again_1 : decode cX12_again 1 = .ok (.istore_n 1, 1) := by decide +kernel
theorem dX12_again_2 : decode cX12_again 2 = .ok (.iload_n 1, 1) := by decide +kernel
theorem dX12_again_3 : decode cX12_again 3 = .ok (.sipush 304, 3) := by decide +kernel
theorem dX12_again_6 : decode cX12_again 6 = .ok (.if_icmp .ge 26, 3) := by decide +kernel
theorem dX12_again_9 : decode cX12_again 9 = .ok (.aload_n 0, 1) := by decide +kernel
theorem dX12_again_10 : decode cX12_again 10 = .ok (.getfield 9, 3) := by decide +kernel
theorem dX12_again_13 : decode cX12_again 13 = .ok (.iload_n 1, 1) := by decide +kernel
theorem dX12_again_14 : decode cX12_again 14 = .ok (.aload_n 0, 1) := by decide +kernel
theorem dX12_again_15 : decode cX12_again 15 = .ok (.getfield 15, 3) := by decide +kernel
theorem dX12_again_18 : decode cX12_again 18 = .ok (.aload_n 0, 1) := by decide +kernel
theorem dX12_again_19 : decode cX12_again 19 = .ok (.getfield 102, 3) := by decide +kernel
theorem dX12_again_22 : decode cX12_again 22 = .ok (.aaload, 1) := by decide +kernel
theorem dX12_again_23 : decode cX12_again 23 = .ok (.iload_n 1, 1) := by decide +kernel
theorem dX12_again_24 : decode cX12_again 24 = .ok (.iaload, 1) := by decide +kernel
theorem dX12_again_25 : decode cX12_again 25 = .ok (.iastore, 1) := by decide +kernel
theorem dX12_again_26 : decode cX12_again 26 = .ok (.iinc 1 1, 3) := by decide +kernel
theorem dX12_again_29 : decode cX12_again 29 = .ok (.goto (-27), 3) := by decide +kernel
theorem dX12_again_32 : decode cX12_again 32 = .ok (.return_, 1) := by decide +kernel
theorem dX12_undo_0 : decode cX12_undo 0 = .ok (.aload_n 0, 1) := by decide +kernel
theorem dX12_undo_1 : decode cX12_undo 1 = .ok (.iconst 0, 1) := by decide +kernel
theorem dX12_undo_2 : decode cX12_undo 2 = .ok (.putfield 96, 3) := by decide +kernel
theorem dX12_undo_5 : decode cX12_undo 5 = .ok (.aload_n 0, 1) := by decide +kernel
theorem dX12_undo_6 : decode cX12_undo 6 = .ok (.getfield 105, 3) := by decide +kernel
theorem dX12_undo_9 : decode cX12_undo 9 = .ok (.ifCond .ne 5, 3) := by decide +kernel
theorem dX12_undo_12 : decode cX12_undo 12 = .ok (.iconst 0, 1) := by decide +kernel
theorem dX12_undo_13 : decode cX12_undo 13 = .ok (.ireturn, 1) := by decide +kernel
theorem dX12_undo_14 : decode cX12_undo 14 = .ok (.aload_n 0, 1) := by decide +kernel
theorem dX12_undo_15 : decode cX12_undo 15 = .ok (.dup, 1) := by decide +kernel
theorem dX12_undo_16 : decode cX12_undo 16 = .ok (.getfield 105, 3) := by decide +kernel
theorem dX12_undo_19 : decode cX12_undo 19 = .ok (.iconst 1, 1) := by decide +kernel
theorem dX12_undo_20 : decode cX12_undo 20 = .ok (.isub, 1) := by decide +kernel
theorem dX12_undo_21 : decode cX12_undo 21 = .ok (.putfield 105, 3) := by decide +kernel
theorem dX12_undo_24 : decode cX12_undo 24 = .ok (.aload_n 0, 1) := by decide +kernel
theorem dX12_undo_25 : decode cX12_undo 25 = .ok (.dup, 1) := by decide +kernel
theorem dX12_undo_26 : decode cX12_undo 26 = .ok (.getfield 99, 3) := by decide +kernel
theorem dX12_undo_29 : decode cX12_undo 29 = .ok (.iconst 1, 1) := by decide +kernel
theorem dX12_undo_30 : decode cX12_undo 30 = .ok (.iadd, 1) := by decide +kernel
theorem dX12_undo_31 : decode cX12_undo 31 = .ok (.putfield 99, 3) := by decide +kernel
theorem dX12_undo_34 : decode cX12_undo 34 = .ok (.aload_n 0, 1) := by decide +kernel
theorem dX12_undo_35 : decode cX12_undo 35 = .ok (.aload_n 0, 1) := by decide +kernel
theorem dX12_undo_36 : decode cX12_undo 36 = .ok (.getfield 102, 3) := by decide +kernel
theorem dX12_undo_39 : decode cX12_undo 39 = .ok (.bipush 21, 2) := by decide +kernel
theorem dX12_undo_41 : decode cX12_undo 41 = .ok (.iadd, 1) := by decide +kernel
theorem dX12_undo_42 : decode cX12_undo 42 = .ok (.iconst 1, 1) := by decide +kernel
theorem dX12_undo_43 : decode cX12_undo 43 = .ok (.isub, 1) := by decide +kernel
theorem dX12_undo_44 : decode cX12_undo 44 = .ok (.bipush 21, 2) := by decide +kernel
theorem dX12_undo_46 : decode cX12_undo 46 = .ok (.irem, 1) := by decide +kernel
theorem dX12_undo_47 : decode cX12_undo 47 = .ok (.putfield 102, 3) := by decide +kernel
theorem dX12_undo_50 : decode cX12_undo 50 = .ok (.aload_n 0, 1) := by decide +kernel
theorem dX12_undo_51 : decode cX12_undo 51 = .ok (.invokevirtual 108, 3) := by decide +kernel
theorem dX12_undo_54 : decode cX12_undo 54 = .ok (.iconst 1, 1) := by decide +kernel
theorem dX12_undo_55 : decode cX12_undo 55 = .ok (.ireturn, 1) := by decide +kernel
theorem dX12_redo_0 : decode cX12_redo 0 = .ok (.aload_n 0, 1) := by decide +kernel
theorem dX12_redo_1 : decode cX12_redo 1 = .ok (.iconst 0, 1) := by decide +kernel
theorem dX12_redo_2 : decode cX12_redo 2 = .ok (.putfield 96, 3) := by decide +kernel
theorem dX12_redo_5 : decode cX12_redo 5 = .ok (.aload_n 0, 1) := by decide +kernel
theorem dX12_redo_6 : decode cX12_redo 6 = .ok (.getfield 99, 3) := by decide +kernel
theorem dX12_redo_9 : decode cX12_redo 9 = .ok (.ifCond .ne 5, 3) := by decide +kernel
theorem dX12_redo_12 : decode cX12_redo 12 = .ok (.iconst 0, 1) := by decide +kernel
theorem dX12_redo_13 : decode cX12_redo 13 = .ok (.ireturn, 1) := by decide +kernel
theorem dX12_redo_14 : decode cX12_redo 14 = .ok (.aload_n 0, 1) := by decide +kernel
theorem dX12_redo_15 : decode cX12_redo 15 = .ok (.dup, 1) := by decide +kernel
theorem dX12_redo_16 : decode cX12_redo 16 = .ok (.getfield 99, 3) := by decide +kernel
theorem dX12_redo_19 : decode cX12_redo 19 = .ok (.iconst 1, 1) := by decide +kernel
theorem dX12_redo_20 : decode cX12_redo 20 = .ok (.isub, 1) := by decide +kernel
theorem dX12_redo_21 : decode cX12_redo 21 = .ok (.putfield 99, 3) := by decide +kernel
theorem dX12_redo_24 : decode cX12_redo 24 = .ok (.aload_n 0, 1) := by decide +kernel
theorem dX12_redo_25 : decode cX12_redo 25 = .ok (.dup, 1) := by decide +kernel
theorem dX12_redo_26 : decode cX12_redo 26 = .ok (.getfield 105, 3) := by decide +kernel
theorem dX12_redo_29 : decode cX12_redo 29 = .ok (.iconst 1, 1) := by decide +kernel
theorem dX12_redo_30 : decode cX12_redo 30 = .ok (.iadd, 1) := by decide +kernel
theorem dX12_redo_31 : decode cX12_redo 31 = .ok (.putfield 105, 3) := by decide +kernel
theorem dX12_redo_34 : decode cX12_redo 34 = .ok (.aload_n 0, 1) := by decide +kernel
theorem dX12_redo_35 : decode cX12_redo 35 = .ok (.aload_n 0, 1) := by decide +kernel
theorem dX12_redo_36 : decode cX12_redo 36 = .ok (.getfield 102, 3) := by decide +kernel
theorem dX12_redo_39 : decode cX12_redo 39 = .ok (.iconst 1, 1) := by decide +kernel
theorem dX12_redo_40 : decode cX12_redo 40 = .ok (.iadd, 1) := by decide +kernel
theorem dX12_redo_41 : decode cX12_redo 41 = .ok (.bipush 21, 2) := by decide +kernel
theorem dX12_redo_43 : decode cX12_redo 43 = .ok (.irem, 1) := by decide +kernel
theorem dX12_redo_44 : decode cX12_redo 44 = .ok (.putfield 102, 3) := by decide +kernel
theorem dX12_redo_47 : decode cX12_redo 47 = .ok (.aload_n 0, 1) := by decide +kernel
theorem dX12_redo_48 : decode cX12_redo 48 = .ok (.invokevirtual 108, 3) := by decide +kernel
theorem dX12_redo_51 : decode cX12_redo 51 = .ok (.iconst 1, 1) := by decide +kernel
theorem dX12_redo_52 : decode cX12_redo 52 = .ok (.ireturn, 1) := by decide +kernel
theorem dX12_coin_0 : decode cX12_coin 0 = .ok (.aload_n 0, 1) := by decide +kernel
theorem dX12_coin_1 : decode cX12_coin 1 = .ok (.iconst 0, 1) := by decide +kernel
theorem dX12_coin_2 : decode cX12_coin 2 = .ok (.putfield 96, 3) := by decide +kernel
theorem dX12_coin_5 : decode cX12_coin 5 = .ok (.iload_n 1, 1) := by decide +kernel
theorem dX12_coin_6 : decode cX12_coin 6 = .ok (.invokestatic 111, 3) := by decide +kernel
theorem dX12_coin_9 : decode cX12_coin 9 = .ok (.ifCond .eq 29, 3) := by decide +kernel
theorem dX12_coin_12 : decode cX12_coin 12 = .ok (.iload_n 2, 1) := by decide +kernel
theorem dX12_coin_13 : decode cX12_coin 13 = .ok (.iconst 1, 1) := by decide +kernel
theorem dX12_coin_14 : decode cX12_coin 14 = .ok (.if_icmp .lt 24, 3) := by decide +kernel
theorem dX12_coin_17 : decode cX12_coin 17 = .ok (.iload_n 2, 1) := by decide +kernel
theorem dX12_coin_18 : decode cX12_coin 18 = .ok (.sipush 300, 3) := by decide +kernel
theorem dX12_coin_21 : decode cX12_coin 21 = .ok (.if_icmp .gt 17, 3) := by decide +kernel
theorem dX12_coin_24 : decode cX12_coin 24 = .ok (.aload_n 0, 1) := by decide +kernel
theorem dX12_coin_25 : decode cX12_coin 25 = .ok (.getfield 9, 3) := by decide +kernel
theorem dX12_coin_28 : decode cX12_coin 28 = .ok (.iload_n 1, 1) := by decide +kernel
theorem dX12_coin_29 : decode cX12_coin 29 = .ok (.invokestatic 115, 3) := by decide +kernel
theorem dX12_coin_32 : decode cX12_coin 32 = .ok (.iaload, 1) := by decide +kernel
theorem dX12_coin_33 : decode cX12_coin 33 = .ok (.bipush 12, 2) := by decide +kernel
theorem dX12_coin_35 : decode cX12_coin 35 = .ok (.if_icmp .ne 5, 3) := by decide +kernel
theorem dX12_coin_38 : decode cX12_coin 38 = .ok (.iconst (-1), 1) := by decide +kernel
theorem dX12_coin_39 : decode cX12_coin 39 = .ok (.ireturn, 1) := by decide +kernel
theorem dX12_coin_40 : decode cX12_coin 40 = .ok (.iload_n 1, 1) := by decide +kernel
theorem dX12_coin_41 : decode cX12_coin 41 = .ok (.invokestatic 115, 3) := by decide +kernel
theorem dX12_coin_44 : decode cX12_coin 44 = .ok (.istore_n 3, 1) := by decide +kernel
theorem dX12_coin_45 : decode cX12_coin 45 = .ok (.aload_n 0, 1) := by decide +kernel
theorem dX12_coin_46 : decode cX12_coin 46 = .ok (.getfield 9, 3) := by decide +kernel
theorem dX12_coin_49 : decode cX12_coin 49 = .ok (.iload_n 3, 1) := by decide +kernel
theorem dX12_coin_50 : decode cX12_coin 50 = .ok (.iaload, 1) := by decide +kernel
theorem dX12_coin_51 : decode cX12_coin 51 = .ok (.istore 4, 2) := by decide +kernel
theorem dX12_coin_53 : decode cX12_coin 53 = .ok (.iload 4, 2) := by decide +kernel
theorem dX12_coin_55 : decode cX12_coin 55 = .ok (.istore 5, 2) := by decide +kernel
theorem dX12_coin_57 : decode cX12_coin 57 = .ok (.iload 5, 2) := by decide +kernel
theorem dX12_coin_59 : decode cX12_coin 59 = .ok (.ifCond .le 22, 3) := by decide +kernel
theorem dX12_coin_62 : decode cX12_coin 62 = .ok (.aload_n 0, 1) := by decide +kernel
theorem dX12_coin_63 : decode cX12_coin 63 = .ok (.getfield 9, 3) := by decide +kernel
theorem dX12_coin_66 : decode cX12_coin 66 = .ok (.iload_n 3, 1) := by decide +kernel
theorem dX12_coin_67 : decode cX12_coin 67 = .ok (.iload 5, 2) := by decide +kernel
theorem dX12_coin_69 : decode cX12_coin 69 = .ok (.iadd, 1) := by decide +kernel
theorem dX12_coin_70 : decode cX12_coin 70 = .ok (.iaload, 1) := by decide +kernel
theorem dX12_coin_71 : decode cX12_coin 71 = .ok (.iload_n 2, 1) := by decide +kernel
theorem dX12_coin_72 : decode cX12_coin 72 = .ok (.if_icmp .le 9, 3) := by decide +kernel
theorem dX12_coin_75 : decode cX12_coin 75 = .ok (.iinc 5 (-1), 3) := by decide +kernel
theorem dX12_coin_78 : decode cX12_coin 78 = .ok (.goto (-21), 3) := by decide +kernel
theorem dX12_coin_81 : decode cX12_coin 81 = .ok (.iload 5, 2) := by decide +kernel
theorem dX12_coin_83 : decode cX12_coin 83 = .ok (.ifCond .le 18, 3) := by decide +kernel
theorem dX12_coin_86 : decode cX12_coin 86 = .ok (.aload_n 0, 1) := by decide +kernel
theorem dX12_coin_87 : decode cX12_coin 87 = .ok (.getfield 9, 3) := by decide +kernel
theorem dX12_coin_90 : decode cX12_coin 90 = .ok (.iload_n 3, 1) := by decide +kernel
theorem dX12_coin_91 : decode cX12_coin 91 = .ok (.iload 5, 2) := by decide +kernel
theorem dX12_coin_93 : decode cX12_coin 93 = .ok (.iadd, 1) := by decide +kernel
theorem dX12_coin_94 : decode cX12_coin 94 = .ok (.iaload, 1) := by decide +kernel
theorem dX12_coin_95 : decode cX12_coin 95 = .ok (.iload_n 2, 1) := by decide +kernel
theorem dX12_coin_96 : decode cX12_coin 96 = .ok (.if_icmp .ne 5, 3) := by decide +kernel
theorem dX12_coin_99 : decode cX12_coin 99 = .ok (.iconst (-1), 1) := by decide +kernel
theorem dX12_coin_100 : decode cX12_coin 100 = .ok (.ireturn, 1) := by decide +kernel
theorem dX12_coin_101 : decode cX12_coin 101 = .ok (.iload 4, 2) := by decide +kernel
theorem dX12_coin_103 : decode cX12_coin 103 = .ok (.istore 6, 2) := by decide +kernel
theorem dX12_coin_105 : decode cX12_coin 105 = .ok (.iload 6, 2) := by decide +kernel
theorem dX12_coin_107 : decode cX12_coin 107 = .ok (.iload 5, 2) := by decide +kernel
theorem dX12_coin_109 : decode cX12_coin 109 = .ok (.if_icmp .le 29, 3) := by decide +kernel
theorem dX12_coin_112 : decode cX12_coin 112 = .ok (.aload_n 0, 1) := by decide +kernel
theorem dX12_coin_113 : decode cX12_coin 113 = .ok (.getfield 9, 3) := by decide +kernel
theorem dX12_coin_116 : decode cX12_coin 116 = .ok (.iload_n 3, 1) := by decide +kernel
theorem dX12_coin_117 : decode cX12_coin 117 = .ok (.iload 6, 2) := by decide +kernel
theorem dX12_coin_119 : decode cX12_coin 119 = .ok (.iadd, 1) := by decide +kernel
theorem dX12_coin_120 : decode cX12_coin 120 = .ok (.iconst 1, 1) := by decide +kernel
theorem dX12_coin_121 : decode cX12_coin 121 = .ok (.iadd, 1) := by decide +kernel
theorem dX12_coin_122 : decode cX12_coin 122 = .ok (.aload_n 0, 1) := by decide +kernel
theorem dX12_coin_123 : decode cX12_coin 123 = .ok (.getfield 9, 3) := by decide +kernel
theorem dX12_coin_126 : decode cX12_coin 126 = .ok (.iload_n 3, 1) := by decide +kernel
theorem dX12_coin_127 : decode cX12_coin 127 = .ok (.iload 6, 2) := by decide +kernel
theorem dX12_coin_129 : decode cX12_coin 129 = .ok (.iadd, 1) := by decide +kernel
theorem dX12_coin_130 : decode cX12_coin 130 = .ok (.iaload, 1) := by decide +kernel
theorem dX12_coin_131 : decode cX12_coin 131 = .ok (.iastore, 1) := by decide +kernel
theorem dX12_coin_132 : decode cX12_coin 132 = .ok (.iinc 6 (-1), 3) := by decide +kernel
theorem dX12_coin_135 : decode cX12_coin 135 = .ok (.goto (-30), 3) := by decide +kernel
theorem dX12_coin_138 : decode cX12_coin 138 = .ok (.aload_n 0, 1) := by decide +kernel
theorem dX12_coin_139 : decode cX12_coin 139 = .ok (.getfield 9, 3) := by decide +kernel
theorem dX12_coin_142 : decode cX12_coin 142 = .ok (.iload_n 3, 1) := by decide +kernel
theorem dX12_coin_143 : decode cX12_coin 143 = .ok (.iload 5, 2) := by decide +kernel
theorem dX12_coin_145 : decode cX12_coin 145 = .ok (.iadd, 1) := by decide +kernel
theorem dX12_coin_146 : decode cX12_coin 146 = .ok (.iconst 1, 1) := by decide +kernel
theorem dX12_coin_147 : decode cX12_coin 147 = .ok (.iadd, 1) := by decide +kernel
theorem dX12_coin_148 : decode cX12_coin 148 = .ok (.iload_n 2, 1) := by decide +kernel
theorem dX12_coin_149 : decode cX12_coin 149 = .ok (.iastore, 1) := by decide +kernel
theorem dX12_coin_150 : decode cX12_coin 150 = .ok (.aload_n 0, 1) := by decide +kernel
theorem dX12_coin_151 : decode cX12_coin 151 = .ok (.getfield 9, 3) := by decide +kernel
theorem dX12_coin_154 : decode cX12_coin 154 = .ok (.iload_n 3, 1) := by decide +kernel
theorem dX12_coin_155 : decode cX12_coin 155 = .ok (.dup2, 1) := by decide +kernel
theorem dX12_coin_156 : decode cX12_coin 156 = .ok (.iaload, 1) := by decide +kernel
theorem dX12_coin_157 : decode cX12_coin 157 = .ok (.iconst 1, 1) := by decide +kernel
theorem dX12_coin_158 : decode cX12_coin 158 = .ok (.iadd, 1) := by decide +kernel
theorem dX12_coin_159 : decode cX12_coin 159 = .ok (.iastore, 1) := by decide +kernel
theorem dX12_coin_160 : decode cX12_coin 160 = .ok (.aload_n 0, 1) := by decide +kernel
theorem dX12_coin_161 : decode cX12_coin 161 = .ok (.invokevirtual 119, 3) := by decide +kernel
theorem dX12_coin_164 : decode cX12_coin 164 = .ok (.iload 4, 2) := by decide +kernel
theorem dX12_coin_166 : decode cX12_coin 166 = .ok (.iconst 1, 1) := by decide +kernel
theorem dX12_coin_167 : decode cX12_coin 167 = .ok (.iadd, 1) := by decide +kernel
theorem dX12_coin_168 : decode cX12_coin 168 = .ok (.ireturn, 1) := by decide +kernel
theorem dX12_melt_0 : decode cX12_melt 0 = .ok (.aload_n 0, 1) := by decide +kernel
theorem dX12_melt_1 : decode cX12_melt 1 = .ok (.iconst 0, 1) := by decide +kernel
theorem dX12_melt_2 : decode cX12_melt 2 = .ok (.putfield 96, 3) := by decide +kernel
theorem dX12_melt_5 : decode cX12_melt 5 = .ok (.iload_n 1, 1) := by decide +kernel
theorem dX12_melt_6 : decode cX12_melt 6 = .ok (.invokestatic 111, 3) := by decide +kernel
theorem dX12_melt_9 : decode cX12_melt 9 = .ok (.ifCond .ne 5, 3) := by decide +kernel
theorem dX12_melt_12 : decode cX12_melt 12 = .ok (.iconst 0, 1) := by decide +kernel
theorem dX12_melt_13 : decode cX12_melt 13 = .ok (.ireturn, 1) := by decide +kernel
theorem dX12_melt_14 : decode cX12_melt 14 = .ok (.iload_n 1, 1) := by decide +kernel
theorem dX12_melt_15 : decode cX12_melt 15 = .ok (.invokestatic 115, 3) := by decide +kernel
theorem dX12_melt_18 : decode cX12_melt 18 = .ok (.istore_n 3, 1) := by decide +kernel
theorem dX12_melt_19 : decode cX12_melt 19 = .ok (.iconst 1, 1) := by decide +kernel
theorem dX12_melt_20 : decode cX12_melt 20 = .ok (.istore 4, 2) := by decide +kernel
theorem dX12_melt_22 : decode cX12_melt 22 = .ok (.iload 4, 2) := by decide +kernel
theorem dX12_melt_24 : decode cX12_melt 24 = .ok (.aload_n 0, 1) := by decide +kernel
theorem dX12_melt_25 : decode cX12_melt 25 = .ok (.getfield 9, 3) := by decide +kernel
theorem dX12_melt_28 : decode cX12_melt 28 = .ok (.iload_n 3, 1) := by decide +kernel
theorem dX12_melt_29 : decode cX12_melt 29 = .ok (.iaload, 1) := by decide +kernel
theorem dX12_melt_30 : decode cX12_melt 30 = .ok (.if_icmp .gt 79, 3) := by decide +kernel
theorem dX12_melt_33 : decode cX12_melt 33 = .ok (.aload_n 0, 1) := by decide +kernel
theorem dX12_melt_34 : decode cX12_melt 34 = .ok (.getfield 9, 3) := by decide +kernel
theorem dX12_melt_37 : decode cX12_melt 37 = .ok (.iload_n 3, 1) := by decide +kernel
theorem dX12_melt_38 : decode cX12_melt 38 = .ok (.iload 4, 2) := by decide +kernel
theorem dX12_melt_40 : decode cX12_melt 40 = .ok (.iadd, 1) := by decide +kernel
theorem dX12_melt_41 : decode cX12_melt 41 = .ok (.iaload, 1) := by decide +kernel
theorem dX12_melt_42 : decode cX12_melt 42 = .ok (.iload_n 2, 1) := by decide +kernel
theorem dX12_melt_43 : decode cX12_melt 43 = .ok (.if_icmp .ne 60, 3) := by decide +kernel
theorem dX12_melt_46 : decode cX12_melt 46 = .ok (.iload 4, 2) := by decide +kernel
theorem dX12_melt_48 : decode cX12_melt 48 = .ok (.istore 5, 2) := by decide +kernel
theorem dX12_melt_50 : decode cX12_melt 50 = .ok (.iload 5, 2) := by decide +kernel
theorem dX12_melt_52 : decode cX12_melt 52 = .ok (.aload_n 0, 1) := by decide +kernel
theorem dX12_melt_53 : decode cX12_melt 53 = .ok (.getfield 9, 3) := by decide +kernel
theorem dX12_melt_56 : decode cX12_melt 56 = .ok (.iload_n 3, 1) := by decide +kernel
theorem dX12_melt_57 : decode cX12_melt 57 = .ok (.iaload, 1) := by decide +kernel
theorem dX12_melt_58 : decode cX12_melt 58 = .ok (.if_icmp .ge 29, 3) := by decide +kernel
theorem dX12_melt_61 : decode cX12_melt 61 = .ok (.aload_n 0, 1) := by decide +kernel
theorem dX12_melt_62 : decode cX12_melt 62 = .ok (.getfield 9, 3) := by decide +kernel
theorem dX12_melt_65 : decode cX12_melt 65 = .ok (.iload_n 3, 1) := by decide +kernel
theorem dX12_melt_66 : decode cX12_melt 66 = .ok (.iload 5, 2) := by decide +kernel
theorem dX12_melt_68 : decode cX12_melt 68 = .ok (.iadd, 1) := by decide +kernel
theorem dX12_melt_69 : decode cX12_melt 69 = .ok (.aload_n 0, 1) := by decide +kernel
theorem dX12_melt_70 : decode cX12_melt 70 = .ok (.getfield 9, 3) := by decide +kernel
theorem dX12_melt_73 : decode cX12_melt 73 = .ok (.iload_n 3, 1) := by decide +kernel
theorem dX12_melt_74 : decode cX12_melt 74 = .ok (.iload 5, 2) := by decide +kernel
theorem dX12_melt_76 : decode cX12_melt 76 = .ok (.iadd, 1) := by decide +kernel
theorem dX12_melt_77 : decode cX12_melt 77 = .ok (.iconst 1, 1) := by decide +kernel
theorem dX12_melt_78 : decode cX12_melt 78 = .ok (.iadd, 1) := by decide +kernel
theorem dX12_melt_79 : decode cX12_melt 79 = .ok (.iaload, 1) := by decide +kernel
theorem dX12_melt_80 : decode cX12_melt 80 = .ok (.iastore, 1) := by decide +kernel
theorem dX12_melt_81 : decode cX12_melt 81 = .ok (.iinc 5 1, 3) := by decide +kernel
theorem dX12_melt_84 : decode cX12_melt 84 = .ok (.goto (-34), 3) := by decide +kernel
theorem dX12_melt_87 : decode cX12_melt 87 = .ok (.aload_n 0, 1) := by decide +kernel
theorem dX12_melt_88 : decode cX12_melt 88 = .ok (.getfield 9, 3) := by decide +kernel
theorem dX12_melt_91 : decode cX12_melt 91 = .ok (.iload_n 3, 1) := by decide +kernel
theorem dX12_melt_92 : decode cX12_melt 92 = .ok (.dup2, 1) := by decide +kernel
theorem dX12_melt_93 : decode cX12_melt 93 = .ok (.iaload, 1) := by decide +kernel
theorem dX12_melt_94 : decode cX12_melt 94 = .ok (.iconst 1, 1) := by decide +kernel
theorem dX12_melt_95 : decode cX12_melt 95 = .ok (.isub, 1) := by decide +kernel
theorem dX12_melt_96 : decode cX12_melt 96 = .ok (.iastore, 1) := by decide +kernel
theorem dX12_melt_97 : decode cX12_melt 97 = .ok (.aload_n 0, 1) := by decide +kernel
theorem dX12_melt_98 : decode cX12_melt 98 = .ok (.invokevirtual 119, 3) := by decide +kernel
theorem dX12_melt_101 : decode cX12_melt 101 = .ok (.iconst 1, 1) := by decide +kernel
theorem dX12_melt_102 : decode cX12_melt 102 = .ok (.ireturn, 1) := by decide +kernel
theorem dX12_melt_103 : decode cX12_melt 103 = .ok (.iinc 4 1, 3) := by decide +kernel
theorem dX12_melt_106 : decode cX12_melt 106 = .ok (.goto (-84), 3) := by decide +kernel
theorem dX12_melt_109 : decode cX12_melt 109 = .ok (.iconst 0, 1) := by decide +kernel
theorem dX12_melt_110 : decode cX12_melt 110 = .ok (.ireturn, 1) := by decide +kernel
theorem dX12_at_0 : decode cX12_at 0 = .ok (.aload_n 0, 1) := by decide +kernel
theorem dX12_at_1 : decode cX12_at 1 = .ok (.iconst 0, 1) := by decide +kernel
theorem dX12_at_2 : decode cX12_at 2 = .ok (.putfield 96, 3) := by decide +kernel
theorem dX12_at_5 : decode cX12_at 5 = .ok (.iload_n 1, 1) := by decide +kernel
theorem dX12_at_6 : decode cX12_at 6 = .ok (.invokestatic 111, 3) := by decide +kernel
theorem dX12_at_9 : decode cX12_at 9 = .ok (.ifCond .eq 21, 3) := by decide +kernel
theorem dX12_at_12 : decode cX12_at 12 = .ok (.iload_n 2, 1) := by decide +kernel
theorem dX12_at_13 : decode cX12_at 13 = .ok (.iconst (-1), 1) := by decide +kernel
theorem dX12_at_14 : decode cX12_at 14 = .ok (.if_icmp .lt 16, 3) := by decide +kernel
theorem dX12_at_17 : decode cX12_at 17 = .ok (.iload_n 2, 1) := by decide +kernel
theorem dX12_at_18 : decode cX12_at 18 = .ok (.aload_n 0, 1) := by decide +kernel
theorem dX12_at_19 : decode cX12_at 19 = .ok (.getfield 9, 3) := by decide +kernel
theorem dX12_at_22 : decode cX12_at 22 = .ok (.iload_n 1, 1) := by decide +kernel
theorem dX12_at_23 : decode cX12_at 23 = .ok (.invokestatic 115, 3) := by decide +kernel
theorem dX12_at_26 : decode cX12_at 26 = .ok (.iaload, 1) := by decide +kernel
theorem dX12_at_27 : decode cX12_at 27 = .ok (.if_icmp .lt 9, 3) := by decide +kernel
theorem dX12_at_30 : decode cX12_at 30 = .ok (.aload_n 0, 1) := by decide +kernel
theorem dX12_at_31 : decode cX12_at 31 = .ok (.iconst 1, 1) := by decide +kernel
theorem dX12_at_32 : decode cX12_at 32 = .ok (.invokevirtual 122, 3) := by decide +kernel
theorem dX12_at_35 : decode cX12_at 35 = .ok (.ireturn, 1) := by decide +kernel
theorem dX12_at_36 : decode cX12_at 36 = .ok (.iload_n 2, 1) := by decide +kernel
theorem dX12_at_37 : decode cX12_at 37 = .ok (.iconst (-1), 1) := by decide +kernel
theorem dX12_at_38 : decode cX12_at 38 = .ok (.if_icmp .ne 15, 3) := by decide +kernel
theorem dX12_at_41 : decode cX12_at 41 = .ok (.aload_n 0, 1) := by decide +kernel
theorem dX12_at_42 : decode cX12_at 42 = .ok (.getfield 9, 3) := by decide +kernel
theorem dX12_at_45 : decode cX12_at 45 = .ok (.iload_n 1, 1) := by decide +kernel
theorem dX12_at_46 : decode cX12_at 46 = .ok (.invokestatic 115, 3) := by decide +kernel
theorem dX12_at_49 : decode cX12_at 49 = .ok (.iaload, 1) := by decide +kernel
theorem dX12_at_50 : decode cX12_at 50 = .ok (.goto 16, 3) := by decide +kernel
theorem dX12_at_53 : decode cX12_at 53 = .ok (.aload_n 0, 1) := by decide +kernel
theorem dX12_at_54 : decode cX12_at 54 = .ok (.getfield 9, 3) := by decide +kernel
theorem dX12_at_57 : decode cX12_at 57 = .ok (.iload_n 1, 1) := by decide +kernel
theorem dX12_at_58 : decode cX12_at 58 = .ok (.invokestatic 115, 3) := by decide +kernel
theorem dX12_at_61 : decode cX12_at 61 = .ok (.iconst 1, 1) := by decide +kernel
theorem dX12_at_62 : decode cX12_at 62 = .ok (.iadd, 1) := by decide +kernel
theorem dX12_at_63 : decode cX12_at 63 = .ok (.iload_n 2, 1) := by decide +kernel
theorem dX12_at_64 : decode cX12_at 64 = .ok (.iadd, 1) := by decide +kernel
theorem dX12_at_65 : decode cX12_at 65 = .ok (.iaload, 1) := by decide +kernel
theorem dX12_at_66 : decode cX12_at 66 = .ok (.ireturn, 1) := by decide +kernel
theorem dX12_table_0 : decode cX12_table 0 = .ok (.iload_n 1, 1) := by decide +kernel
theorem dX12_table_1 : decode cX12_table 1 = .ok (.invokestatic 115, 3) := by decide +kernel
theorem dX12_table_4 : decode cX12_table 4 = .ok (.istore_n 2, 1) := by decide +kernel
theorem dX12_table_5 : decode cX12_table 5 = .ok (.aload_n 0, 1) := by decide +kernel
theorem dX12_table_6 : decode cX12_table 6 = .ok (.getfield 21, 3) := by decide +kernel
theorem dX12_table_9 : decode cX12_table 9 = .ok (.aload_n 0, 1) := by decide +kernel
theorem dX12_table_10 : decode cX12_table 10 = .ok (.getfield 9, 3) := by decide +kernel
theorem dX12_table_13 : decode cX12_table 13 = .ok (.iload_n 2, 1) := by decide +kernel
theorem dX12_table_14 : decode cX12_table 14 = .ok (.iaload, 1) := by decide +kernel
theorem dX12_table_15 : decode cX12_table 15 = .ok (.if_icmp .ne 7, 3) := by decide +kernel
theorem dX12_table_18 : decode cX12_table 18 = .ok (.iconst 1, 1) := by decide +kernel
theorem dX12_table_19 : decode cX12_table 19 = .ok (.goto 4, 3) := by decide +kernel
theorem dX12_table_22 : decode cX12_table 22 = .ok (.iconst 0, 1) := by decide +kernel
theorem dX12_table_23 : decode cX12_table 23 = .ok (.istore_n 3, 1) := by decide +kernel
theorem dX12_table_24 : decode cX12_table 24 = .ok (.iconst 0, 1) := by decide +kernel
theorem dX12_table_25 : decode cX12_table 25 = .ok (.istore 4, 2) := by decide +kernel
theorem dX12_table_27 : decode cX12_table 27 = .ok (.iload 4, 2) := by decide +kernel
theorem dX12_table_29 : decode cX12_table 29 = .ok (.aload_n 0, 1) := by decide +kernel
theorem dX12_table_30 : decode cX12_table 30 = .ok (.getfield 9, 3) := by decide +kernel
theorem dX12_table_33 : decode cX12_table 33 = .ok (.iload_n 2, 1) := by decide +kernel
theorem dX12_table_34 : decode cX12_table 34 = .ok (.iaload, 1) := by decide +kernel
theorem dX12_table_35 : decode cX12_table 35 = .ok (.if_icmp .ge 40, 3) := by decide +kernel
theorem dX12_table_38 : decode cX12_table 38 = .ok (.iload_n 3, 1) := by decide +kernel
theorem dX12_table_39 : decode cX12_table 39 = .ok (.ifCond .eq 36, 3) := by decide +kernel
theorem dX12_table_42 : decode cX12_table 42 = .ok (.aload_n 0, 1) := by decide +kernel
theorem dX12_table_43 : decode cX12_table 43 = .ok (.getfield 18, 3) := by decide +kernel
theorem dX12_table_46 : decode cX12_table 46 = .ok (.iload 4, 2) := by decide +kernel
theorem dX12_table_48 : decode cX12_table 48 = .ok (.iaload, 1) := by decide +kernel
theorem dX12_table_49 : decode cX12_table 49 = .ok (.aload_n 0, 1) := by decide +kernel
theorem dX12_table_50 : decode cX12_table 50 = .ok (.getfield 9, 3) := by decide +kernel
theorem dX12_table_53 : decode cX12_table 53 = .ok (.iload_n 2, 1) := by decide +kernel
theorem dX12_table_54 : decode cX12_table 54 = .ok (.iconst 1, 1) := by decide +kernel
theorem dX12_table_55 : decode cX12_table 55 = .ok (.iadd, 1) := by decide +kernel
theorem dX12_table_56 : decode cX12_table 56 = .ok (.iload 4, 2) := by decide +kernel
theorem dX12_table_58 : decode cX12_table 58 = .ok (.iadd, 1) := by decide +kernel
theorem dX12_table_59 : decode cX12_table 59 = .ok (.iaload, 1) := by decide +kernel
theorem dX12_table_60 : decode cX12_table 60 = .ok (.if_icmp .ne 7, 3) := by decide +kernel
theorem dX12_table_63 : decode cX12_table 63 = .ok (.iconst 1, 1) := by decide +kernel
theorem dX12_table_64 : decode cX12_table 64 = .ok (.goto 4, 3) := by decide +kernel
theorem dX12_table_67 : decode cX12_table 67 = .ok (.iconst 0, 1) := by decide +kernel
theorem dX12_table_68 : decode cX12_table 68 = .ok (.istore_n 3, 1) := by decide +kernel
theorem dX12_table_69 : decode cX12_table 69 = .ok (.iinc 4 1, 3) := by decide +kernel
theorem dX12_table_72 : decode cX12_table 72 = .ok (.goto (-45), 3) := by decide +kernel
theorem dX12_table_75 : decode cX12_table 75 = .ok (.iload_n 3, 1) := by decide +kernel
theorem dX12_table_76 : decode cX12_table 76 = .ok (.ifCond .eq 4, 3) := by decide +kernel
theorem dX12_table_79 : decode cX12_table 79 = .ok (.return_, 1) := by decide +kernel
theorem dX12_table_80 : decode cX12_table 80 = .ok (.aload_n 0, 1) := by decide +kernel
theorem dX12_table_81 : decode cX12_table 81 = .ok (.aload_n 0, 1) := by decide +kernel
theorem dX12_table_82 : decode cX12_table 82 = .ok (.getfield 9, 3) := by decide +kernel
theorem dX12_table_85 : decode cX12_table 85 = .ok (.iload_n 2, 1) := by decide +kernel
theorem dX12_table_86 : decode cX12_table 86 = .ok (.iaload, 1) := by decide +kernel
theorem dX12_table_87 : decode cX12_table 87 = .ok (.putfield 21, 3) := by decide +kernel
theorem dX12_table_90 : decode cX12_table 90 = .ok (.iconst 0, 1) := by decide +kernel
theorem dX12_table_91 : decode cX12_table 91 = .ok (.istore 4, 2) := by decide +kernel
theorem dX12_table_93 : decode cX12_table 93 = .ok (.iload 4, 2) := by decide +kernel
theorem dX12_table_95 : decode cX12_table 95 = .ok (.aload_n 0, 1) := by decide +kernel
theorem dX12_table_96 : decode cX12_table 96 = .ok (.getfield 21, 3) := by decide +kernel
theorem dX12_table_99 : decode cX12_table 99 = .ok (.if_icmp .ge 27, 3) := by decide +kernel
theorem dX12_table_102 : decode cX12_table 102 = .ok (.aload_n 0, 1) := by decide +kernel
theorem dX12_table_103 : decode cX12_table 103 = .ok (.getfield 18, 3) := by decide +kernel
theorem dX12_table_106 : decode cX12_table 106 = .ok (.iload 4, 2) := by decide +kernel
theorem dX12_table_108 : decode cX12_table 108 = .ok (.aload_n 0, 1) := by decide +kernel
theorem dX12_table_109 : decode cX12_table 109 = .ok (.getfield 9, 3) := by decide +kernel
theorem dX12_table_112 : decode cX12_table 112 = .ok (.iload_n 2, 1) := by decide +kernel
theorem dX12_table_113 : decode cX12_table 113 = .ok (.iconst 1, 1) := by decide +kernel
theorem dX12_table_114 : decode cX12_table 114 = .ok (.iadd, 1) := by decide +kernel
theorem dX12_table_115 : decode cX12_table 115 = .ok (.iload 4, 2) := by decide +kernel
theorem dX12_table_117 : decode cX12_table 117 = .ok (.iadd, 1) := by decide +kernel
theorem dX12_table_118 : decode cX12_table 118 = .ok (.iaload, 1) := by decide +kernel
theorem dX12_table_119 : decode cX12_table 119 = .ok (.iastore, 1) := by decide +kernel
theorem dX12_table_120 : decode cX12_table 120 = .ok (.iinc 4 1, 3) := by decide +kernel
theorem dX12_table_123 : decode cX12_table 123 = .ok (.goto (-30), 3) := by decide +kernel
theorem dX12_table_126 : decode cX12_table 126 = .ok (.iconst 0, 1) := by decide +kernel
theorem dX12_table_127 : decode cX12_table 127 = .ok (.istore 4, 2) := by decide +kernel
theorem dX12_table_129 : decode cX12_table 129 = .ok (.iload 4, 2) := by decide +kernel
theorem dX12_table_131 : decode cX12_table 131 = .ok (.ldc 125, 2) := by decide +kernel
theorem dX12_table_133 : decode cX12_table 133 = .ok (.if_icmp .gt 29, 3) := by decide +kernel
theorem dX12_table_136 : decode cX12_table 136 = .ok (.aload_n 0, 1) := by decide +kernel
theorem dX12_table_137 : decode cX12_table 137 = .ok (.getfield 26, 3) := by decide +kernel
theorem dX12_table_140 : decode cX12_table 140 = .ok (.iconst 0, 1) := by decide +kernel
theorem dX12_table_141 : decode cX12_table 141 = .ok (.aaload, 1) := by decide +kernel
theorem dX12_table_142 : decode cX12_table 142 = .ok (.iload 4, 2) := by decide +kernel
theorem dX12_table_144 : decode cX12_table 144 = .ok (.iload 4, 2) := by decide +kernel
theorem dX12_table_146 : decode cX12_table 146 = .ok (.ifCond .ne 7, 3) := by decide +kernel
theorem dX12_table_149 : decode cX12_table 149 = .ok (.iconst 0, 1) := by decide +kernel
theorem dX12_table_150 : decode cX12_table 150 = .ok (.goto 5, 3) := by decide +kernel
theorem dX12_table_153 : decode cX12_table 153 = .ok (.ldc 126, 2) := by decide +kernel
theorem dX12_table_155 : decode cX12_table 155 = .ok (.iastore, 1) := by decide +kernel
theorem dX12_table_156 : decode cX12_table 156 = .ok (.iinc 4 1, 3) := by decide +kernel
theorem dX12_table_159 : decode cX12_table 159 = .ok (.goto (-30), 3) := by decide +kernel
theorem dX12_table_162 : decode cX12_table 162 = .ok (.iconst 1, 1) := by decide +kernel
theorem dX12_table_163 : decode cX12_table 163 = .ok (.istore 4, 2) := by decide +kernel
theorem dX12_table_165 : decode cX12_table 165 = .ok (.iload 4, 2) := by decide +kernel
theorem dX12_table_167 : decode cX12_table 167 = .ok (.aload_n 0, 1) := by decide +kernel
theorem dX12_table_168 : decode cX12_table 168 = .ok (.getfield 21, 3) := by decide +kernel
theorem dX12_table_171 : decode cX12_table 171 = .ok (.if_icmp .gt 107, 3) := by decide +kernel
theorem dX12_table_174 : decode cX12_table 174 = .ok (.aload_n 0, 1) := by decide +kernel
theorem dX12_table_175 : decode cX12_table 175 = .ok (.getfield 18, 3) := by decide +kernel
theorem dX12_table_178 : decode cX12_table 178 = .ok (.iload 4, 2) := by decide +kernel
theorem dX12_table_180 : decode cX12_table 180 = .ok (.iconst 1, 1) := by decide +kernel
theorem dX12_table_181 : decode cX12_table 181 = .ok (.isub, 1) := by decide +kernel
theorem dX12_table_182 : decode cX12_table 182 = .ok (.iaload, 1) := by decide +kernel
theorem dX12_table_183 : decode cX12_table 183 = .ok (.istore 5, 2) := by decide +kernel
theorem dX12_table_185 : decode cX12_table 185 = .ok (.iconst 0, 1) := by decide +kernel
theorem dX12_table_186 : decode cX12_table 186 = .ok (.istore 6, 2) := by decide +kernel
theorem dX12_table_188 : decode cX12_table 188 = .ok (.iload 6, 2) := by decide +kernel
theorem dX12_table_190 : decode cX12_table 190 = .ok (.ldc 125, 2) := by decide +kernel
theorem dX12_table_192 : decode cX12_table 192 = .ok (.if_icmp .gt 80, 3) := by decide +kernel
theorem dX12_table_195 : decode cX12_table 195 = .ok (.aload_n 0, 1) := by decide +kernel
theorem dX12_table_196 : decode cX12_table 196 = .ok (.getfield 26, 3) := by decide +kernel
theorem dX12_table_199 : decode cX12_table 199 = .ok (.iload 4, 2) := by decide +kernel
theorem dX12_table_201 : decode cX12_table 201 = .ok (.iconst 1, 1) := by decide +kernel
theorem dX12_table_202 : decode cX12_table 202 = .ok (.isub, 1) := by decide +kernel
theorem dX12_table_203 : decode cX12_table 203 = .ok (.aaload, 1) := by decide +kernel
theorem dX12_table_204 : decode cX12_table 204 = .ok (.iload 6, 2) := by decide +kernel
theorem dX12_table_206 : decode cX12_table 206 = .ok (.iaload, 1) := by decide +kernel
theorem dX12_table_207 : decode cX12_table 207 = .ok (.istore 7, 2) := by decide +kernel
theorem dX12_table_209 : decode cX12_table 209 = .ok (.aload_n 0, 1) := by decide +kernel
theorem dX12_table_210 : decode cX12_table 210 = .ok (.getfield 26, 3) := by decide +kernel
theorem dX12_table_213 : decode cX12_table 213 = .ok (.iload 4, 2) := by decide +kernel
theorem dX12_table_215 : decode cX12_table 215 = .ok (.aaload, 1) := by decide +kernel
theorem dX12_table_216 : decode cX12_table 216 = .ok (.iload 6, 2) := by decide +kernel
theorem dX12_table_218 : decode cX12_table 218 = .ok (.iload 6, 2) := by decide +kernel
theorem dX12_table_220 : decode cX12_table 220 = .ok (.iload 5, 2) := by decide +kernel
theorem dX12_table_222 : decode cX12_table 222 = .ok (.if_icmp .lt 41, 3) := by decide +kernel
theorem dX12_table_225 : decode cX12_table 225 = .ok (.aload_n 0, 1) := by decide +kernel
theorem dX12_table_226 : decode cX12_table 226 = .ok (.getfield 26, 3) := by decide +kernel
theorem dX12_table_229 : decode cX12_table 229 = .ok (.iload 4, 2) := by decide +kernel
theorem dX12_table_231 : decode cX12_table 231 = .ok (.aaload, 1) := by decide +kernel
theorem dX12_table_232 : decode cX12_table 232 = .ok (.iload 6, 2) := by decide +kernel
theorem dX12_table_234 : decode cX12_table 234 = .ok (.iload 5, 2) := by decide +kernel
theorem dX12_table_236 : decode cX12_table 236 = .ok (.isub, 1) := by decide +kernel
theorem dX12_table_237 : decode cX12_table 237 = .ok (.iaload, 1) := by decide +kernel
theorem dX12_table_238 : decode cX12_table 238 = .ok (.iconst 1, 1) := by decide +kernel
theorem dX12_table_239 : decode cX12_table 239 = .ok (.iadd, 1) := by decide +kernel
theorem dX12_table_240 : decode cX12_table 240 = .ok (.iload 7, 2) := by decide +kernel
theorem dX12_table_242 : decode cX12_table 242 = .ok (.if_icmp .ge 21, 3) := by decide +kernel
theorem dX12_table_245 : decode cX12_table 245 = .ok (.aload_n 0, 1) := by decide +kernel
theorem dX12_table_246 : decode cX12_table 246 = .ok (.getfield 26, 3) := by decide +kernel
theorem dX12_table_249 : decode cX12_table 249 = .ok (.iload 4, 2) := by decide +kernel
theorem dX12_table_251 : decode cX12_table 251 = .ok (.aaload, 1) := by decide +kernel
theorem dX12_table_252 : decode cX12_table 252 = .ok (.iload 6, 2) := by decide +kernel
theorem dX12_table_254 : decode cX12_table 254 = .ok (.iload 5, 2) := by decide +kernel
theorem dX12_table_256 : decode cX12_table 256 = .ok (.isub, 1) := by decide +kernel
theorem dX12_table_257 : decode cX12_table 257 = .ok (.iaload, 1) := by decide +kernel
theorem dX12_table_258 : decode cX12_table 258 = .ok (.iconst 1, 1) := by decide +kernel
theorem dX12_table_259 : decode cX12_table 259 = .ok (.iadd, 1) := by decide +kernel
theorem dX12_table_260 : decode cX12_table 260 = .ok (.goto 5, 3) := by decide +kernel
theorem dX12_table_263 : decode cX12_table 263 = .ok (.iload 7, 2) := by decide +kernel
theorem dX12_table_265 : decode cX12_table 265 = .ok (.iastore, 1) := by decide +kernel
theorem dX12_table_266 : decode cX12_table 266 = .ok (.iinc 6 1, 3) := by decide +kernel
theorem dX12_table_269 : decode cX12_table 269 = .ok (.goto (-81), 3) := by decide +kernel
theorem dX12_table_272 : decode cX12_table 272 = .ok (.iinc 4 1, 3) := by decide +kernel
theorem dX12_table_275 : decode cX12_table 275 = .ok (.goto (-110), 3) := by decide +kernel
theorem dX12_table_278 : decode cX12_table 278 = .ok (.return_, 1) := by decide +kernel
theorem dX12_greatest_0 : decode cX12_greatest 0 = .ok (.aload_n 0, 1) := by decide +kernel
theorem dX12_greatest_1 : decode cX12_greatest 1 = .ok (.getfield 18, 3) := by decide +kernel
theorem dX12_greatest_4 : decode cX12_greatest 4 = .ok (.aload_n 0, 1) := by decide +kernel
theorem dX12_greatest_5 : decode cX12_greatest 5 = .ok (.getfield 21, 3) := by decide +kernel
theorem dX12_greatest_8 : decode cX12_greatest 8 = .ok (.iconst 1, 1) := by decide +kernel
theorem dX12_greatest_9 : decode cX12_greatest 9 = .ok (.isub, 1) := by decide +kernel
theorem dX12_greatest_10 : decode cX12_greatest 10 = .ok (.iaload, 1) := by decide +kernel
theorem dX12_greatest_11 : decode cX12_greatest 11 = .ok (.ireturn, 1) := by decide +kernel
theorem dX12_down_0 : decode cX12_down 0 = .ok (.lload_n 1, 1) := by decide +kernel
theorem dX12_down_1 : decode cX12_down 1 = .ok (.ldc2_w 127, 3) := by decide +kernel
theorem dX12_down_4 : decode cX12_down 4 = .ok (.lcmp, 1) := by decide +kernel
theorem dX12_down_5 : decode cX12_down 5 = .ok (.ifCond .gt 6, 3) := by decide +kernel
theorem dX12_down_8 : decode cX12_down 8 = .ok (.lload_n 1, 1) := by decide +kernel
theorem dX12_down_9 : decode cX12_down 9 = .ok (.l2i, 1) := by decide +kernel
theorem dX12_down_10 : decode cX12_down 10 = .ok (.ireturn, 1) := by decide +kernel
theorem dX12_down_11 : decode cX12_down 11 = .ok (.aload_n 0, 1) := by decide +kernel
theorem dX12_down_12 : decode cX12_down 12 = .ok (.invokevirtual 129, 3) := by decide +kernel
theorem dX12_down_15 : decode cX12_down 15 = .ok (.i2l, 1) := by decide +kernel
theorem dX12_down_16 : decode cX12_down 16 = .ok (.lstore_n 3, 1) := by decide +kernel
theorem dX12_down_17 : decode cX12_down 17 = .ok (.ldc2_w 127, 3) := by decide +kernel
theorem dX12_down_20 : decode cX12_down 20 = .ok (.lload_n 3, 1) := by decide +kernel
theorem dX12_down_21 : decode cX12_down 21 = .ok (.lsub, 1) := by decide +kernel
theorem dX12_down_22 : decode cX12_down 22 = .ok (.lconst 1, 1) := by decide +kernel
theorem dX12_down_23 : decode cX12_down 23 = .ok (.ladd, 1) := by decide +kernel
theorem dX12_down_24 : decode cX12_down 24 = .ok (.lload_n 1, 1) := by decide +kernel
theorem dX12_down_25 : decode cX12_down 25 = .ok (.ldc2_w 127, 3) := by decide +kernel
theorem dX12_down_28 : decode cX12_down 28 = .ok (.lload_n 3, 1) := by decide +kernel
theorem dX12_down_29 : decode cX12_down 29 = .ok (.lsub, 1) := by decide +kernel
theorem dX12_down_30 : decode cX12_down 30 = .ok (.lconst 1, 1) := by decide +kernel
theorem dX12_down_31 : decode cX12_down 31 = .ok (.ladd, 1) := by decide +kernel
theorem dX12_down_32 : decode cX12_down 32 = .ok (.lsub, 1) := by decide +kernel
theorem dX12_down_33 : decode cX12_down 33 = .ok (.lload_n 3, 1) := by decide +kernel
theorem dX12_down_34 : decode cX12_down 34 = .ok (.lrem, 1) := by decide +kernel
theorem dX12_down_35 : decode cX12_down 35 = .ok (.ladd, 1) := by decide +kernel
theorem dX12_down_36 : decode cX12_down 36 = .ok (.l2i, 1) := by decide +kernel
theorem dX12_down_37 : decode cX12_down 37 = .ok (.ireturn, 1) := by decide +kernel
theorem dX12_isSum_0 : decode cX12_isSum 0 = .ok (.lload_n 0, 1) := by decide +kernel
theorem dX12_isSum_1 : decode cX12_isSum 1 = .ok (.lconst 0, 1) := by decide +kernel
theorem dX12_isSum_2 : decode cX12_isSum 2 = .ok (.lcmp, 1) := by decide +kernel
theorem dX12_isSum_3 : decode cX12_isSum 3 = .ok (.ifCond .lt 15, 3) := by decide +kernel
theorem dX12_isSum_6 : decode cX12_isSum 6 = .ok (.lload_n 0, 1) := by decide +kernel
theorem dX12_isSum_7 : decode cX12_isSum 7 = .ok (.ldc2_w 133, 3) := by decide +kernel
theorem dX12_isSum_10 : decode cX12_isSum 10 = .ok (.lcmp, 1) := by decide +kernel
theorem dX12_isSum_11 : decode cX12_isSum 11 = .ok (.ifCond .gt 7, 3) := by decide +kernel
theorem dX12_isSum_14 : decode cX12_isSum 14 = .ok (.iconst 1, 1) := by decide +kernel
theorem dX12_isSum_15 : decode cX12_isSum 15 = .ok (.goto 4, 3) := by decide +kernel
theorem dX12_isSum_18 : decode cX12_isSum 18 = .ok (.iconst 0, 1) := by decide +kernel
theorem dX12_isSum_19 : decode cX12_isSum 19 = .ok (.ireturn, 1) := by decide +kernel
theorem dX12_fewestOf_0 : decode cX12_fewestOf 0 = .ok (.aload_n 0, 1) := by decide +kernel
theorem dX12_fewestOf_1 : decode cX12_fewestOf 1 = .ok (.getfield 21, 3) := by decide +kernel
theorem dX12_fewestOf_4 : decode cX12_fewestOf 4 = .ok (.ifCond .ne 17, 3) := by decide +kernel
theorem dX12_fewestOf_7 : decode cX12_fewestOf 7 = .ok (.lload_n 1, 1) := by decide +kernel
theorem dX12_fewestOf_8 : decode cX12_fewestOf 8 = .ok (.lconst 0, 1) := by decide +kernel
theorem dX12_fewestOf_9 : decode cX12_fewestOf 9 = .ok (.lcmp, 1) := by decide +kernel
theorem dX12_fewestOf_10 : decode cX12_fewestOf 10 = .ok (.ifCond .ne 7, 3) := by decide +kernel
theorem dX12_fewestOf_13 : decode cX12_fewestOf 13 = .ok (.lconst 0, 1) := by decide +kernel
theorem dX12_fewestOf_14 : decode cX12_fewestOf 14 = .ok (.goto 6, 3) := by decide +kernel
theorem dX12_fewestOf_17 : decode cX12_fewestOf 17 = .ok (.ldc2_w 135, 3) := by decide +kernel
theorem dX12_fewestOf_20 : decode cX12_fewestOf 20 = .ok (.lreturn, 1) := by decide +kernel
theorem dX12_fewestOf_21 : decode cX12_fewestOf 21 = .ok (.aload_n 0, 1) := by decide +kernel
theorem dX12_fewestOf_22 : decode cX12_fewestOf 22 = .ok (.lload_n 1, 1) := by decide +kernel
theorem dX12_fewestOf_23 : decode cX12_fewestOf 23 = .ok (.invokevirtual 137, 3) := by decide +kernel
theorem dX12_fewestOf_26 : decode cX12_fewestOf 26 = .ok (.istore_n 3, 1) := by decide +kernel
theorem dX12_fewestOf_27 : decode cX12_fewestOf 27 = .ok (.aload_n 0, 1) := by decide +kernel
theorem dX12_fewestOf_28 : decode cX12_fewestOf 28 = .ok (.getfield 26, 3) := by decide +kernel
theorem dX12_fewestOf_31 : decode cX12_fewestOf 31 = .ok (.aload_n 0, 1) := by decide +kernel
theorem dX12_fewestOf_32 : decode cX12_fewestOf 32 = .ok (.getfield 21, 3) := by decide +kernel
theorem dX12_fewestOf_35 : decode cX12_fewestOf 35 = .ok (.aaload, 1) := by decide +kernel
theorem dX12_fewestOf_36 : decode cX12_fewestOf 36 = .ok (.iload_n 3, 1) := by decide +kernel
theorem dX12_fewestOf_37 : decode cX12_fewestOf 37 = .ok (.iaload, 1) := by decide +kernel
theorem dX12_fewestOf_38 : decode cX12_fewestOf 38 = .ok (.istore 4, 2) := by decide +kernel
theorem dX12_fewestOf_40 : decode cX12_fewestOf 40 = .ok (.iload 4, 2) := by decide +kernel
theorem dX12_fewestOf_42 : decode cX12_fewestOf 42 = .ok (.ldc 126, 2) := by decide +kernel
theorem dX12_fewestOf_44 : decode cX12_fewestOf 44 = .ok (.if_icmp .lt 9, 3) := by decide +kernel
theorem dX12_fewestOf_47 : decode cX12_fewestOf 47 = .ok (.ldc2_w 135, 3) := by decide +kernel
theorem dX12_fewestOf_50 : decode cX12_fewestOf 50 = .ok (.goto 17, 3) := by decide +kernel
theorem dX12_fewestOf_53 : decode cX12_fewestOf 53 = .ok (.iload 4, 2) := by decide +kernel
theorem dX12_fewestOf_55 : decode cX12_fewestOf 55 = .ok (.i2l, 1) := by decide +kernel
theorem dX12_fewestOf_56 : decode cX12_fewestOf 56 = .ok (.lload_n 1, 1) := by decide +kernel
theorem dX12_fewestOf_57 : decode cX12_fewestOf 57 = .ok (.iload_n 3, 1) := by decide +kernel
theorem dX12_fewestOf_58 : decode cX12_fewestOf 58 = .ok (.i2l, 1) := by decide +kernel
theorem dX12_fewestOf_59 : decode cX12_fewestOf 59 = .ok (.lsub, 1) := by decide +kernel
theorem dX12_fewestOf_60 : decode cX12_fewestOf 60 = .ok (.aload_n 0, 1) := by decide +kernel
theorem dX12_fewestOf_61 : decode cX12_fewestOf 61 = .ok (.invokevirtual 129, 3) := by decide +kernel
theorem dX12_fewestOf_64 : decode cX12_fewestOf 64 = .ok (.i2l, 1) := by decide +kernel
theorem dX12_fewestOf_65 : decode cX12_fewestOf 65 = .ok (.ldiv, 1) := by decide +kernel
theorem dX12_fewestOf_66 : decode cX12_fewestOf 66 = .ok (.ladd, 1) := by decide +kernel
theorem dX12_fewestOf_67 : decode cX12_fewestOf 67 = .ok (.lreturn, 1) := by decide +kernel
theorem dX12_fewest_0 : decode cX12_fewest 0 = .ok (.aload_n 0, 1) := by decide +kernel
theorem dX12_fewest_1 : decode cX12_fewest 1 = .ok (.iconst 0, 1) := by decide +kernel
theorem dX12_fewest_2 : decode cX12_fewest 2 = .ok (.putfield 96, 3) := by decide +kernel
theorem dX12_fewest_5 : decode cX12_fewest 5 = .ok (.iload_n 1, 1) := by decide +kernel
theorem dX12_fewest_6 : decode cX12_fewest 6 = .ok (.invokestatic 111, 3) := by decide +kernel
theorem dX12_fewest_9 : decode cX12_fewest 9 = .ok (.ifCond .ne 10, 3) := by decide +kernel
theorem dX12_fewest_12 : decode cX12_fewest 12 = .ok (.aload_n 0, 1) := by decide +kernel
theorem dX12_fewest_13 : decode cX12_fewest 13 = .ok (.iconst 1, 1) := by decide +kernel
theorem dX12_fewest_14 : decode cX12_fewest 14 = .ok (.invokevirtual 122, 3) := by decide +kernel
theorem dX12_fewest_17 : decode cX12_fewest 17 = .ok (.i2l, 1) := by decide +kernel
theorem dX12_fewest_18 : decode cX12_fewest 18 = .ok (.lreturn, 1) := by decide +kernel
theorem dX12_fewest_19 : decode cX12_fewest 19 = .ok (.lload_n 2, 1) := by decide +kernel
theorem dX12_fewest_20 : decode cX12_fewest 20 = .ok (.invokestatic 141, 3) := by decide +kernel
theorem dX12_fewest_23 : decode cX12_fewest 23 = .ok (.ifCond .ne 10, 3) := by decide +kernel
theorem dX12_fewest_26 : decode cX12_fewest 26 = .ok (.aload_n 0, 1) := by decide +kernel
theorem dX12_fewest_27 : decode cX12_fewest 27 = .ok (.iconst 2, 1) := by decide +kernel
theorem dX12_fewest_28 : decode cX12_fewest 28 = .ok (.invokevirtual 122, 3) := by decide +kernel
theorem dX12_fewest_31 : decode cX12_fewest 31 = .ok (.i2l, 1) := by decide +kernel
theorem dX12_fewest_32 : decode cX12_fewest 32 = .ok (.lreturn, 1) := by decide +kernel
theorem dX12_fewest_33 : decode cX12_fewest 33 = .ok (.aload_n 0, 1) := by decide +kernel
theorem dX12_fewest_34 : decode cX12_fewest 34 = .ok (.iload_n 1, 1) := by decide +kernel
theorem dX12_fewest_35 : decode cX12_fewest 35 = .ok (.invokevirtual 145, 3) := by decide +kernel
theorem dX12_fewest_38 : decode cX12_fewest 38 = .ok (.aload_n 0, 1) := by decide +kernel
theorem dX12_fewest_39 : decode cX12_fewest 39 = .ok (.lload_n 2, 1) := by decide +kernel
theorem dX12_fewest_40 : decode cX12_fewest 40 = .ok (.invokevirtual 149, 3) := by decide +kernel
theorem dX12_fewest_43 : decode cX12_fewest 43 = .ok (.lreturn, 1) := by decide +kernel
theorem dX12_most_0 : decode cX12_most 0 = .ok (.iconst 0, 1) := by decide +kernel
theorem dX12_most_1 : decode cX12_most 1 = .ok (.istore_n 3, 1) := by decide +kernel
theorem dX12_most_2 : decode cX12_most 2 = .ok (.iload_n 2, 1) := by decide +kernel
theorem dX12_most_3 : decode cX12_most 3 = .ok (.istore 4, 2) := by decide +kernel
theorem dX12_most_5 : decode cX12_most 5 = .ok (.aload_n 0, 1) := by decide +kernel
theorem dX12_most_6 : decode cX12_most 6 = .ok (.getfield 18, 3) := by decide +kernel
theorem dX12_most_9 : decode cX12_most 9 = .ok (.iload_n 1, 1) := by decide +kernel
theorem dX12_most_10 : decode cX12_most 10 = .ok (.iconst 1, 1) := by decide +kernel
theorem dX12_most_11 : decode cX12_most 11 = .ok (.isub, 1) := by decide +kernel
theorem dX12_most_12 : decode cX12_most 12 = .ok (.iaload, 1) := by decide +kernel
theorem dX12_most_13 : decode cX12_most 13 = .ok (.istore 5, 2) := by decide +kernel
theorem dX12_most_15 : decode cX12_most 15 = .ok (.aload_n 0, 1) := by decide +kernel
theorem dX12_most_16 : decode cX12_most 16 = .ok (.getfield 26, 3) := by decide +kernel
theorem dX12_most_19 : decode cX12_most 19 = .ok (.iload_n 1, 1) := by decide +kernel
theorem dX12_most_20 : decode cX12_most 20 = .ok (.aaload, 1) := by decide +kernel
theorem dX12_most_21 : decode cX12_most 21 = .ok (.iload_n 2, 1) := by decide +kernel
theorem dX12_most_22 : decode cX12_most 22 = .ok (.iaload, 1) := by decide +kernel
theorem dX12_most_23 : decode cX12_most 23 = .ok (.istore 6, 2) := by decide +kernel
theorem dX12_most_25 : decode cX12_most 25 = .ok (.iconst 0, 1) := by decide +kernel
theorem dX12_most_26 : decode cX12_most 26 = .ok (.istore 7, 2) := by decide +kernel
theorem dX12_most_28 : decode cX12_most 28 = .ok (.iload 4, 2) := by decide +kernel
theorem dX12_most_30 : decode cX12_most 30 = .ok (.ifCond .lt 37, 3) := by decide +kernel
theorem dX12_most_33 : decode cX12_most 33 = .ok (.aload_n 0, 1) := by decide +kernel
theorem dX12_most_34 : decode cX12_most 34 = .ok (.getfield 26, 3) := by decide +kernel
theorem dX12_most_37 : decode cX12_most 37 = .ok (.iload_n 1, 1) := by decide +kernel
theorem dX12_most_38 : decode cX12_most 38 = .ok (.iconst 1, 1) := by decide +kernel
theorem dX12_most_39 : decode cX12_most 39 = .ok (.isub, 1) := by decide +kernel
theorem dX12_most_40 : decode cX12_most 40 = .ok (.aaload, 1) := by decide +kernel
theorem dX12_most_41 : decode cX12_most 41 = .ok (.iload 4, 2) := by decide +kernel
theorem dX12_most_43 : decode cX12_most 43 = .ok (.iaload, 1) := by decide +kernel
theorem dX12_most_44 : decode cX12_most 44 = .ok (.iload_n 3, 1) := by decide +kernel
theorem dX12_most_45 : decode cX12_most 45 = .ok (.iadd, 1) := by decide +kernel
theorem dX12_most_46 : decode cX12_most 46 = .ok (.iload 6, 2) := by decide +kernel
theorem dX12_most_48 : decode cX12_most 48 = .ok (.if_icmp .ne 6, 3) := by decide +kernel
theorem dX12_most_51 : decode cX12_most 51 = .ok (.iload_n 3, 1) := by decide +kernel
theorem dX12_most_52 : decode cX12_most 52 = .ok (.istore 7, 2) := by decide +kernel
theorem dX12_most_54 : decode cX12_most 54 = .ok (.iload 4, 2) := by decide +kernel
theorem dX12_most_56 : decode cX12_most 56 = .ok (.iload 5, 2) := by decide +kernel
theorem dX12_most_58 : decode cX12_most 58 = .ok (.isub, 1) := by decide +kernel
theorem dX12_most_59 : decode cX12_most 59 = .ok (.istore 4, 2) := by decide +kernel
theorem dX12_most_61 : decode cX12_most 61 = .ok (.iinc 3 1, 3) := by decide +kernel
theorem dX12_most_64 : decode cX12_most 64 = .ok (.goto (-36), 3) := by decide +kernel
theorem dX12_most_67 : decode cX12_most 67 = .ok (.iload 7, 2) := by decide +kernel
theorem dX12_most_69 : decode cX12_most 69 = .ok (.ireturn, 1) := by decide +kernel
theorem dX12_with_0 : decode cX12_with 0 = .ok (.aload_n 0, 1) := by decide +kernel
theorem dX12_with_1 : decode cX12_with 1 = .ok (.iconst 0, 1) := by decide +kernel
theorem dX12_with_2 : decode cX12_with 2 = .ok (.putfield 96, 3) := by decide +kernel
theorem dX12_with_5 : decode cX12_with 5 = .ok (.iload_n 1, 1) := by decide +kernel
theorem dX12_with_6 : decode cX12_with 6 = .ok (.invokestatic 111, 3) := by decide +kernel
theorem dX12_with_9 : decode cX12_with 9 = .ok (.ifCond .eq 22, 3) := by decide +kernel
theorem dX12_with_12 : decode cX12_with 12 = .ok (.iload 4, 2) := by decide +kernel
theorem dX12_with_14 : decode cX12_with 14 = .ok (.ifCond .lt 17, 3) := by decide +kernel
theorem dX12_with_17 : decode cX12_with 17 = .ok (.iload 4, 2) := by decide +kernel
theorem dX12_with_19 : decode cX12_with 19 = .ok (.aload_n 0, 1) := by decide +kernel
theorem dX12_with_20 : decode cX12_with 20 = .ok (.getfield 9, 3) := by decide +kernel
theorem dX12_with_23 : decode cX12_with 23 = .ok (.iload_n 1, 1) := by decide +kernel
theorem dX12_with_24 : decode cX12_with 24 = .ok (.invokestatic 115, 3) := by decide +kernel
theorem dX12_with_27 : decode cX12_with 27 = .ok (.iaload, 1) := by decide +kernel
theorem dX12_with_28 : decode cX12_with 28 = .ok (.if_icmp .lt 10, 3) := by decide +kernel
theorem dX12_with_31 : decode cX12_with 31 = .ok (.aload_n 0, 1) := by decide +kernel
theorem dX12_with_32 : decode cX12_with 32 = .ok (.iconst 1, 1) := by decide +kernel
theorem dX12_with_33 : decode cX12_with 33 = .ok (.invokevirtual 122, 3) := by decide +kernel
theorem dX12_with_36 : decode cX12_with 36 = .ok (.i2l, 1) := by decide +kernel
theorem dX12_with_37 : decode cX12_with 37 = .ok (.lreturn, 1) := by decide +kernel
theorem dX12_with_38 : decode cX12_with 38 = .ok (.lload_n 2, 1) := by decide +kernel
theorem dX12_with_39 : decode cX12_with 39 = .ok (.invokestatic 141, 3) := by decide +kernel
theorem dX12_with_42 : decode cX12_with 42 = .ok (.ifCond .ne 10, 3) := by decide +kernel
theorem dX12_with_45 : decode cX12_with 45 = .ok (.aload_n 0, 1) := by decide +kernel
theorem dX12_with_46 : decode cX12_with 46 = .ok (.iconst 2, 1) := by decide +kernel
theorem dX12_with_47 : decode cX12_with 47 = .ok (.invokevirtual 122, 3) := by decide +kernel
theorem dX12_with_50 : decode cX12_with 50 = .ok (.i2l, 1) := by decide +kernel
theorem dX12_with_51 : decode cX12_with 51 = .ok (.lreturn, 1) := by decide +kernel
theorem dX12_with_52 : decode cX12_with 52 = .ok (.aload_n 0, 1) := by decide +kernel
theorem dX12_with_53 : decode cX12_with 53 = .ok (.iload_n 1, 1) := by decide +kernel
theorem dX12_with_54 : decode cX12_with 54 = .ok (.invokevirtual 145, 3) := by decide +kernel
theorem dX12_with_57 : decode cX12_with 57 = .ok (.aload_n 0, 1) := by decide +kernel
theorem dX12_with_58 : decode cX12_with 58 = .ok (.lload_n 2, 1) := by decide +kernel
theorem dX12_with_59 : decode cX12_with 59 = .ok (.invokevirtual 149, 3) := by decide +kernel
theorem dX12_with_62 : decode cX12_with 62 = .ok (.lconst 0, 1) := by decide +kernel
theorem dX12_with_63 : decode cX12_with 63 = .ok (.lcmp, 1) := by decide +kernel
theorem dX12_with_64 : decode cX12_with 64 = .ok (.ifCond .ge 7, 3) := by decide +kernel
theorem dX12_with_67 : decode cX12_with 67 = .ok (.ldc2_w 135, 3) := by decide +kernel
theorem dX12_with_70 : decode cX12_with 70 = .ok (.lreturn, 1) := by decide +kernel
theorem dX12_with_71 : decode cX12_with 71 = .ok (.aload_n 0, 1) := by decide +kernel
theorem dX12_with_72 : decode cX12_with 72 = .ok (.lload_n 2, 1) := by decide +kernel
theorem dX12_with_73 : decode cX12_with 73 = .ok (.invokevirtual 137, 3) := by decide +kernel
theorem dX12_with_76 : decode cX12_with 76 = .ok (.istore 5, 2) := by decide +kernel
theorem dX12_with_78 : decode cX12_with 78 = .ok (.lload_n 2, 1) := by decide +kernel
theorem dX12_with_79 : decode cX12_with 79 = .ok (.iload 5, 2) := by decide +kernel
theorem dX12_with_81 : decode cX12_with 81 = .ok (.i2l, 1) := by decide +kernel
theorem dX12_with_82 : decode cX12_with 82 = .ok (.lsub, 1) := by decide +kernel
theorem dX12_with_83 : decode cX12_with 83 = .ok (.aload_n 0, 1) := by decide +kernel
theorem dX12_with_84 : decode cX12_with 84 = .ok (.invokevirtual 129, 3) := by decide +kernel
theorem dX12_with_87 : decode cX12_with 87 = .ok (.i2l, 1) := by decide +kernel
theorem dX12_with_88 : decode cX12_with 88 = .ok (.ldiv, 1) := by decide +kernel
theorem dX12_with_89 : decode cX12_with 89 = .ok (.lstore 6, 2) := by decide +kernel
theorem dX12_with_91 : decode cX12_with 91 = .ok (.iload 5, 2) := by decide +kernel
theorem dX12_with_93 : decode cX12_with 93 = .ok (.istore 8, 2) := by decide +kernel
theorem dX12_with_95 : decode cX12_with 95 = .ok (.aload_n 0, 1) := by decide +kernel
theorem dX12_with_96 : decode cX12_with 96 = .ok (.getfield 21, 3) := by decide +kernel
theorem dX12_with_99 : decode cX12_with 99 = .ok (.istore 9, 2) := by decide +kernel
theorem dX12_with_101 : decode cX12_with 101 = .ok (.iload 9, 2) := by decide +kernel
theorem dX12_with_103 : decode cX12_with 103 = .ok (.ifCond .le 67, 3) := by decide +kernel
theorem dX12_with_106 : decode cX12_with 106 = .ok (.aload_n 0, 1) := by decide +kernel
theorem dX12_with_107 : decode cX12_with 107 = .ok (.iload 9, 2) := by decide +kernel
theorem dX12_with_109 : decode cX12_with 109 = .ok (.iload 8, 2) := by decide +kernel
theorem dX12_with_111 : decode cX12_with 111 = .ok (.invokevirtual 153, 3) := by decide +kernel
theorem dX12_with_114 : decode cX12_with 114 = .ok (.istore 10, 2) := by decide +kernel
theorem dX12_with_116 : decode cX12_with 116 = .ok (.iload 9, 2) := by decide +kernel
theorem dX12_with_118 : decode cX12_with 118 = .ok (.iconst 1, 1) := by decide +kernel
theorem dX12_with_119 : decode cX12_with 119 = .ok (.isub, 1) := by decide +kernel
theorem dX12_with_120 : decode cX12_with 120 = .ok (.iload 4, 2) := by decide +kernel
theorem dX12_with_122 : decode cX12_with 122 = .ok (.if_icmp .ne 25, 3) := by decide +kernel
theorem dX12_with_125 : decode cX12_with 125 = .ok (.iload 9, 2) := by decide +kernel
theorem dX12_with_127 : decode cX12_with 127 = .ok (.aload_n 0, 1) := by decide +kernel
theorem dX12_with_128 : decode cX12_with 128 = .ok (.getfield 21, 3) := by decide +kernel
theorem dX12_with_131 : decode cX12_with 131 = .ok (.if_icmp .ne 12, 3) := by decide +kernel
theorem dX12_with_134 : decode cX12_with 134 = .ok (.iload 10, 2) := by decide +kernel
theorem dX12_with_136 : decode cX12_with 136 = .ok (.i2l, 1) := by decide +kernel
theorem dX12_with_137 : decode cX12_with 137 = .ok (.lload 6, 2) := by decide +kernel
theorem dX12_with_139 : decode cX12_with 139 = .ok (.ladd, 1) := by decide +kernel
theorem dX12_with_140 : decode cX12_with 140 = .ok (.goto 6, 3) := by decide +kernel
theorem dX12_with_143 : decode cX12_with 143 = .ok (.iload 10, 2) := by decide +kernel
theorem dX12_with_145 : decode cX12_with 145 = .ok (.i2l, 1) := by decide +kernel
theorem dX12_with_146 : decode cX12_with 146 = .ok (.lreturn, 1) := by decide +kernel
theorem dX12_with_147 : decode cX12_with 147 = .ok (.iload 8, 2) := by decide +kernel
theorem dX12_with_149 : decode cX12_with 149 = .ok (.iload 10, 2) := by decide +kernel
theorem dX12_with_151 : decode cX12_with 151 = .ok (.aload_n 0, 1) := by decide +kernel
theorem dX12_with_152 : decode cX12_with 152 = .ok (.getfield 18, 3) := by decide +kernel
theorem dX12_with_155 : decode cX12_with 155 = .ok (.iload 9, 2) := by decide +kernel
theorem dX12_with_157 : decode cX12_with 157 = .ok (.iconst 1, 1) := by decide +kernel
theorem dX12_with_158 : decode cX12_with 158 = .ok (.isub, 1) := by decide +kernel
theorem dX12_with_159 : decode cX12_with 159 = .ok (.iaload, 1) := by decide +kernel
theorem dX12_with_160 : decode cX12_with 160 = .ok (.imul, 1) := by decide +kernel
theorem dX12_with_161 : decode cX12_with 161 = .ok (.isub, 1) := by decide +kernel
theorem dX12_with_162 : decode cX12_with 162 = .ok (.istore 8, 2) := by decide +kernel
theorem dX12_with_164 : decode cX12_with 164 = .ok (.iinc 9 (-1), 3) := by decide +kernel
theorem dX12_with_167 : decode cX12_with 167 = .ok (.goto (-66), 3) := by decide +kernel
theorem dX12_with_170 : decode cX12_with 170 = .ok (.lconst 0, 1) := by decide +kernel
theorem dX12_with_171 : decode cX12_with 171 = .ok (.lreturn, 1) := by decide +kernel
theorem dX12_greedy_0 : decode cX12_greedy 0 = .ok (.aload_n 0, 1) := by decide +kernel
theorem dX12_greedy_1 : decode cX12_greedy 1 = .ok (.iconst 0, 1) := by decide +kernel
theorem dX12_greedy_2 : decode cX12_greedy 2 = .ok (.putfield 96, 3) := by decide +kernel
theorem dX12_greedy_5 : decode cX12_greedy 5 = .ok (.iload_n 1, 1) := by decide +kernel
theorem dX12_greedy_6 : decode cX12_greedy 6 = .ok (.invokestatic 111, 3) := by decide +kernel
theorem dX12_greedy_9 : decode cX12_greedy 9 = .ok (.ifCond .ne 10, 3) := by decide +kernel
theorem dX12_greedy_12 : decode cX12_greedy 12 = .ok (.aload_n 0, 1) := by decide +kernel
theorem dX12_greedy_13 : decode cX12_greedy 13 = .ok (.iconst 1, 1) := by decide +kernel
theorem dX12_greedy_14 : decode cX12_greedy 14 = .ok (.invokevirtual 122, 3) := by decide +kernel
theorem dX12_greedy_17 : decode cX12_greedy 17 = .ok (.i2l, 1) := by decide +kernel
theorem dX12_greedy_18 : decode cX12_greedy 18 = .ok (.lreturn, 1) := by decide +kernel
theorem dX12_greedy_19 : decode cX12_greedy 19 = .ok (.lload_n 2, 1) := by decide +kernel
theorem dX12_greedy_20 : decode cX12_greedy 20 = .ok (.invokestatic 141, 3) := by decide +kernel
theorem dX12_greedy_23 : decode cX12_greedy 23 = .ok (.ifCond .ne 10, 3) := by decide +kernel
theorem dX12_greedy_26 : decode cX12_greedy 26 = .ok (.aload_n 0, 1) := by decide +kernel
theorem dX12_greedy_27 : decode cX12_greedy 27 = .ok (.iconst 2, 1) := by decide +kernel
theorem dX12_greedy_28 : decode cX12_greedy 28 = .ok (.invokevirtual 122, 3) := by decide +kernel
theorem dX12_greedy_31 : decode cX12_greedy 31 = .ok (.i2l, 1) := by decide +kernel
theorem dX12_greedy_32 : decode cX12_greedy 32 = .ok (.lreturn, 1) := by decide +kernel
theorem dX12_greedy_33 : decode cX12_greedy 33 = .ok (.lload_n 2, 1) := by decide +kernel
theorem dX12_greedy_34 : decode cX12_greedy 34 = .ok (.lstore 4, 2) := by decide +kernel
theorem dX12_greedy_36 : decode cX12_greedy 36 = .ok (.lconst 0, 1) := by decide +kernel
theorem dX12_greedy_37 : decode cX12_greedy 37 = .ok (.lstore 6, 2) := by decide +kernel
theorem dX12_greedy_39 : decode cX12_greedy 39 = .ok (.aload_n 0, 1) := by decide +kernel
theorem dX12_greedy_40 : decode cX12_greedy 40 = .ok (.getfield 9, 3) := by decide +kernel
theorem dX12_greedy_43 : decode cX12_greedy 43 = .ok (.iload_n 1, 1) := by decide +kernel
theorem dX12_greedy_44 : decode cX12_greedy 44 = .ok (.invokestatic 115, 3) := by decide +kernel
theorem dX12_greedy_47 : decode cX12_greedy 47 = .ok (.iaload, 1) := by decide +kernel
theorem dX12_greedy_48 : decode cX12_greedy 48 = .ok (.istore 8, 2) := by decide +kernel
theorem dX12_greedy_50 : decode cX12_greedy 50 = .ok (.iload 8, 2) := by decide +kernel
theorem dX12_greedy_52 : decode cX12_greedy 52 = .ok (.ifCond .le 42, 3) := by decide +kernel
theorem dX12_greedy_55 : decode cX12_greedy 55 = .ok (.aload_n 0, 1) := by decide +kernel
theorem dX12_greedy_56 : decode cX12_greedy 56 = .ok (.getfield 9, 3) := by decide +kernel
theorem dX12_greedy_59 : decode cX12_greedy 59 = .ok (.iload_n 1, 1) := by decide +kernel
theorem dX12_greedy_60 : decode cX12_greedy 60 = .ok (.invokestatic 115, 3) := by decide +kernel
theorem dX12_greedy_63 : decode cX12_greedy 63 = .ok (.iload 8, 2) := by decide +kernel
theorem dX12_greedy_65 : decode cX12_greedy 65 = .ok (.iadd, 1) := by decide +kernel
theorem dX12_greedy_66 : decode cX12_greedy 66 = .ok (.iaload, 1) := by decide +kernel
theorem dX12_greedy_67 : decode cX12_greedy 67 = .ok (.istore 9, 2) := by decide +kernel
theorem dX12_greedy_69 : decode cX12_greedy 69 = .ok (.lload 6, 2) := by decide +kernel
theorem dX12_greedy_71 : decode cX12_greedy 71 = .ok (.lload 4, 2) := by decide +kernel
theorem dX12_greedy_73 : decode cX12_greedy 73 = .ok (.iload 9, 2) := by decide +kernel
theorem dX12_greedy_75 : decode cX12_greedy 75 = .ok (.i2l, 1) := by decide +kernel
theorem dX12_greedy_76 : decode cX12_greedy 76 = .ok (.ldiv, 1) := by decide +kernel
theorem dX12_greedy_77 : decode cX12_greedy 77 = .ok (.ladd, 1) := by decide +kernel
theorem dX12_greedy_78 : decode cX12_greedy 78 = .ok (.lstore 6, 2) := by decide +kernel
theorem dX12_greedy_80 : decode cX12_greedy 80 = .ok (.lload 4, 2) := by decide +kernel
theorem dX12_greedy_82 : decode cX12_greedy 82 = .ok (.iload 9, 2) := by decide +kernel
theorem dX12_greedy_84 : decode cX12_greedy 84 = .ok (.i2l, 1) := by decide +kernel
theorem dX12_greedy_85 : decode cX12_greedy 85 = .ok (.lrem, 1) := by decide +kernel
theorem dX12_greedy_86 : decode cX12_greedy 86 = .ok (.lstore 4, 2) := by decide +kernel
theorem dX12_greedy_88 : decode cX12_greedy 88 = .ok (.iinc 8 (-1), 3) := by decide +kernel
theorem dX12_greedy_91 : decode cX12_greedy 91 = .ok (.goto (-41), 3) := by decide +kernel
theorem dX12_greedy_94 : decode cX12_greedy 94 = .ok (.lload 4, 2) := by decide +kernel
theorem dX12_greedy_96 : decode cX12_greedy 96 = .ok (.lconst 0, 1) := by decide +kernel
theorem dX12_greedy_97 : decode cX12_greedy 97 = .ok (.lcmp, 1) := by decide +kernel
theorem dX12_greedy_98 : decode cX12_greedy 98 = .ok (.ifCond .ne 8, 3) := by decide +kernel
theorem dX12_greedy_101 : decode cX12_greedy 101 = .ok (.lload 6, 2) := by decide +kernel
theorem dX12_greedy_103 : decode cX12_greedy 103 = .ok (.goto 6, 3) := by decide +kernel
theorem dX12_greedy_106 : decode cX12_greedy 106 = .ok (.ldc2_w 135, 3) := by decide +kernel
theorem dX12_greedy_109 : decode cX12_greedy 109 = .ok (.lreturn, 1) := by decide +kernel
theorem dX12_failure_0 : decode cX12_failure 0 = .ok (.aload_n 0, 1) := by decide +kernel
theorem dX12_failure_1 : decode cX12_failure 1 = .ok (.iload_n 1, 1) := by decide +kernel
theorem dX12_failure_2 : decode cX12_failure 2 = .ok (.invokevirtual 145, 3) := by decide +kernel
theorem dX12_failure_5 : decode cX12_failure 5 = .ok (.iconst 0, 1) := by decide +kernel
theorem dX12_failure_6 : decode cX12_failure 6 = .ok (.istore_n 2, 1) := by decide +kernel
theorem dX12_failure_7 : decode cX12_failure 7 = .ok (.iconst 1, 1) := by decide +kernel
theorem dX12_failure_8 : decode cX12_failure 8 = .ok (.istore_n 3, 1) := by decide +kernel
theorem dX12_failure_9 : decode cX12_failure 9 = .ok (.iload_n 3, 1) := by decide +kernel
theorem dX12_failure_10 : decode cX12_failure 10 = .ok (.ldc 125, 2) := by decide +kernel
theorem dX12_failure_12 : decode cX12_failure 12 = .ok (.if_icmp .gt 108, 3) := by decide +kernel
theorem dX12_failure_15 : decode cX12_failure 15 = .ok (.iload_n 2, 1) := by decide +kernel
theorem dX12_failure_16 : decode cX12_failure 16 = .ok (.aload_n 0, 1) := by decide +kernel
theorem dX12_failure_17 : decode cX12_failure 17 = .ok (.getfield 21, 3) := by decide +kernel
theorem dX12_failure_20 : decode cX12_failure 20 = .ok (.if_icmp .ge 19, 3) := by decide +kernel
theorem dX12_failure_23 : decode cX12_failure 23 = .ok (.aload_n 0, 1) := by decide +kernel
theorem dX12_failure_24 : decode cX12_failure 24 = .ok (.getfield 18, 3) := by decide +kernel
theorem dX12_failure_27 : decode cX12_failure 27 = .ok (.iload_n 2, 1) := by decide +kernel
theorem dX12_failure_28 : decode cX12_failure 28 = .ok (.iaload, 1) := by decide +kernel
theorem dX12_failure_29 : decode cX12_failure 29 = .ok (.iload_n 3, 1) := by decide +kernel
theorem dX12_failure_30 : decode cX12_failure 30 = .ok (.if_icmp .gt 9, 3) := by decide +kernel
theorem dX12_failure_33 : decode cX12_failure 33 = .ok (.iinc 2 1, 3) := by decide +kernel
theorem dX12_failure_36 : decode cX12_failure 36 = .ok (.goto (-21), 3) := by decide +kernel
theorem dX12_failure_39 : decode cX12_failure 39 = .ok (.aload_n 0, 1) := by decide +kernel
theorem dX12_failure_40 : decode cX12_failure 40 = .ok (.getfield 78, 3) := by decide +kernel
theorem dX12_failure_43 : decode cX12_failure 43 = .ok (.iload_n 3, 1) := by decide +kernel
theorem dX12_failure_44 : decode cX12_failure 44 = .ok (.iload_n 2, 1) := by decide +kernel
theorem dX12_failure_45 : decode cX12_failure 45 = .ok (.ifCond .ne 8, 3) := by decide +kernel
theorem dX12_failure_48 : decode cX12_failure 48 = .ok (.ldc 126, 2) := by decide +kernel
theorem dX12_failure_50 : decode cX12_failure 50 = .ok (.goto 25, 3) := by decide +kernel
theorem dX12_failure_53 : decode cX12_failure 53 = .ok (.ldc 126, 2) := by decide +kernel
theorem dX12_failure_55 : decode cX12_failure 55 = .ok (.aload_n 0, 1) := by decide +kernel
theorem dX12_failure_56 : decode cX12_failure 56 = .ok (.getfield 78, 3) := by decide +kernel
theorem dX12_failure_59 : decode cX12_failure 59 = .ok (.iload_n 3, 1) := by decide +kernel
theorem dX12_failure_60 : decode cX12_failure 60 = .ok (.aload_n 0, 1) := by decide +kernel
theorem dX12_failure_61 : decode cX12_failure 61 = .ok (.getfield 18, 3) := by decide +kernel
theorem dX12_failure_64 : decode cX12_failure 64 = .ok (.iload_n 2, 1) := by decide +kernel
theorem dX12_failure_65 : decode cX12_failure 65 = .ok (.iconst 1, 1) := by decide +kernel
theorem dX12_failure_66 : decode cX12_failure 66 = .ok (.isub, 1) := by decide +kernel
theorem dX12_failure_67 : decode cX12_failure 67 = .ok (.iaload, 1) := by decide +kernel
theorem dX12_failure_68 : decode cX12_failure 68 = .ok (.isub, 1) := by decide +kernel
theorem dX12_failure_69 : decode cX12_failure 69 = .ok (.iaload, 1) := by decide +kernel
theorem dX12_failure_70 : decode cX12_failure 70 = .ok (.iconst 1, 1) := by decide +kernel
theorem dX12_failure_71 : decode cX12_failure 71 = .ok (.iadd, 1) := by decide +kernel
theorem dX12_failure_72 : decode cX12_failure 72 = .ok (.invokestatic 157, 3) := by decide +kernel
theorem dX12_failure_75 : decode cX12_failure 75 = .ok (.iastore, 1) := by decide +kernel
theorem dX12_failure_76 : decode cX12_failure 76 = .ok (.aload_n 0, 1) := by decide +kernel
theorem dX12_failure_77 : decode cX12_failure 77 = .ok (.getfield 26, 3) := by decide +kernel
theorem dX12_failure_80 : decode cX12_failure 80 = .ok (.aload_n 0, 1) := by decide +kernel
theorem dX12_failure_81 : decode cX12_failure 81 = .ok (.getfield 21, 3) := by decide +kernel
theorem dX12_failure_84 : decode cX12_failure 84 = .ok (.aaload, 1) := by decide +kernel
theorem dX12_failure_85 : decode cX12_failure 85 = .ok (.iload_n 3, 1) := by decide +kernel
theorem dX12_failure_86 : decode cX12_failure 86 = .ok (.iaload, 1) := by decide +kernel
theorem dX12_failure_87 : decode cX12_failure 87 = .ok (.ldc 126, 2) := by decide +kernel
theorem dX12_failure_89 : decode cX12_failure 89 = .ok (.if_icmp .ge 25, 3) := by decide +kernel
theorem dX12_failure_92 : decode cX12_failure 92 = .ok (.aload_n 0, 1) := by decide +kernel
theorem dX12_failure_93 : decode cX12_failure 93 = .ok (.getfield 26, 3) := by decide +kernel
theorem dX12_failure_96 : decode cX12_failure 96 = .ok (.aload_n 0, 1) := by decide +kernel
theorem dX12_failure_97 : decode cX12_failure 97 = .ok (.getfield 21, 3) := by decide +kernel
theorem dX12_failure_100 : decode cX12_failure 100 = .ok (.aaload, 1) := by decide +kernel
theorem dX12_failure_101 : decode cX12_failure 101 = .ok (.iload_n 3, 1) := by decide +kernel
theorem dX12_failure_102 : decode cX12_failure 102 = .ok (.iaload, 1) := by decide +kernel
theorem dX12_failure_103 : decode cX12_failure 103 = .ok (.aload_n 0, 1) := by decide +kernel
theorem dX12_failure_104 : decode cX12_failure 104 = .ok (.getfield 78, 3) := by decide +kernel
theorem dX12_failure_107 : decode cX12_failure 107 = .ok (.iload_n 3, 1) := by decide +kernel
theorem dX12_failure_108 : decode cX12_failure 108 = .ok (.iaload, 1) := by decide +kernel
theorem dX12_failure_109 : decode cX12_failure 109 = .ok (.if_icmp .eq 5, 3) := by decide +kernel
theorem dX12_failure_112 : decode cX12_failure 112 = .ok (.iload_n 3, 1) := by decide +kernel
theorem dX12_failure_113 : decode cX12_failure 113 = .ok (.ireturn, 1) := by decide +kernel
theorem dX12_failure_114 : decode cX12_failure 114 = .ok (.iinc 3 1, 3) := by decide +kernel
theorem dX12_failure_117 : decode cX12_failure 117 = .ok (.goto (-108), 3) := by decide +kernel
theorem dX12_failure_120 : decode cX12_failure 120 = .ok (.iconst (-1), 1) := by decide +kernel
theorem dX12_failure_121 : decode cX12_failure 121 = .ok (.ireturn, 1) := by decide +kernel
theorem dX12_always_0 : decode cX12_always 0 = .ok (.aload_n 0, 1) := by decide +kernel
theorem dX12_always_1 : decode cX12_always 1 = .ok (.iconst 0, 1) := by decide +kernel
theorem dX12_always_2 : decode cX12_always 2 = .ok (.putfield 96, 3) := by decide +kernel
theorem dX12_always_5 : decode cX12_always 5 = .ok (.iload_n 1, 1) := by decide +kernel
theorem dX12_always_6 : decode cX12_always 6 = .ok (.invokestatic 111, 3) := by decide +kernel
theorem dX12_always_9 : decode cX12_always 9 = .ok (.ifCond .ne 11, 3) := by decide +kernel
theorem dX12_always_12 : decode cX12_always 12 = .ok (.aload_n 0, 1) := by decide +kernel
theorem dX12_always_13 : decode cX12_always 13 = .ok (.iconst 1, 1) := by decide +kernel
theorem dX12_always_14 : decode cX12_always 14 = .ok (.invokevirtual 122, 3) := by decide +kernel
theorem dX12_always_17 : decode cX12_always 17 = .ok (.pop, 1) := by decide +kernel
theorem dX12_always_18 : decode cX12_always 18 = .ok (.iconst 0, 1) := by decide +kernel
theorem dX12_always_19 : decode cX12_always 19 = .ok (.ireturn, 1) := by decide +kernel
theorem dX12_always_20 : decode cX12_always 20 = .ok (.aload_n 0, 1) := by decide +kernel
theorem dX12_always_21 : decode cX12_always 21 = .ok (.iload_n 1, 1) := by decide +kernel
theorem dX12_always_22 : decode cX12_always 22 = .ok (.invokevirtual 162, 3) := by decide +kernel
theorem dX12_always_25 : decode cX12_always 25 = .ok (.iconst (-1), 1) := by decide +kernel
theorem dX12_always_26 : decode cX12_always 26 = .ok (.if_icmp .ne 7, 3) := by decide +kernel
theorem dX12_always_29 : decode cX12_always 29 = .ok (.iconst 1, 1) := by decide +kernel
theorem dX12_always_30 : decode cX12_always 30 = .ok (.goto 4, 3) := by decide +kernel
theorem dX12_always_33 : decode cX12_always 33 = .ok (.iconst 0, 1) := by decide +kernel
theorem dX12_always_34 : decode cX12_always 34 = .ok (.ireturn, 1) := by decide +kernel
theorem dX12_fails_0 : decode cX12_fails 0 = .ok (.aload_n 0, 1) := by decide +kernel
theorem dX12_fails_1 : decode cX12_fails 1 = .ok (.iconst 0, 1) := by decide +kernel
theorem dX12_fails_2 : decode cX12_fails 2 = .ok (.putfield 96, 3) := by decide +kernel
theorem dX12_fails_5 : decode cX12_fails 5 = .ok (.iload_n 1, 1) := by decide +kernel
theorem dX12_fails_6 : decode cX12_fails 6 = .ok (.invokestatic 111, 3) := by decide +kernel
theorem dX12_fails_9 : decode cX12_fails 9 = .ok (.ifCond .ne 9, 3) := by decide +kernel
theorem dX12_fails_12 : decode cX12_fails 12 = .ok (.aload_n 0, 1) := by decide +kernel
theorem dX12_fails_13 : decode cX12_fails 13 = .ok (.iconst 1, 1) := by decide +kernel
theorem dX12_fails_14 : decode cX12_fails 14 = .ok (.invokevirtual 122, 3) := by decide +kernel
theorem dX12_fails_17 : decode cX12_fails 17 = .ok (.ireturn, 1) := by decide +kernel
theorem dX12_fails_18 : decode cX12_fails 18 = .ok (.aload_n 0, 1) := by decide +kernel
theorem dX12_fails_19 : decode cX12_fails 19 = .ok (.iload_n 1, 1) := by decide +kernel
theorem dX12_fails_20 : decode cX12_fails 20 = .ok (.invokevirtual 162, 3) := by decide +kernel
theorem dX12_fails_23 : decode cX12_fails 23 = .ok (.ireturn, 1) := by decide +kernel
theorem dX12_common_0 : decode cX12_common 0 = .ok (.iload_n 0, 1) := by decide +kernel
theorem dX12_common_1 : decode cX12_common 1 = .ok (.istore_n 2, 1) := by decide +kernel
theorem dX12_common_2 : decode cX12_common 2 = .ok (.iload_n 1, 1) := by decide +kernel
theorem dX12_common_3 : decode cX12_common 3 = .ok (.istore_n 3, 1) := by decide +kernel
theorem dX12_common_4 : decode cX12_common 4 = .ok (.iload_n 3, 1) := by decide +kernel
theorem dX12_common_5 : decode cX12_common 5 = .ok (.ifCond .eq 16, 3) := by decide +kernel
theorem dX12_common_8 : decode cX12_common 8 = .ok (.iload_n 2, 1) := by decide +kernel
theorem dX12_common_9 : decode cX12_common 9 = .ok (.iload_n 3, 1) := by decide +kernel
theorem dX12_common_10 : decode cX12_common 10 = .ok (.irem, 1) := by decide +kernel
theorem dX12_common_11 : decode cX12_common 11 = .ok (.istore 4, 2) := by decide +kernel
theorem dX12_common_13 : decode cX12_common 13 = .ok (.iload_n 3, 1) := by decide +kernel
theorem dX12_common_14 : decode cX12_common 14 = .ok (.istore_n 2, 1) := by decide +kernel
theorem dX12_common_15 : decode cX12_common 15 = .ok (.iload 4, 2) := by decide +kernel
theorem dX12_common_17 : decode cX12_common 17 = .ok (.istore_n 3, 1) := by decide +kernel
theorem dX12_common_18 : decode cX12_common 18 = .ok (.goto (-14), 3) := by decide +kernel
theorem dX12_common_21 : decode cX12_common 21 = .ok (.iload_n 2, 1) := by decide +kernel
theorem dX12_common_22 : decode cX12_common 22 = .ok (.ireturn, 1) := by decide +kernel
theorem dX12_divisorOf_0 : decode cX12_divisorOf 0 = .ok (.iconst 0, 1) := by decide +kernel
theorem dX12_divisorOf_1 : decode cX12_divisorOf 1 = .ok (.istore_n 2, 1) := by decide +kernel
theorem dX12_divisorOf_2 : decode cX12_divisorOf 2 = .ok (.iconst 1, 1) := by decide +kernel
theorem dX12_divisorOf_3 : decode cX12_divisorOf 3 = .ok (.istore_n 3, 1) := by decide +kernel
theorem dX12_divisorOf_4 : decode cX12_divisorOf 4 = .ok (.iload_n 3, 1) := by decide +kernel
theorem dX12_divisorOf_5 : decode cX12_divisorOf 5 = .ok (.aload_n 0, 1) := by decide +kernel
theorem dX12_divisorOf_6 : decode cX12_divisorOf 6 = .ok (.getfield 9, 3) := by decide +kernel
theorem dX12_divisorOf_9 : decode cX12_divisorOf 9 = .ok (.iload_n 1, 1) := by decide +kernel
theorem dX12_divisorOf_10 : decode cX12_divisorOf 10 = .ok (.invokestatic 115, 3) := by decide +kernel
theorem dX12_divisorOf_13 : decode cX12_divisorOf 13 = .ok (.iaload, 1) := by decide +kernel
theorem dX12_divisorOf_14 : decode cX12_divisorOf 14 = .ok (.if_icmp .gt 25, 3) := by decide +kernel
theorem dX12_divisorOf_17 : decode cX12_divisorOf 17 = .ok (.aload_n 0, 1) := by decide +kernel
theorem dX12_divisorOf_18 : decode cX12_divisorOf 18 = .ok (.getfield 9, 3) := by decide +kernel
theorem dX12_divisorOf_21 : decode cX12_divisorOf 21 = .ok (.iload_n 1, 1) := by decide +kernel
theorem dX12_divisorOf_22 : decode cX12_divisorOf 22 = .ok (.invokestatic 115, 3) := by decide +kernel
theorem dX12_divisorOf_25 : decode cX12_divisorOf 25 = .ok (.iload_n 3, 1) := by decide +kernel
theorem dX12_divisorOf_26 : decode cX12_divisorOf 26 = .ok (.iadd, 1) := by decide +kernel
theorem dX12_divisorOf_27 : decode cX12_divisorOf 27 = .ok (.iaload, 1) := by decide +kernel
theorem dX12_divisorOf_28 : decode cX12_divisorOf 28 = .ok (.iload_n 2, 1) := by decide +kernel
theorem dX12_divisorOf_29 : decode cX12_divisorOf 29 = .ok (.invokestatic 165, 3) := by decide +kernel
theorem dX12_divisorOf_32 : decode cX12_divisorOf 32 = .ok (.istore_n 2, 1) := by decide +kernel
theorem dX12_divisorOf_33 : decode cX12_divisorOf 33 = .ok (.iinc 3 1, 3) := by decide +kernel
theorem dX12_divisorOf_36 : decode cX12_divisorOf 36 = .ok (.goto (-32), 3) := by decide +kernel
theorem dX12_divisorOf_39 : decode cX12_divisorOf 39 = .ok (.iload_n 2, 1) := by decide +kernel
theorem dX12_divisorOf_40 : decode cX12_divisorOf 40 = .ok (.ireturn, 1) := by decide +kernel
theorem dX12_divisor_0 : decode cX12_divisor 0 = .ok (.aload_n 0, 1) := by decide +kernel
theorem dX12_divisor_1 : decode cX12_divisor 1 = .ok (.iconst 0, 1) := by decide +kernel
theorem dX12_divisor_2 : decode cX12_divisor 2 = .ok (.putfield 96, 3) := by decide +kernel
theorem dX12_divisor_5 : decode cX12_divisor 5 = .ok (.iload_n 1, 1) := by decide +kernel
theorem dX12_divisor_6 : decode cX12_divisor 6 = .ok (.invokestatic 111, 3) := by decide +kernel
theorem dX12_divisor_9 : decode cX12_divisor 9 = .ok (.ifCond .ne 9, 3) := by decide +kernel
theorem dX12_divisor_12 : decode cX12_divisor 12 = .ok (.aload_n 0, 1) := by decide +kernel
theorem dX12_divisor_13 : decode cX12_divisor 13 = .ok (.iconst 1, 1) := by decide +kernel
theorem dX12_divisor_14 : decode cX12_divisor 14 = .ok (.invokevirtual 122, 3) := by decide +kernel
theorem dX12_divisor_17 : decode cX12_divisor 17 = .ok (.ireturn, 1) := by decide +kernel
theorem dX12_divisor_18 : decode cX12_divisor 18 = .ok (.aload_n 0, 1) := by decide +kernel
theorem dX12_divisor_19 : decode cX12_divisor 19 = .ok (.iload_n 1, 1) := by decide +kernel
theorem dX12_divisor_20 : decode cX12_divisor 20 = .ok (.invokevirtual 168, 3) := by decide +kernel
theorem dX12_divisor_23 : decode cX12_divisor 23 = .ok (.ireturn, 1) := by decide +kernel
theorem dX12_isPaid_0 : decode cX12_isPaid 0 = .ok (.aload_n 0, 1) := by decide +kernel
theorem dX12_isPaid_1 : decode cX12_isPaid 1 = .ok (.getfield 26, 3) := by decide +kernel
theorem dX12_isPaid_4 : decode cX12_isPaid 4 = .ok (.aload_n 0, 1) := by decide +kernel
theorem dX12_isPaid_5 : decode cX12_isPaid 5 = .ok (.getfield 21, 3) := by decide +kernel
theorem dX12_isPaid_8 : decode cX12_isPaid 8 = .ok (.aaload, 1) := by decide +kernel
theorem dX12_isPaid_9 : decode cX12_isPaid 9 = .ok (.iload_n 1, 1) := by decide +kernel
theorem dX12_isPaid_10 : decode cX12_isPaid 10 = .ok (.iaload, 1) := by decide +kernel
theorem dX12_isPaid_11 : decode cX12_isPaid 11 = .ok (.ldc 126, 2) := by decide +kernel
theorem dX12_isPaid_13 : decode cX12_isPaid 13 = .ok (.if_icmp .ge 7, 3) := by decide +kernel
theorem dX12_isPaid_16 : decode cX12_isPaid 16 = .ok (.iconst 1, 1) := by decide +kernel
theorem dX12_isPaid_17 : decode cX12_isPaid 17 = .ok (.goto 4, 3) := by decide +kernel
theorem dX12_isPaid_20 : decode cX12_isPaid 20 = .ok (.iconst 0, 1) := by decide +kernel
theorem dX12_isPaid_21 : decode cX12_isPaid 21 = .ok (.ireturn, 1) := by decide +kernel
theorem dX12_gaps_0 : decode cX12_gaps 0 = .ok (.iconst 0, 1) := by decide +kernel
theorem dX12_gaps_1 : decode cX12_gaps 1 = .ok (.istore_n 1, 1) := by decide +kernel
theorem dX12_gaps_2 : decode cX12_gaps 2 = .ok (.iconst 1, 1) := by decide +kernel
theorem dX12_gaps_3 : decode cX12_gaps 3 = .ok (.istore_n 2, 1) := by decide +kernel
theorem dX12_gaps_4 : decode cX12_gaps 4 = .ok (.iload_n 2, 1) := by decide +kernel
theorem dX12_gaps_5 : decode cX12_gaps 5 = .ok (.ldc 125, 2) := by decide +kernel
theorem dX12_gaps_7 : decode cX12_gaps 7 = .ok (.if_icmp .gt 25, 3) := by decide +kernel
theorem dX12_gaps_10 : decode cX12_gaps 10 = .ok (.iload_n 1, 1) := by decide +kernel
theorem dX12_gaps_11 : decode cX12_gaps 11 = .ok (.aload_n 0, 1) := by decide +kernel
theorem dX12_gaps_12 : decode cX12_gaps 12 = .ok (.iload_n 2, 1) := by decide +kernel
theorem dX12_gaps_13 : decode cX12_gaps 13 = .ok (.invokevirtual 171, 3) := by decide +kernel
theorem dX12_gaps_16 : decode cX12_gaps 16 = .ok (.ifCond .eq 7, 3) := by decide +kernel
theorem dX12_gaps_19 : decode cX12_gaps 19 = .ok (.iconst 0, 1) := by decide +kernel
theorem dX12_gaps_20 : decode cX12_gaps 20 = .ok (.goto 4, 3) := by decide +kernel
theorem dX12_gaps_23 : decode cX12_gaps 23 = .ok (.iconst 1, 1) := by decide +kernel
theorem dX12_gaps_24 : decode cX12_gaps 24 = .ok (.iadd, 1) := by decide +kernel
theorem dX12_gaps_25 : decode cX12_gaps 25 = .ok (.istore_n 1, 1) := by decide +kernel
theorem dX12_gaps_26 : decode cX12_gaps 26 = .ok (.iinc 2 1, 3) := by decide +kernel
theorem dX12_gaps_29 : decode cX12_gaps 29 = .ok (.goto (-25), 3) := by decide +kernel
theorem dX12_gaps_32 : decode cX12_gaps 32 = .ok (.iload_n 1, 1) := by decide +kernel
theorem dX12_gaps_33 : decode cX12_gaps 33 = .ok (.ireturn, 1) := by decide +kernel
theorem dX12_lastGap_0 : decode cX12_lastGap 0 = .ok (.iconst (-1), 1) := by decide +kernel
theorem dX12_lastGap_1 : decode cX12_lastGap 1 = .ok (.istore_n 1, 1) := by decide +kernel
theorem dX12_lastGap_2 : decode cX12_lastGap 2 = .ok (.iconst 1, 1) := by decide +kernel
theorem dX12_lastGap_3 : decode cX12_lastGap 3 = .ok (.istore_n 2, 1) := by decide +kernel
theorem dX12_lastGap_4 : decode cX12_lastGap 4 = .ok (.iload_n 2, 1) := by decide +kernel
theorem dX12_lastGap_5 : decode cX12_lastGap 5 = .ok (.ldc 125, 2) := by decide +kernel
theorem dX12_lastGap_7 : decode cX12_lastGap 7 = .ok (.if_icmp .gt 19, 3) := by decide +kernel
theorem dX12_lastGap_10 : decode cX12_lastGap 10 = .ok (.aload_n 0, 1) := by decide +kernel
theorem dX12_lastGap_11 : decode cX12_lastGap 11 = .ok (.iload_n 2, 1) := by decide +kernel
theorem dX12_lastGap_12 : decode cX12_lastGap 12 = .ok (.invokevirtual 171, 3) := by decide +kernel
theorem dX12_lastGap_15 : decode cX12_lastGap 15 = .ok (.ifCond .ne 5, 3) := by decide +kernel
theorem dX12_lastGap_18 : decode cX12_lastGap 18 = .ok (.iload_n 2, 1) := by decide +kernel
theorem dX12_lastGap_19 : decode cX12_lastGap 19 = .ok (.istore_n 1, 1) := by decide +kernel
theorem dX12_lastGap_20 : decode cX12_lastGap 20 = .ok (.iinc 2 1, 3) := by decide +kernel
theorem dX12_lastGap_23 : decode cX12_lastGap 23 = .ok (.goto (-19), 3) := by decide +kernel
theorem dX12_lastGap_26 : decode cX12_lastGap 26 = .ok (.iload_n 1, 1) := by decide +kernel
theorem dX12_lastGap_27 : decode cX12_lastGap 27 = .ok (.ireturn, 1) := by decide +kernel
theorem dX12_many_0 : decode cX12_many 0 = .ok (.aload_n 0, 1) := by decide +kernel
theorem dX12_many_1 : decode cX12_many 1 = .ok (.iconst 0, 1) := by decide +kernel
theorem dX12_many_2 : decode cX12_many 2 = .ok (.putfield 96, 3) := by decide +kernel
theorem dX12_many_5 : decode cX12_many 5 = .ok (.iload_n 1, 1) := by decide +kernel
theorem dX12_many_6 : decode cX12_many 6 = .ok (.invokestatic 111, 3) := by decide +kernel
theorem dX12_many_9 : decode cX12_many 9 = .ok (.ifCond .ne 10, 3) := by decide +kernel
theorem dX12_many_12 : decode cX12_many 12 = .ok (.aload_n 0, 1) := by decide +kernel
theorem dX12_many_13 : decode cX12_many 13 = .ok (.iconst 1, 1) := by decide +kernel
theorem dX12_many_14 : decode cX12_many 14 = .ok (.invokevirtual 122, 3) := by decide +kernel
theorem dX12_many_17 : decode cX12_many 17 = .ok (.i2l, 1) := by decide +kernel
theorem dX12_many_18 : decode cX12_many 18 = .ok (.lreturn, 1) := by decide +kernel
theorem dX12_many_19 : decode cX12_many 19 = .ok (.aload_n 0, 1) := by decide +kernel
theorem dX12_many_20 : decode cX12_many 20 = .ok (.iload_n 1, 1) := by decide +kernel
theorem dX12_many_21 : decode cX12_many 21 = .ok (.invokevirtual 145, 3) := by decide +kernel
theorem dX12_many_24 : decode cX12_many 24 = .ok (.aload_n 0, 1) := by decide +kernel
theorem dX12_many_25 : decode cX12_many 25 = .ok (.iload_n 1, 1) := by decide +kernel
theorem dX12_many_26 : decode cX12_many 26 = .ok (.invokevirtual 168, 3) := by decide +kernel
theorem dX12_many_29 : decode cX12_many 29 = .ok (.iconst 1, 1) := by decide +kernel
theorem dX12_many_30 : decode cX12_many 30 = .ok (.if_icmp .ne 11, 3) := by decide +kernel
theorem dX12_many_33 : decode cX12_many 33 = .ok (.aload_n 0, 1) := by decide +kernel
theorem dX12_many_34 : decode cX12_many 34 = .ok (.invokevirtual 174, 3) := by decide +kernel
theorem dX12_many_37 : decode cX12_many 37 = .ok (.i2l, 1) := by decide +kernel
theorem dX12_many_38 : decode cX12_many 38 = .ok (.goto 6, 3) := by decide +kernel
theorem dX12_many_41 : decode cX12_many 41 = .ok (.ldc2_w 135, 3) := by decide +kernel
theorem dX12_many_44 : decode cX12_many 44 = .ok (.lreturn, 1) := by decide +kernel
theorem dX12_last_0 : decode cX12_last 0 = .ok (.aload_n 0, 1) := by decide +kernel
theorem dX12_last_1 : decode cX12_last 1 = .ok (.iconst 0, 1) := by decide +kernel
theorem dX12_last_2 : decode cX12_last 2 = .ok (.putfield 96, 3) := by decide +kernel
theorem dX12_last_5 : decode cX12_last 5 = .ok (.iload_n 1, 1) := by decide +kernel
theorem dX12_last_6 : decode cX12_last 6 = .ok (.invokestatic 111, 3) := by decide +kernel
theorem dX12_last_9 : decode cX12_last 9 = .ok (.ifCond .ne 9, 3) := by decide +kernel
theorem dX12_last_12 : decode cX12_last 12 = .ok (.aload_n 0, 1) := by decide +kernel
theorem dX12_last_13 : decode cX12_last 13 = .ok (.iconst 1, 1) := by decide +kernel
theorem dX12_last_14 : decode cX12_last 14 = .ok (.invokevirtual 122, 3) := by decide +kernel
theorem dX12_last_17 : decode cX12_last 17 = .ok (.ireturn, 1) := by decide +kernel
theorem dX12_last_18 : decode cX12_last 18 = .ok (.aload_n 0, 1) := by decide +kernel
theorem dX12_last_19 : decode cX12_last 19 = .ok (.iload_n 1, 1) := by decide +kernel
theorem dX12_last_20 : decode cX12_last 20 = .ok (.invokevirtual 145, 3) := by decide +kernel
theorem dX12_last_23 : decode cX12_last 23 = .ok (.aload_n 0, 1) := by decide +kernel
theorem dX12_last_24 : decode cX12_last 24 = .ok (.iload_n 1, 1) := by decide +kernel
theorem dX12_last_25 : decode cX12_last 25 = .ok (.invokevirtual 168, 3) := by decide +kernel
theorem dX12_last_28 : decode cX12_last 28 = .ok (.iconst 1, 1) := by decide +kernel
theorem dX12_last_29 : decode cX12_last 29 = .ok (.if_icmp .ne 10, 3) := by decide +kernel
theorem dX12_last_32 : decode cX12_last 32 = .ok (.aload_n 0, 1) := by decide +kernel
theorem dX12_last_33 : decode cX12_last 33 = .ok (.invokevirtual 177, 3) := by decide +kernel
theorem dX12_last_36 : decode cX12_last 36 = .ok (.goto 5, 3) := by decide +kernel
theorem dX12_last_39 : decode cX12_last 39 = .ok (.bipush (-2), 2) := by decide +kernel
theorem dX12_last_41 : decode cX12_last 41 = .ok (.ireturn, 1) := by decide +kernel
theorem dX12_gap_0 : decode cX12_gap 0 = .ok (.aload_n 0, 1) := by decide +kernel
theorem dX12_gap_1 : decode cX12_gap 1 = .ok (.iconst 0, 1) := by decide +kernel
theorem dX12_gap_2 : decode cX12_gap 2 = .ok (.putfield 96, 3) := by decide +kernel
theorem dX12_gap_5 : decode cX12_gap 5 = .ok (.iload_n 1, 1) := by decide +kernel
theorem dX12_gap_6 : decode cX12_gap 6 = .ok (.invokestatic 111, 3) := by decide +kernel
theorem dX12_gap_9 : decode cX12_gap 9 = .ok (.ifCond .ne 9, 3) := by decide +kernel
theorem dX12_gap_12 : decode cX12_gap 12 = .ok (.aload_n 0, 1) := by decide +kernel
theorem dX12_gap_13 : decode cX12_gap 13 = .ok (.iconst 1, 1) := by decide +kernel
theorem dX12_gap_14 : decode cX12_gap 14 = .ok (.invokevirtual 122, 3) := by decide +kernel
theorem dX12_gap_17 : decode cX12_gap 17 = .ok (.ireturn, 1) := by decide +kernel
theorem dX12_gap_18 : decode cX12_gap 18 = .ok (.iload_n 2, 1) := by decide +kernel
theorem dX12_gap_19 : decode cX12_gap 19 = .ok (.ifCond .lt 9, 3) := by decide +kernel
theorem dX12_gap_22 : decode cX12_gap 22 = .ok (.iload_n 2, 1) := by decide +kernel
theorem dX12_gap_23 : decode cX12_gap 23 = .ok (.ldc 180, 2) := by decide +kernel
theorem dX12_gap_25 : decode cX12_gap 25 = .ok (.if_icmp .le 9, 3) := by decide +kernel
theorem dX12_gap_28 : decode cX12_gap 28 = .ok (.aload_n 0, 1) := by decide +kernel
theorem dX12_gap_29 : decode cX12_gap 29 = .ok (.iconst 2, 1) := by decide +kernel
theorem dX12_gap_30 : decode cX12_gap 30 = .ok (.invokevirtual 122, 3) := by decide +kernel
theorem dX12_gap_33 : decode cX12_gap 33 = .ok (.ireturn, 1) := by decide +kernel
theorem dX12_gap_34 : decode cX12_gap 34 = .ok (.aload_n 0, 1) := by decide +kernel
theorem dX12_gap_35 : decode cX12_gap 35 = .ok (.iload_n 1, 1) := by decide +kernel
theorem dX12_gap_36 : decode cX12_gap 36 = .ok (.invokevirtual 145, 3) := by decide +kernel
theorem dX12_gap_39 : decode cX12_gap 39 = .ok (.iconst 0, 1) := by decide +kernel
theorem dX12_gap_40 : decode cX12_gap 40 = .ok (.istore_n 3, 1) := by decide +kernel
theorem dX12_gap_41 : decode cX12_gap 41 = .ok (.iconst 1, 1) := by decide +kernel
theorem dX12_gap_42 : decode cX12_gap 42 = .ok (.istore 4, 2) := by decide +kernel
theorem dX12_gap_44 : decode cX12_gap 44 = .ok (.iload 4, 2) := by decide +kernel
theorem dX12_gap_46 : decode cX12_gap 46 = .ok (.ldc 125, 2) := by decide +kernel
theorem dX12_gap_48 : decode cX12_gap 48 = .ok (.if_icmp .gt 32, 3) := by decide +kernel
theorem dX12_gap_51 : decode cX12_gap 51 = .ok (.aload_n 0, 1) := by decide +kernel
theorem dX12_gap_52 : decode cX12_gap 52 = .ok (.iload 4, 2) := by decide +kernel
theorem dX12_gap_54 : decode cX12_gap 54 = .ok (.invokevirtual 171, 3) := by decide +kernel
theorem dX12_gap_57 : decode cX12_gap 57 = .ok (.ifCond .eq 6, 3) := by decide +kernel
theorem dX12_gap_60 : decode cX12_gap 60 = .ok (.goto 14, 3) := by decide +kernel
theorem dX12_gap_63 : decode cX12_gap 63 = .ok (.iload_n 3, 1) := by decide +kernel
theorem dX12_gap_64 : decode cX12_gap 64 = .ok (.iload_n 2, 1) := by decide +kernel
theorem dX12_gap_65 : decode cX12_gap 65 = .ok (.if_icmp .ne 6, 3) := by decide +kernel
theorem dX12_gap_68 : decode cX12_gap 68 = .ok (.iload 4, 2) := by decide +kernel
theorem dX12_gap_70 : decode cX12_gap 70 = .ok (.ireturn, 1) := by decide +kernel
theorem dX12_gap_71 : decode cX12_gap 71 = .ok (.iinc 3 1, 3) := by decide +kernel
theorem dX12_gap_74 : decode cX12_gap 74 = .ok (.iinc 4 1, 3) := by decide +kernel
theorem dX12_gap_77 : decode cX12_gap 77 = .ok (.goto (-33), 3) := by decide +kernel
theorem dX12_gap_80 : decode cX12_gap 80 = .ok (.aload_n 0, 1) := by decide +kernel
theorem dX12_gap_81 : decode cX12_gap 81 = .ok (.iload_n 1, 1) := by decide +kernel
theorem dX12_gap_82 : decode cX12_gap 82 = .ok (.invokevirtual 168, 3) := by decide +kernel
theorem dX12_gap_85 : decode cX12_gap 85 = .ok (.istore 4, 2) := by decide +kernel
theorem dX12_gap_87 : decode cX12_gap 87 = .ok (.iload 4, 2) := by decide +kernel
theorem dX12_gap_89 : decode cX12_gap 89 = .ok (.iconst 1, 1) := by decide +kernel
theorem dX12_gap_90 : decode cX12_gap 90 = .ok (.if_icmp .ne 5, 3) := by decide +kernel
theorem dX12_gap_93 : decode cX12_gap 93 = .ok (.iconst (-1), 1) := by decide +kernel
theorem dX12_gap_94 : decode cX12_gap 94 = .ok (.ireturn, 1) := by decide +kernel
theorem dX12_gap_95 : decode cX12_gap 95 = .ok (.ldc 125, 2) := by decide +kernel
theorem dX12_gap_97 : decode cX12_gap 97 = .ok (.istore 5, 2) := by decide +kernel
theorem dX12_gap_99 : decode cX12_gap 99 = .ok (.iload_n 3, 1) := by decide +kernel
theorem dX12_gap_100 : decode cX12_gap 100 = .ok (.iload_n 2, 1) := by decide +kernel
theorem dX12_gap_101 : decode cX12_gap 101 = .ok (.if_icmp .gt 25, 3) := by decide +kernel
theorem dX12_gap_104 : decode cX12_gap 104 = .ok (.iinc 5 1, 3) := by decide +kernel
theorem dX12_gap_107 : decode cX12_gap 107 = .ok (.iload 4, 2) := by decide +kernel
theorem dX12_gap_109 : decode cX12_gap 109 = .ok (.ifCond .eq 11, 3) := by decide +kernel
theorem dX12_gap_112 : decode cX12_gap 112 = .ok (.iload 5, 2) := by decide +kernel
theorem dX12_gap_114 : decode cX12_gap 114 = .ok (.iload 4, 2) := by decide +kernel
theorem dX12_gap_116 : decode cX12_gap 116 = .ok (.irem, 1) := by decide +kernel
theorem dX12_gap_117 : decode cX12_gap 117 = .ok (.ifCond .eq (-18), 3) := by decide +kernel
theorem dX12_gap_120 : decode cX12_gap 120 = .ok (.iinc 3 1, 3) := by decide +kernel
theorem dX12_gap_123 : decode cX12_gap 123 = .ok (.goto (-24), 3) := by decide +kernel
theorem dX12_gap_126 : decode cX12_gap 126 = .ok (.iload 5, 2) := by decide +kernel
theorem dX12_gap_128 : decode cX12_gap 128 = .ok (.ireturn, 1) := by decide +kernel
theorem dX12_rest_0 : decode cX12_rest 0 = .ok (.aload_n 0, 1) := by decide +kernel
theorem dX12_rest_1 : decode cX12_rest 1 = .ok (.iconst 0, 1) := by decide +kernel
theorem dX12_rest_2 : decode cX12_rest 2 = .ok (.putfield 96, 3) := by decide +kernel
theorem dX12_rest_5 : decode cX12_rest 5 = .ok (.iload_n 1, 1) := by decide +kernel
theorem dX12_rest_6 : decode cX12_rest 6 = .ok (.invokestatic 111, 3) := by decide +kernel
theorem dX12_rest_9 : decode cX12_rest 9 = .ok (.ifCond .ne 9, 3) := by decide +kernel
theorem dX12_rest_12 : decode cX12_rest 12 = .ok (.aload_n 0, 1) := by decide +kernel
theorem dX12_rest_13 : decode cX12_rest 13 = .ok (.iconst 1, 1) := by decide +kernel
theorem dX12_rest_14 : decode cX12_rest 14 = .ok (.invokevirtual 122, 3) := by decide +kernel
theorem dX12_rest_17 : decode cX12_rest 17 = .ok (.ireturn, 1) := by decide +kernel
theorem dX12_rest_18 : decode cX12_rest 18 = .ok (.aload_n 0, 1) := by decide +kernel
theorem dX12_rest_19 : decode cX12_rest 19 = .ok (.getfield 9, 3) := by decide +kernel
theorem dX12_rest_22 : decode cX12_rest 22 = .ok (.iload_n 1, 1) := by decide +kernel
theorem dX12_rest_23 : decode cX12_rest 23 = .ok (.invokestatic 115, 3) := by decide +kernel
theorem dX12_rest_26 : decode cX12_rest 26 = .ok (.iaload, 1) := by decide +kernel
theorem dX12_rest_27 : decode cX12_rest 27 = .ok (.ifCond .eq 22, 3) := by decide +kernel
theorem dX12_rest_30 : decode cX12_rest 30 = .ok (.iload_n 2, 1) := by decide +kernel
theorem dX12_rest_31 : decode cX12_rest 31 = .ok (.ifCond .lt 18, 3) := by decide +kernel
theorem dX12_rest_34 : decode cX12_rest 34 = .ok (.iload_n 2, 1) := by decide +kernel
theorem dX12_rest_35 : decode cX12_rest 35 = .ok (.aload_n 0, 1) := by decide +kernel
theorem dX12_rest_36 : decode cX12_rest 36 = .ok (.getfield 9, 3) := by decide +kernel
theorem dX12_rest_39 : decode cX12_rest 39 = .ok (.iload_n 1, 1) := by decide +kernel
theorem dX12_rest_40 : decode cX12_rest 40 = .ok (.invokestatic 115, 3) := by decide +kernel
theorem dX12_rest_43 : decode cX12_rest 43 = .ok (.iconst 1, 1) := by decide +kernel
theorem dX12_rest_44 : decode cX12_rest 44 = .ok (.iadd, 1) := by decide +kernel
theorem dX12_rest_45 : decode cX12_rest 45 = .ok (.iaload, 1) := by decide +kernel
theorem dX12_rest_46 : decode cX12_rest 46 = .ok (.if_icmp .lt 9, 3) := by decide +kernel
theorem dX12_rest_49 : decode cX12_rest 49 = .ok (.aload_n 0, 1) := by decide +kernel
theorem dX12_rest_50 : decode cX12_rest 50 = .ok (.iconst 2, 1) := by decide +kernel
theorem dX12_rest_51 : decode cX12_rest 51 = .ok (.invokevirtual 122, 3) := by decide +kernel
theorem dX12_rest_54 : decode cX12_rest 54 = .ok (.ireturn, 1) := by decide +kernel
theorem dX12_rest_55 : decode cX12_rest 55 = .ok (.aload_n 0, 1) := by decide +kernel
theorem dX12_rest_56 : decode cX12_rest 56 = .ok (.iload_n 1, 1) := by decide +kernel
theorem dX12_rest_57 : decode cX12_rest 57 = .ok (.invokevirtual 145, 3) := by decide +kernel
theorem dX12_rest_60 : decode cX12_rest 60 = .ok (.iload_n 2, 1) := by decide +kernel
theorem dX12_rest_61 : decode cX12_rest 61 = .ok (.istore_n 3, 1) := by decide +kernel
theorem dX12_rest_62 : decode cX12_rest 62 = .ok (.iload_n 3, 1) := by decide +kernel
theorem dX12_rest_63 : decode cX12_rest 63 = .ok (.ldc 125, 2) := by decide +kernel
theorem dX12_rest_65 : decode cX12_rest 65 = .ok (.if_icmp .gt 25, 3) := by decide +kernel
theorem dX12_rest_68 : decode cX12_rest 68 = .ok (.aload_n 0, 1) := by decide +kernel
theorem dX12_rest_69 : decode cX12_rest 69 = .ok (.iload_n 3, 1) := by decide +kernel
theorem dX12_rest_70 : decode cX12_rest 70 = .ok (.invokevirtual 171, 3) := by decide +kernel
theorem dX12_rest_73 : decode cX12_rest 73 = .ok (.ifCond .eq 5, 3) := by decide +kernel
theorem dX12_rest_76 : decode cX12_rest 76 = .ok (.iload_n 3, 1) := by decide +kernel
theorem dX12_rest_77 : decode cX12_rest 77 = .ok (.ireturn, 1) := by decide +kernel
theorem dX12_rest_78 : decode cX12_rest 78 = .ok (.iload_n 3, 1) := by decide +kernel
theorem dX12_rest_79 : decode cX12_rest 79 = .ok (.aload_n 0, 1) := by decide +kernel
theorem dX12_rest_80 : decode cX12_rest 80 = .ok (.getfield 18, 3) := by decide +kernel
theorem dX12_rest_83 : decode cX12_rest 83 = .ok (.iconst 0, 1) := by decide +kernel
theorem dX12_rest_84 : decode cX12_rest 84 = .ok (.iaload, 1) := by decide +kernel
theorem dX12_rest_85 : decode cX12_rest 85 = .ok (.iadd, 1) := by decide +kernel
theorem dX12_rest_86 : decode cX12_rest 86 = .ok (.istore_n 3, 1) := by decide +kernel
theorem dX12_rest_87 : decode cX12_rest 87 = .ok (.goto (-25), 3) := by decide +kernel
theorem dX12_rest_90 : decode cX12_rest 90 = .ok (.iconst (-1), 1) := by decide +kernel
theorem dX12_rest_91 : decode cX12_rest 91 = .ok (.ireturn, 1) := by decide +kernel
theorem dX12_mirror_0 : decode cX12_mirror 0 = .ok (.aload_n 0, 1) := by decide +kernel
theorem dX12_mirror_1 : decode cX12_mirror 1 = .ok (.iconst 0, 1) := by decide +kernel
theorem dX12_mirror_2 : decode cX12_mirror 2 = .ok (.putfield 96, 3) := by decide +kernel
theorem dX12_mirror_5 : decode cX12_mirror 5 = .ok (.iload_n 1, 1) := by decide +kernel
theorem dX12_mirror_6 : decode cX12_mirror 6 = .ok (.invokestatic 111, 3) := by decide +kernel
theorem dX12_mirror_9 : decode cX12_mirror 9 = .ok (.ifCond .ne 11, 3) := by decide +kernel
theorem dX12_mirror_12 : decode cX12_mirror 12 = .ok (.aload_n 0, 1) := by decide +kernel
theorem dX12_mirror_13 : decode cX12_mirror 13 = .ok (.iconst 1, 1) := by decide +kernel
theorem dX12_mirror_14 : decode cX12_mirror 14 = .ok (.invokevirtual 122, 3) := by decide +kernel
theorem dX12_mirror_17 : decode cX12_mirror 17 = .ok (.pop, 1) := by decide +kernel
theorem dX12_mirror_18 : decode cX12_mirror 18 = .ok (.iconst 0, 1) := by decide +kernel
theorem dX12_mirror_19 : decode cX12_mirror 19 = .ok (.ireturn, 1) := by decide +kernel
theorem dX12_mirror_20 : decode cX12_mirror 20 = .ok (.aload_n 0, 1) := by decide +kernel
theorem dX12_mirror_21 : decode cX12_mirror 21 = .ok (.iload_n 1, 1) := by decide +kernel
theorem dX12_mirror_22 : decode cX12_mirror 22 = .ok (.invokevirtual 145, 3) := by decide +kernel
theorem dX12_mirror_25 : decode cX12_mirror 25 = .ok (.aload_n 0, 1) := by decide +kernel
theorem dX12_mirror_26 : decode cX12_mirror 26 = .ok (.iload_n 1, 1) := by decide +kernel
theorem dX12_mirror_27 : decode cX12_mirror 27 = .ok (.invokevirtual 168, 3) := by decide +kernel
theorem dX12_mirror_30 : decode cX12_mirror 30 = .ok (.iconst 1, 1) := by decide +kernel
theorem dX12_mirror_31 : decode cX12_mirror 31 = .ok (.if_icmp .ne 10, 3) := by decide +kernel
theorem dX12_mirror_34 : decode cX12_mirror 34 = .ok (.aload_n 0, 1) := by decide +kernel
theorem dX12_mirror_35 : decode cX12_mirror 35 = .ok (.invokevirtual 177, 3) := by decide +kernel
theorem dX12_mirror_38 : decode cX12_mirror 38 = .ok (.goto 4, 3) := by decide +kernel
theorem dX12_mirror_41 : decode cX12_mirror 41 = .ok (.iconst (-1), 1) := by decide +kernel
theorem dX12_mirror_42 : decode cX12_mirror 42 = .ok (.istore_n 2, 1) := by decide +kernel
theorem dX12_mirror_43 : decode cX12_mirror 43 = .ok (.iload_n 2, 1) := by decide +kernel
theorem dX12_mirror_44 : decode cX12_mirror 44 = .ok (.ifCond .lt 7, 3) := by decide +kernel
theorem dX12_mirror_47 : decode cX12_mirror 47 = .ok (.iconst 1, 1) := by decide +kernel
theorem dX12_mirror_48 : decode cX12_mirror 48 = .ok (.goto 4, 3) := by decide +kernel
theorem dX12_mirror_51 : decode cX12_mirror 51 = .ok (.iconst 0, 1) := by decide +kernel
theorem dX12_mirror_52 : decode cX12_mirror 52 = .ok (.istore_n 3, 1) := by decide +kernel
theorem dX12_mirror_53 : decode cX12_mirror 53 = .ok (.iconst 0, 1) := by decide +kernel
theorem dX12_mirror_54 : decode cX12_mirror 54 = .ok (.istore 4, 2) := by decide +kernel
theorem dX12_mirror_56 : decode cX12_mirror 56 = .ok (.iload 4, 2) := by decide +kernel
theorem dX12_mirror_58 : decode cX12_mirror 58 = .ok (.iload_n 2, 1) := by decide +kernel
theorem dX12_mirror_59 : decode cX12_mirror 59 = .ok (.if_icmp .gt 36, 3) := by decide +kernel
theorem dX12_mirror_62 : decode cX12_mirror 62 = .ok (.iload_n 3, 1) := by decide +kernel
theorem dX12_mirror_63 : decode cX12_mirror 63 = .ok (.ifCond .eq 32, 3) := by decide +kernel
theorem dX12_mirror_66 : decode cX12_mirror 66 = .ok (.aload_n 0, 1) := by decide +kernel
theorem dX12_mirror_67 : decode cX12_mirror 67 = .ok (.iload 4, 2) := by decide +kernel
theorem dX12_mirror_69 : decode cX12_mirror 69 = .ok (.invokevirtual 171, 3) := by decide +kernel
theorem dX12_mirror_72 : decode cX12_mirror 72 = .ok (.aload_n 0, 1) := by decide +kernel
theorem dX12_mirror_73 : decode cX12_mirror 73 = .ok (.iload_n 2, 1) := by decide +kernel
theorem dX12_mirror_74 : decode cX12_mirror 74 = .ok (.iload 4, 2) := by decide +kernel
theorem dX12_mirror_76 : decode cX12_mirror 76 = .ok (.isub, 1) := by decide +kernel
theorem dX12_mirror_77 : decode cX12_mirror 77 = .ok (.invokevirtual 171, 3) := by decide +kernel
theorem dX12_mirror_80 : decode cX12_mirror 80 = .ok (.if_icmp .eq 7, 3) := by decide +kernel
theorem dX12_mirror_83 : decode cX12_mirror 83 = .ok (.iconst 1, 1) := by decide +kernel
theorem dX12_mirror_84 : decode cX12_mirror 84 = .ok (.goto 4, 3) := by decide +kernel
theorem dX12_mirror_87 : decode cX12_mirror 87 = .ok (.iconst 0, 1) := by decide +kernel
theorem dX12_mirror_88 : decode cX12_mirror 88 = .ok (.istore_n 3, 1) := by decide +kernel
theorem dX12_mirror_89 : decode cX12_mirror 89 = .ok (.iinc 4 1, 3) := by decide +kernel
theorem dX12_mirror_92 : decode cX12_mirror 92 = .ok (.goto (-36), 3) := by decide +kernel
theorem dX12_mirror_95 : decode cX12_mirror 95 = .ok (.iload_n 3, 1) := by decide +kernel
theorem dX12_mirror_96 : decode cX12_mirror 96 = .ok (.ireturn, 1) := by decide +kernel
theorem dX12_keepNeeded_0 : decode cX12_keepNeeded 0 = .ok (.iconst 0, 1) := by decide +kernel
theorem dX12_keepNeeded_1 : decode cX12_keepNeeded 1 = .ok (.istore_n 1, 1) := by decide +kernel
theorem dX12_keepNeeded_2 : decode cX12_keepNeeded 2 = .ok (.iload_n 1, 1) := by decide +kernel
theorem dX12_keepNeeded_3 : decode cX12_keepNeeded 3 = .ok (.sipush 300, 3) := by decide +kernel
theorem dX12_keepNeeded_6 : decode cX12_keepNeeded 6 = .ok (.if_icmp .gt 24, 3) := by decide +kernel
theorem dX12_keepNeeded_9 : decode cX12_keepNeeded 9 = .ok (.aload_n 0, 1) := by decide +kernel
theorem dX12_keepNeeded_10 : decode cX12_keepNeeded 10 = .ok (.getfield 81, 3) := by decide +kernel
theorem dX12_keepNeeded_13 : decode cX12_keepNeeded 13 = .ok (.iload_n 1, 1) := by decide +kernel
theorem dX12_keepNeeded_14 : decode cX12_keepNeeded 14 = .ok (.iload_n 1, 1) := by decide +kernel
theorem dX12_keepNeeded_15 : decode cX12_keepNeeded 15 = .ok (.ifCond .ne 7, 3) := by decide +kernel
theorem dX12_keepNeeded_18 : decode cX12_keepNeeded 18 = .ok (.iconst 1, 1) := by decide +kernel
theorem dX12_keepNeeded_19 : decode cX12_keepNeeded 19 = .ok (.goto 4, 3) := by decide +kernel
theorem dX12_keepNeeded_22 : decode cX12_keepNeeded 22 = .ok (.iconst 0, 1) := by decide +kernel
theorem dX12_keepNeeded_23 : decode cX12_keepNeeded 23 = .ok (.bastore, 1) := by decide +kernel
theorem dX12_keepNeeded_24 : decode cX12_keepNeeded 24 = .ok (.iinc 1 1, 3) := by decide +kernel
theorem dX12_keepNeeded_27 : decode cX12_keepNeeded 27 = .ok (.goto (-25), 3) := by decide +kernel
theorem dX12_keepNeeded_30 : decode cX12_keepNeeded 30 = .ok (.iconst 0, 1) := by decide +kernel
theorem dX12_keepNeeded_31 : decode cX12_keepNeeded 31 = .ok (.istore_n 1, 1) := by decide +kernel
theorem dX12_keepNeeded_32 : decode cX12_keepNeeded 32 = .ok (.iconst 0, 1) := by decide +kernel
theorem dX12_keepNeeded_33 : decode cX12_keepNeeded 33 = .ok (.istore_n 2, 1) := by decide +kernel
theorem dX12_keepNeeded_34 : decode cX12_keepNeeded 34 = .ok (.iload_n 2, 1) := by decide +kernel
theorem dX12_keepNeeded_35 : decode cX12_keepNeeded 35 = .ok (.aload_n 0, 1) := by decide +kernel
theorem dX12_keepNeeded_36 : decode cX12_keepNeeded 36 = .ok (.getfield 181, 3) := by decide +kernel
theorem dX12_keepNeeded_39 : decode cX12_keepNeeded 39 = .ok (.if_icmp .ge 89, 3) := by decide +kernel
theorem dX12_keepNeeded_42 : decode cX12_keepNeeded 42 = .ok (.aload_n 0, 1) := by decide +kernel
theorem dX12_keepNeeded_43 : decode cX12_keepNeeded 43 = .ok (.getfield 45, 3) := by decide +kernel
theorem dX12_keepNeeded_46 : decode cX12_keepNeeded 46 = .ok (.iload_n 2, 1) := by decide +kernel
theorem dX12_keepNeeded_47 : decode cX12_keepNeeded 47 = .ok (.iaload, 1) := by decide +kernel
theorem dX12_keepNeeded_48 : decode cX12_keepNeeded 48 = .ok (.istore_n 3, 1) := by decide +kernel
theorem dX12_keepNeeded_49 : decode cX12_keepNeeded 49 = .ok (.aload_n 0, 1) := by decide +kernel
theorem dX12_keepNeeded_50 : decode cX12_keepNeeded 50 = .ok (.getfield 81, 3) := by decide +kernel
theorem dX12_keepNeeded_53 : decode cX12_keepNeeded 53 = .ok (.iload_n 3, 1) := by decide +kernel
theorem dX12_keepNeeded_54 : decode cX12_keepNeeded 54 = .ok (.baload, 1) := by decide +kernel
theorem dX12_keepNeeded_55 : decode cX12_keepNeeded 55 = .ok (.ifCond .eq 6, 3) := by decide +kernel
theorem dX12_keepNeeded_58 : decode cX12_keepNeeded 58 = .ok (.goto 64, 3) := by decide +kernel
theorem dX12_keepNeeded_61 : decode cX12_keepNeeded 61 = .ok (.aload_n 0, 1) := by decide +kernel
theorem dX12_keepNeeded_62 : decode cX12_keepNeeded 62 = .ok (.getfield 45, 3) := by decide +kernel
theorem dX12_keepNeeded_65 : decode cX12_keepNeeded 65 = .ok (.iload_n 1, 1) := by decide +kernel
theorem dX12_keepNeeded_66 : decode cX12_keepNeeded 66 = .ok (.iload_n 3, 1) := by decide +kernel
theorem dX12_keepNeeded_67 : decode cX12_keepNeeded 67 = .ok (.iastore, 1) := by decide +kernel
theorem dX12_keepNeeded_68 : decode cX12_keepNeeded 68 = .ok (.iinc 1 1, 3) := by decide +kernel
theorem dX12_keepNeeded_71 : decode cX12_keepNeeded 71 = .ok (.iload_n 3, 1) := by decide +kernel
theorem dX12_keepNeeded_72 : decode cX12_keepNeeded 72 = .ok (.istore 4, 2) := by decide +kernel
theorem dX12_keepNeeded_74 : decode cX12_keepNeeded 74 = .ok (.iload 4, 2) := by decide +kernel
theorem dX12_keepNeeded_76 : decode cX12_keepNeeded 76 = .ok (.sipush 300, 3) := by decide +kernel
theorem dX12_keepNeeded_79 : decode cX12_keepNeeded 79 = .ok (.if_icmp .gt 43, 3) := by decide +kernel
theorem dX12_keepNeeded_82 : decode cX12_keepNeeded 82 = .ok (.aload_n 0, 1) := by decide +kernel
theorem dX12_keepNeeded_83 : decode cX12_keepNeeded 83 = .ok (.getfield 81, 3) := by decide +kernel
theorem dX12_keepNeeded_86 : decode cX12_keepNeeded 86 = .ok (.iload 4, 2) := by decide +kernel
theorem dX12_keepNeeded_88 : decode cX12_keepNeeded 88 = .ok (.aload_n 0, 1) := by decide +kernel
theorem dX12_keepNeeded_89 : decode cX12_keepNeeded 89 = .ok (.getfield 81, 3) := by decide +kernel
theorem dX12_keepNeeded_92 : decode cX12_keepNeeded 92 = .ok (.iload 4, 2) := by decide +kernel
theorem dX12_keepNeeded_94 : decode cX12_keepNeeded 94 = .ok (.baload, 1) := by decide +kernel
theorem dX12_keepNeeded_95 : decode cX12_keepNeeded 95 = .ok (.ifCond .ne 15, 3) := by decide +kernel
theorem dX12_keepNeeded_98 : decode cX12_keepNeeded 98 = .ok (.aload_n 0, 1) := by decide +kernel
theorem dX12_keepNeeded_99 : decode cX12_keepNeeded 99 = .ok (.getfield 81, 3) := by decide +kernel
theorem dX12_keepNeeded_102 : decode cX12_keepNeeded 102 = .ok (.iload 4, 2) := by decide +kernel
theorem dX12_keepNeeded_104 : decode cX12_keepNeeded 104 = .ok (.iload_n 3, 1) := by decide +kernel
theorem dX12_keepNeeded_105 : decode cX12_keepNeeded 105 = .ok (.isub, 1) := by decide +kernel
theorem dX12_keepNeeded_106 : decode cX12_keepNeeded 106 = .ok (.baload, 1) := by decide +kernel
theorem dX12_keepNeeded_107 : decode cX12_keepNeeded 107 = .ok (.ifCond .eq 7, 3) := by decide +kernel
theorem dX12_keepNeeded_110 : decode cX12_keepNeeded 110 = .ok (.iconst 1, 1) := by decide +kernel
theorem dX12_keepNeeded_111 : decode cX12_keepNeeded 111 = .ok (.goto 4, 3) := by decide +kernel
theorem dX12_keepNeeded_114 : decode cX12_keepNeeded 114 = .ok (.iconst 0, 1) := by decide +kernel
theorem dX12_keepNeeded_115 : decode cX12_keepNeeded 115 = .ok (.bastore, 1) := by decide +kernel
theorem dX12_keepNeeded_116 : decode cX12_keepNeeded 116 = .ok (.iinc 4 1, 3) := by decide +kernel
theorem dX12_keepNeeded_119 : decode cX12_keepNeeded 119 = .ok (.goto (-45), 3) := by decide +kernel
theorem dX12_keepNeeded_122 : decode cX12_keepNeeded 122 = .ok (.iinc 2 1, 3) := by decide +kernel
theorem dX12_keepNeeded_125 : decode cX12_keepNeeded 125 = .ok (.goto (-91), 3) := by decide +kernel
theorem dX12_keepNeeded_128 : decode cX12_keepNeeded 128 = .ok (.aload_n 0, 1) := by decide +kernel
theorem dX12_keepNeeded_129 : decode cX12_keepNeeded 129 = .ok (.iload_n 1, 1) := by decide +kernel
theorem dX12_keepNeeded_130 : decode cX12_keepNeeded 130 = .ok (.putfield 181, 3) := by decide +kernel
theorem dX12_keepNeeded_133 : decode cX12_keepNeeded 133 = .ok (.return_, 1) := by decide +kernel
theorem dX12_take_0 : decode cX12_take 0 = .ok (.aload_n 0, 1) := by decide +kernel
theorem dX12_take_1 : decode cX12_take 1 = .ok (.aload_n 0, 1) := by decide +kernel
theorem dX12_take_2 : decode cX12_take 2 = .ok (.getfield 9, 3) := by decide +kernel
theorem dX12_take_5 : decode cX12_take 5 = .ok (.iload_n 1, 1) := by decide +kernel
theorem dX12_take_6 : decode cX12_take 6 = .ok (.invokestatic 115, 3) := by decide +kernel
theorem dX12_take_9 : decode cX12_take 9 = .ok (.iaload, 1) := by decide +kernel
theorem dX12_take_10 : decode cX12_take 10 = .ok (.putfield 181, 3) := by decide +kernel
theorem dX12_take_13 : decode cX12_take 13 = .ok (.iconst 0, 1) := by decide +kernel
theorem dX12_take_14 : decode cX12_take 14 = .ok (.istore_n 2, 1) := by decide +kernel
theorem dX12_take_15 : decode cX12_take 15 = .ok (.iload_n 2, 1) := by decide +kernel
theorem dX12_take_16 : decode cX12_take 16 = .ok (.aload_n 0, 1) := by decide +kernel
theorem dX12_take_17 : decode cX12_take 17 = .ok (.getfield 181, 3) := by decide +kernel
theorem dX12_take_20 : decode cX12_take 20 = .ok (.if_icmp .ge 28, 3) := by decide +kernel
theorem dX12_take_23 : decode cX12_take 23 = .ok (.aload_n 0, 1) := by decide +kernel
theorem dX12_take_24 : decode cX12_take 24 = .ok (.getfield 45, 3) := by decide +kernel
theorem dX12_take_27 : decode cX12_take 27 = .ok (.iload_n 2, 1) := by decide +kernel
theorem dX12_take_28 : decode cX12_take 28 = .ok (.aload_n 0, 1) := by decide +kernel
theorem dX12_take_29 : decode cX12_take 29 = .ok (.getfield 9, 3) := by decide +kernel
theorem dX12_take_32 : decode cX12_take 32 = .ok (.iload_n 1, 1) := by decide +kernel
theorem dX12_take_33 : decode cX12_take 33 = .ok (.invokestatic 115, 3) := by decide +kernel
theorem dX12_take_36 : decode cX12_take 36 = .ok (.iconst 1, 1) := by decide +kernel
theorem dX12_take_37 : decode cX12_take 37 = .ok (.iadd, 1) := by decide +kernel
theorem dX12_take_38 : decode cX12_take 38 = .ok (.iload_n 2, 1) := by decide +kernel
theorem dX12_take_39 : decode cX12_take 39 = .ok (.iadd, 1) := by decide +kernel
theorem dX12_take_40 : decode cX12_take 40 = .ok (.iaload, 1) := by decide +kernel
theorem dX12_take_41 : decode cX12_take 41 = .ok (.iastore, 1) := by decide +kernel
theorem dX12_take_42 : decode cX12_take 42 = .ok (.iinc 2 1, 3) := by decide +kernel
theorem dX12_take_45 : decode cX12_take 45 = .ok (.goto (-30), 3) := by decide +kernel
theorem dX12_take_48 : decode cX12_take 48 = .ok (.return_, 1) := by decide +kernel
theorem dX12_needed_0 : decode cX12_needed 0 = .ok (.aload_n 0, 1) := by decide +kernel
theorem dX12_needed_1 : decode cX12_needed 1 = .ok (.iconst 0, 1) := by decide +kernel
theorem dX12_needed_2 : decode cX12_needed 2 = .ok (.putfield 96, 3) := by decide +kernel
theorem dX12_needed_5 : decode cX12_needed 5 = .ok (.iload_n 1, 1) := by decide +kernel
theorem dX12_needed_6 : decode cX12_needed 6 = .ok (.invokestatic 111, 3) := by decide +kernel
theorem dX12_needed_9 : decode cX12_needed 9 = .ok (.ifCond .ne 9, 3) := by decide +kernel
theorem dX12_needed_12 : decode cX12_needed 12 = .ok (.aload_n 0, 1) := by decide +kernel
theorem dX12_needed_13 : decode cX12_needed 13 = .ok (.iconst 1, 1) := by decide +kernel
theorem dX12_needed_14 : decode cX12_needed 14 = .ok (.invokevirtual 122, 3) := by decide +kernel
theorem dX12_needed_17 : decode cX12_needed 17 = .ok (.ireturn, 1) := by decide +kernel
theorem dX12_needed_18 : decode cX12_needed 18 = .ok (.aload_n 0, 1) := by decide +kernel
theorem dX12_needed_19 : decode cX12_needed 19 = .ok (.iload_n 1, 1) := by decide +kernel
theorem dX12_needed_20 : decode cX12_needed 20 = .ok (.invokevirtual 184, 3) := by decide +kernel
theorem dX12_needed_23 : decode cX12_needed 23 = .ok (.aload_n 0, 1) := by decide +kernel
theorem dX12_needed_24 : decode cX12_needed 24 = .ok (.invokevirtual 187, 3) := by decide +kernel
theorem dX12_needed_27 : decode cX12_needed 27 = .ok (.iconst 0, 1) := by decide +kernel
theorem dX12_needed_28 : decode cX12_needed 28 = .ok (.istore_n 2, 1) := by decide +kernel
theorem dX12_needed_29 : decode cX12_needed 29 = .ok (.iconst 0, 1) := by decide +kernel
theorem dX12_needed_30 : decode cX12_needed 30 = .ok (.istore_n 3, 1) := by decide +kernel
theorem dX12_needed_31 : decode cX12_needed 31 = .ok (.iconst 0, 1) := by decide +kernel
theorem dX12_needed_32 : decode cX12_needed 32 = .ok (.istore 4, 2) := by decide +kernel
theorem dX12_needed_34 : decode cX12_needed 34 = .ok (.iload 4, 2) := by decide +kernel
theorem dX12_needed_36 : decode cX12_needed 36 = .ok (.aload_n 0, 1) := by decide +kernel
theorem dX12_needed_37 : decode cX12_needed 37 = .ok (.getfield 9, 3) := by decide +kernel
theorem dX12_needed_40 : decode cX12_needed 40 = .ok (.iload_n 1, 1) := by decide +kernel
theorem dX12_needed_41 : decode cX12_needed 41 = .ok (.invokestatic 115, 3) := by decide +kernel
theorem dX12_needed_44 : decode cX12_needed 44 = .ok (.iaload, 1) := by decide +kernel
theorem dX12_needed_45 : decode cX12_needed 45 = .ok (.if_icmp .ge 50, 3) := by decide +kernel
theorem dX12_needed_48 : decode cX12_needed 48 = .ok (.iload_n 3, 1) := by decide +kernel
theorem dX12_needed_49 : decode cX12_needed 49 = .ok (.aload_n 0, 1) := by decide +kernel
theorem dX12_needed_50 : decode cX12_needed 50 = .ok (.getfield 181, 3) := by decide +kernel
theorem dX12_needed_53 : decode cX12_needed 53 = .ok (.if_icmp .ge 36, 3) := by decide +kernel
theorem dX12_needed_56 : decode cX12_needed 56 = .ok (.aload_n 0, 1) := by decide +kernel
theorem dX12_needed_57 : decode cX12_needed 57 = .ok (.getfield 45, 3) := by decide +kernel
theorem dX12_needed_60 : decode cX12_needed 60 = .ok (.iload_n 3, 1) := by decide +kernel
theorem dX12_needed_61 : decode cX12_needed 61 = .ok (.iaload, 1) := by decide +kernel
theorem dX12_needed_62 : decode cX12_needed 62 = .ok (.aload_n 0, 1) := by decide +kernel
theorem dX12_needed_63 : decode cX12_needed 63 = .ok (.getfield 9, 3) := by decide +kernel
theorem dX12_needed_66 : decode cX12_needed 66 = .ok (.iload_n 1, 1) := by decide +kernel
theorem dX12_needed_67 : decode cX12_needed 67 = .ok (.invokestatic 115, 3) := by decide +kernel
theorem dX12_needed_70 : decode cX12_needed 70 = .ok (.iconst 1, 1) := by decide +kernel
theorem dX12_needed_71 : decode cX12_needed 71 = .ok (.iadd, 1) := by decide +kernel
theorem dX12_needed_72 : decode cX12_needed 72 = .ok (.iload 4, 2) := by decide +kernel
theorem dX12_needed_74 : decode cX12_needed 74 = .ok (.iadd, 1) := by decide +kernel
theorem dX12_needed_75 : decode cX12_needed 75 = .ok (.iaload, 1) := by decide +kernel
theorem dX12_needed_76 : decode cX12_needed 76 = .ok (.if_icmp .ne 13, 3) := by decide +kernel
theorem dX12_needed_79 : decode cX12_needed 79 = .ok (.iload_n 2, 1) := by decide +kernel
theorem dX12_needed_80 : decode cX12_needed 80 = .ok (.iconst 1, 1) := by decide +kernel
theorem dX12_needed_81 : decode cX12_needed 81 = .ok (.iload 4, 2) := by decide +kernel
theorem dX12_needed_83 : decode cX12_needed 83 = .ok (.ishl, 1) := by decide +kernel
theorem dX12_needed_84 : decode cX12_needed 84 = .ok (.ior, 1) := by decide +kernel
theorem dX12_needed_85 : decode cX12_needed 85 = .ok (.istore_n 2, 1) := by decide +kernel
theorem dX12_needed_86 : decode cX12_needed 86 = .ok (.iinc 3 1, 3) := by decide +kernel
theorem dX12_needed_89 : decode cX12_needed 89 = .ok (.iinc 4 1, 3) := by decide +kernel
theorem dX12_needed_92 : decode cX12_needed 92 = .ok (.goto (-58), 3) := by decide +kernel
theorem dX12_needed_95 : decode cX12_needed 95 = .ok (.iload_n 2, 1) := by decide +kernel
theorem dX12_needed_96 : decode cX12_needed 96 = .ok (.ireturn, 1) := by decide +kernel
theorem dX12_same_0 : decode cX12_same 0 = .ok (.aload_n 0, 1) := by decide +kernel
theorem dX12_same_1 : decode cX12_same 1 = .ok (.iconst 0, 1) := by decide +kernel
theorem dX12_same_2 : decode cX12_same 2 = .ok (.putfield 96, 3) := by decide +kernel
theorem dX12_same_5 : decode cX12_same 5 = .ok (.iload_n 1, 1) := by decide +kernel
theorem dX12_same_6 : decode cX12_same 6 = .ok (.invokestatic 111, 3) := by decide +kernel
theorem dX12_same_9 : decode cX12_same 9 = .ok (.ifCond .eq 10, 3) := by decide +kernel
theorem dX12_same_12 : decode cX12_same 12 = .ok (.iload_n 2, 1) := by decide +kernel
theorem dX12_same_13 : decode cX12_same 13 = .ok (.invokestatic 111, 3) := by decide +kernel
theorem dX12_same_16 : decode cX12_same 16 = .ok (.ifCond .ne 11, 3) := by decide +kernel
theorem dX12_same_19 : decode cX12_same 19 = .ok (.aload_n 0, 1) := by decide +kernel
theorem dX12_same_20 : decode cX12_same 20 = .ok (.iconst 1, 1) := by decide +kernel
theorem dX12_same_21 : decode cX12_same 21 = .ok (.invokevirtual 122, 3) := by decide +kernel
theorem dX12_same_24 : decode cX12_same 24 = .ok (.pop, 1) := by decide +kernel
theorem dX12_same_25 : decode cX12_same 25 = .ok (.iconst 0, 1) := by decide +kernel
theorem dX12_same_26 : decode cX12_same 26 = .ok (.ireturn, 1) := by decide +kernel
theorem dX12_same_27 : decode cX12_same 27 = .ok (.aload_n 0, 1) := by decide +kernel
theorem dX12_same_28 : decode cX12_same 28 = .ok (.iload_n 1, 1) := by decide +kernel
theorem dX12_same_29 : decode cX12_same 29 = .ok (.invokevirtual 184, 3) := by decide +kernel
theorem dX12_same_32 : decode cX12_same 32 = .ok (.aload_n 0, 1) := by decide +kernel
theorem dX12_same_33 : decode cX12_same 33 = .ok (.invokevirtual 187, 3) := by decide +kernel
theorem dX12_same_36 : decode cX12_same 36 = .ok (.aload_n 0, 1) := by decide +kernel
theorem dX12_same_37 : decode cX12_same 37 = .ok (.getfield 181, 3) := by decide +kernel
theorem dX12_same_40 : decode cX12_same 40 = .ok (.istore_n 3, 1) := by decide +kernel
theorem dX12_same_41 : decode cX12_same 41 = .ok (.iconst 0, 1) := by decide +kernel
theorem dX12_same_42 : decode cX12_same 42 = .ok (.istore 4, 2) := by decide +kernel
theorem dX12_same_44 : decode cX12_same 44 = .ok (.iload 4, 2) := by decide +kernel
theorem dX12_same_46 : decode cX12_same 46 = .ok (.iload_n 3, 1) := by decide +kernel
theorem dX12_same_47 : decode cX12_same 47 = .ok (.if_icmp .ge 23, 3) := by decide +kernel
theorem dX12_same_50 : decode cX12_same 50 = .ok (.aload_n 0, 1) := by decide +kernel
theorem dX12_same_51 : decode cX12_same 51 = .ok (.getfield 84, 3) := by decide +kernel
theorem dX12_same_54 : decode cX12_same 54 = .ok (.iload 4, 2) := by decide +kernel
theorem dX12_same_56 : decode cX12_same 56 = .ok (.aload_n 0, 1) := by decide +kernel
theorem dX12_same_57 : decode cX12_same 57 = .ok (.getfield 45, 3) := by decide +kernel
theorem dX12_same_60 : decode cX12_same 60 = .ok (.iload 4, 2) := by decide +kernel
theorem dX12_same_62 : decode cX12_same 62 = .ok (.iaload, 1) := by decide +kernel
theorem dX12_same_63 : decode cX12_same 63 = .ok (.iastore, 1) := by decide +kernel
theorem dX12_same_64 : decode cX12_same 64 = .ok (.iinc 4 1, 3) := by decide +kernel
theorem dX12_same_67 : decode cX12_same 67 = .ok (.goto (-23), 3) := by decide +kernel
theorem dX12_same_70 : decode cX12_same 70 = .ok (.aload_n 0, 1) := by decide +kernel
theorem dX12_same_71 : decode cX12_same 71 = .ok (.iload_n 2, 1) := by decide +kernel
theorem dX12_same_72 : decode cX12_same 72 = .ok (.invokevirtual 184, 3) := by decide +kernel
theorem dX12_same_75 : decode cX12_same 75 = .ok (.aload_n 0, 1) := by decide +kernel
theorem dX12_same_76 : decode cX12_same 76 = .ok (.invokevirtual 187, 3) := by decide +kernel
theorem dX12_same_79 : decode cX12_same 79 = .ok (.iload_n 3, 1) := by decide +kernel
theorem dX12_same_80 : decode cX12_same 80 = .ok (.aload_n 0, 1) := by decide +kernel
theorem dX12_same_81 : decode cX12_same 81 = .ok (.getfield 181, 3) := by decide +kernel
theorem dX12_same_84 : decode cX12_same 84 = .ok (.if_icmp .ne 7, 3) := by decide +kernel
theorem dX12_same_87 : decode cX12_same 87 = .ok (.iconst 1, 1) := by decide +kernel
theorem dX12_same_88 : decode cX12_same 88 = .ok (.goto 4, 3) := by decide +kernel
theorem dX12_same_91 : decode cX12_same 91 = .ok (.iconst 0, 1) := by decide +kernel
theorem dX12_same_92 : decode cX12_same 92 = .ok (.istore 4, 2) := by decide +kernel
theorem dX12_same_94 : decode cX12_same 94 = .ok (.iconst 0, 1) := by decide +kernel
theorem dX12_same_95 : decode cX12_same 95 = .ok (.istore 5, 2) := by decide +kernel
theorem dX12_same_97 : decode cX12_same 97 = .ok (.iload 5, 2) := by decide +kernel
theorem dX12_same_99 : decode cX12_same 99 = .ok (.iload_n 3, 1) := by decide +kernel
theorem dX12_same_100 : decode cX12_same 100 = .ok (.if_icmp .ge 38, 3) := by decide +kernel
theorem dX12_same_103 : decode cX12_same 103 = .ok (.iload 4, 2) := by decide +kernel
theorem dX12_same_105 : decode cX12_same 105 = .ok (.ifCond .eq 33, 3) := by decide +kernel
theorem dX12_same_108 : decode cX12_same 108 = .ok (.aload_n 0, 1) := by decide +kernel
theorem dX12_same_109 : decode cX12_same 109 = .ok (.getfield 84, 3) := by decide +kernel
theorem dX12_same_112 : decode cX12_same 112 = .ok (.iload 5, 2) := by decide +kernel
theorem dX12_same_114 : decode cX12_same 114 = .ok (.iaload, 1) := by decide +kernel
theorem dX12_same_115 : decode cX12_same 115 = .ok (.aload_n 0, 1) := by decide +kernel
theorem dX12_same_116 : decode cX12_same 116 = .ok (.getfield 45, 3) := by decide +kernel
theorem dX12_same_119 : decode cX12_same 119 = .ok (.iload 5, 2) := by decide +kernel
theorem dX12_same_121 : decode cX12_same 121 = .ok (.iaload, 1) := by decide +kernel
theorem dX12_same_122 : decode cX12_same 122 = .ok (.if_icmp .ne 7, 3) := by decide +kernel
theorem dX12_same_125 : decode cX12_same 125 = .ok (.iconst 1, 1) := by decide +kernel
theorem dX12_same_126 : decode cX12_same 126 = .ok (.goto 4, 3) := by decide +kernel
theorem dX12_same_129 : decode cX12_same 129 = .ok (.iconst 0, 1) := by decide +kernel
theorem dX12_same_130 : decode cX12_same 130 = .ok (.istore 4, 2) := by decide +kernel
theorem dX12_same_132 : decode cX12_same 132 = .ok (.iinc 5 1, 3) := by decide +kernel
theorem dX12_same_135 : decode cX12_same 135 = .ok (.goto (-38), 3) := by decide +kernel
theorem dX12_same_138 : decode cX12_same 138 = .ok (.iload 4, 2) := by decide +kernel
theorem dX12_same_140 : decode cX12_same 140 = .ok (.ireturn, 1) := by decide +kernel
theorem dX12_becomes_0 : decode cX12_becomes 0 = .ok (.aload_n 0, 1) := by decide +kernel
theorem dX12_becomes_1 : decode cX12_becomes 1 = .ok (.getfield 9, 3) := by decide +kernel
theorem dX12_becomes_4 : decode cX12_becomes 4 = .ok (.iload_n 1, 1) := by decide +kernel
theorem dX12_becomes_5 : decode cX12_becomes 5 = .ok (.invokestatic 115, 3) := by decide +kernel
theorem dX12_becomes_8 : decode cX12_becomes 8 = .ok (.aload_n 0, 1) := by decide +kernel
theorem dX12_becomes_9 : decode cX12_becomes 9 = .ok (.getfield 181, 3) := by decide +kernel
theorem dX12_becomes_12 : decode cX12_becomes 12 = .ok (.iastore, 1) := by decide +kernel
theorem dX12_becomes_13 : decode cX12_becomes 13 = .ok (.iconst 0, 1) := by decide +kernel
theorem dX12_becomes_14 : decode cX12_becomes 14 = .ok (.istore_n 2, 1) := by decide +kernel
theorem dX12_becomes_15 : decode cX12_becomes 15 = .ok (.iload_n 2, 1) := by decide +kernel
theorem dX12_becomes_16 : decode cX12_becomes 16 = .ok (.aload_n 0, 1) := by decide +kernel
theorem dX12_becomes_17 : decode cX12_becomes 17 = .ok (.getfield 181, 3) := by decide +kernel
theorem dX12_becomes_20 : decode cX12_becomes 20 = .ok (.if_icmp .ge 28, 3) := by decide +kernel
theorem dX12_becomes_23 : decode cX12_becomes 23 = .ok (.aload_n 0, 1) := by decide +kernel
theorem dX12_becomes_24 : decode cX12_becomes 24 = .ok (.getfield 9, 3) := by decide +kernel
theorem dX12_becomes_27 : decode cX12_becomes 27 = .ok (.iload_n 1, 1) := by decide +kernel
theorem dX12_becomes_28 : decode cX12_becomes 28 = .ok (.invokestatic 115, 3) := by decide +kernel
theorem dX12_becomes_31 : decode cX12_becomes 31 = .ok (.iconst 1, 1) := by decide +kernel
theorem dX12_becomes_32 : decode cX12_becomes 32 = .ok (.iadd, 1) := by decide +kernel
theorem dX12_becomes_33 : decode cX12_becomes 33 = .ok (.iload_n 2, 1) := by decide +kernel
theorem dX12_becomes_34 : decode cX12_becomes 34 = .ok (.iadd, 1) := by decide +kernel
theorem dX12_becomes_35 : decode cX12_becomes 35 = .ok (.aload_n 0, 1) := by decide +kernel
theorem dX12_becomes_36 : decode cX12_becomes 36 = .ok (.getfield 45, 3) := by decide +kernel
theorem dX12_becomes_39 : decode cX12_becomes 39 = .ok (.iload_n 2, 1) := by decide +kernel
theorem dX12_becomes_40 : decode cX12_becomes 40 = .ok (.iaload, 1) := by decide +kernel
theorem dX12_becomes_41 : decode cX12_becomes 41 = .ok (.iastore, 1) := by decide +kernel
theorem dX12_becomes_42 : decode cX12_becomes 42 = .ok (.iinc 2 1, 3) := by decide +kernel
theorem dX12_becomes_45 : decode cX12_becomes 45 = .ok (.goto (-30), 3) := by decide +kernel
theorem dX12_becomes_48 : decode cX12_becomes 48 = .ok (.aload_n 0, 1) := by decide +kernel
theorem dX12_becomes_49 : decode cX12_becomes 49 = .ok (.invokevirtual 119, 3) := by decide +kernel
theorem dX12_becomes_52 : decode cX12_becomes 52 = .ok (.aload_n 0, 1) := by decide +kernel
theorem dX12_becomes_53 : decode cX12_becomes 53 = .ok (.getfield 181, 3) := by decide +kernel
theorem dX12_becomes_56 : decode cX12_becomes 56 = .ok (.ireturn, 1) := by decide +kernel
theorem dX12_join_0 : decode cX12_join 0 = .ok (.aload_n 0, 1) := by decide +kernel
theorem dX12_join_1 : decode cX12_join 1 = .ok (.iconst 0, 1) := by decide +kernel
theorem dX12_join_2 : decode cX12_join 2 = .ok (.putfield 96, 3) := by decide +kernel
theorem dX12_join_5 : decode cX12_join 5 = .ok (.iload_n 1, 1) := by decide +kernel
theorem dX12_join_6 : decode cX12_join 6 = .ok (.invokestatic 111, 3) := by decide +kernel
theorem dX12_join_9 : decode cX12_join 9 = .ok (.ifCond .eq 17, 3) := by decide +kernel
theorem dX12_join_12 : decode cX12_join 12 = .ok (.iload_n 2, 1) := by decide +kernel
theorem dX12_join_13 : decode cX12_join 13 = .ok (.invokestatic 111, 3) := by decide +kernel
theorem dX12_join_16 : decode cX12_join 16 = .ok (.ifCond .eq 10, 3) := by decide +kernel
theorem dX12_join_19 : decode cX12_join 19 = .ok (.iload_n 3, 1) := by decide +kernel
theorem dX12_join_20 : decode cX12_join 20 = .ok (.invokestatic 111, 3) := by decide +kernel
theorem dX12_join_23 : decode cX12_join 23 = .ok (.ifCond .ne 9, 3) := by decide +kernel
theorem dX12_join_26 : decode cX12_join 26 = .ok (.aload_n 0, 1) := by decide +kernel
theorem dX12_join_27 : decode cX12_join 27 = .ok (.iconst 1, 1) := by decide +kernel
theorem dX12_join_28 : decode cX12_join 28 = .ok (.invokevirtual 122, 3) := by decide +kernel
theorem dX12_join_31 : decode cX12_join 31 = .ok (.ireturn, 1) := by decide +kernel
theorem dX12_join_32 : decode cX12_join 32 = .ok (.iconst 1, 1) := by decide +kernel
theorem dX12_join_33 : decode cX12_join 33 = .ok (.istore 4, 2) := by decide +kernel
theorem dX12_join_35 : decode cX12_join 35 = .ok (.iconst 1, 1) := by decide +kernel
theorem dX12_join_36 : decode cX12_join 36 = .ok (.istore 5, 2) := by decide +kernel
theorem dX12_join_38 : decode cX12_join 38 = .ok (.aload_n 0, 1) := by decide +kernel
theorem dX12_join_39 : decode cX12_join 39 = .ok (.getfield 9, 3) := by decide +kernel
theorem dX12_join_42 : decode cX12_join 42 = .ok (.iload_n 1, 1) := by decide +kernel
theorem dX12_join_43 : decode cX12_join 43 = .ok (.invokestatic 115, 3) := by decide +kernel
theorem dX12_join_46 : decode cX12_join 46 = .ok (.iaload, 1) := by decide +kernel
theorem dX12_join_47 : decode cX12_join 47 = .ok (.istore 6, 2) := by decide +kernel
theorem dX12_join_49 : decode cX12_join 49 = .ok (.aload_n 0, 1) := by decide +kernel
theorem dX12_join_50 : decode cX12_join 50 = .ok (.getfield 9, 3) := by decide +kernel
theorem dX12_join_53 : decode cX12_join 53 = .ok (.iload_n 2, 1) := by decide +kernel
theorem dX12_join_54 : decode cX12_join 54 = .ok (.invokestatic 115, 3) := by decide +kernel
theorem dX12_join_57 : decode cX12_join 57 = .ok (.iaload, 1) := by decide +kernel
theorem dX12_join_58 : decode cX12_join 58 = .ok (.istore 7, 2) := by decide +kernel
theorem dX12_join_60 : decode cX12_join 60 = .ok (.aload_n 0, 1) := by decide +kernel
theorem dX12_join_61 : decode cX12_join 61 = .ok (.iconst 0, 1) := by decide +kernel
theorem dX12_join_62 : decode cX12_join 62 = .ok (.putfield 181, 3) := by decide +kernel
theorem dX12_join_65 : decode cX12_join 65 = .ok (.iload 4, 2) := by decide +kernel
theorem dX12_join_67 : decode cX12_join 67 = .ok (.iload 6, 2) := by decide +kernel
theorem dX12_join_69 : decode cX12_join 69 = .ok (.if_icmp .le 10, 3) := by decide +kernel
theorem dX12_join_72 : decode cX12_join 72 = .ok (.iload 5, 2) := by decide +kernel
theorem dX12_join_74 : decode cX12_join 74 = .ok (.iload 7, 2) := by decide +kernel
theorem dX12_join_76 : decode cX12_join 76 = .ok (.if_icmp .gt 106, 3) := by decide +kernel
theorem dX12_join_79 : decode cX12_join 79 = .ok (.iload 4, 2) := by decide +kernel
theorem dX12_join_81 : decode cX12_join 81 = .ok (.iload 6, 2) := by decide +kernel
theorem dX12_join_83 : decode cX12_join 83 = .ok (.if_icmp .gt 18, 3) := by decide +kernel
theorem dX12_join_86 : decode cX12_join 86 = .ok (.aload_n 0, 1) := by decide +kernel
theorem dX12_join_87 : decode cX12_join 87 = .ok (.getfield 9, 3) := by decide +kernel
theorem dX12_join_90 : decode cX12_join 90 = .ok (.iload_n 1, 1) := by decide +kernel
theorem dX12_join_91 : decode cX12_join 91 = .ok (.invokestatic 115, 3) := by decide +kernel
theorem dX12_join_94 : decode cX12_join 94 = .ok (.iload 4, 2) := by decide +kernel
theorem dX12_join_96 : decode cX12_join 96 = .ok (.iadd, 1) := by decide +kernel
theorem dX12_join_97 : decode cX12_join 97 = .ok (.iaload, 1) := by decide +kernel
theorem dX12_join_98 : decode cX12_join 98 = .ok (.goto 6, 3) := by decide +kernel
theorem dX12_join_101 : decode cX12_join 101 = .ok (.sipush 301, 3) := by decide +kernel
theorem dX12_join_104 : decode cX12_join 104 = .ok (.istore 8, 2) := by decide +kernel
theorem dX12_join_106 : decode cX12_join 106 = .ok (.iload 5, 2) := by decide +kernel
theorem dX12_join_108 : decode cX12_join 108 = .ok (.iload 7, 2) := by decide +kernel
theorem dX12_join_110 : decode cX12_join 110 = .ok (.if_icmp .gt 18, 3) := by decide +kernel
theorem dX12_join_113 : decode cX12_join 113 = .ok (.aload_n 0, 1) := by decide +kernel
theorem dX12_join_114 : decode cX12_join 114 = .ok (.getfield 9, 3) := by decide +kernel
theorem dX12_join_117 : decode cX12_join 117 = .ok (.iload_n 2, 1) := by decide +kernel
theorem dX12_join_118 : decode cX12_join 118 = .ok (.invokestatic 115, 3) := by decide +kernel
theorem dX12_join_121 : decode cX12_join 121 = .ok (.iload 5, 2) := by decide +kernel
theorem dX12_join_123 : decode cX12_join 123 = .ok (.iadd, 1) := by decide +kernel
theorem dX12_join_124 : decode cX12_join 124 = .ok (.iaload, 1) := by decide +kernel
theorem dX12_join_125 : decode cX12_join 125 = .ok (.goto 6, 3) := by decide +kernel
theorem dX12_join_128 : decode cX12_join 128 = .ok (.sipush 301, 3) := by decide +kernel
theorem dX12_join_131 : decode cX12_join 131 = .ok (.istore 9, 2) := by decide +kernel
theorem dX12_join_133 : decode cX12_join 133 = .ok (.aload_n 0, 1) := by decide +kernel
theorem dX12_join_134 : decode cX12_join 134 = .ok (.getfield 45, 3) := by decide +kernel
theorem dX12_join_137 : decode cX12_join 137 = .ok (.aload_n 0, 1) := by decide +kernel
theorem dX12_join_138 : decode cX12_join 138 = .ok (.getfield 181, 3) := by decide +kernel
theorem dX12_join_141 : decode cX12_join 141 = .ok (.iload 8, 2) := by decide +kernel
theorem dX12_join_143 : decode cX12_join 143 = .ok (.iload 9, 2) := by decide +kernel
theorem dX12_join_145 : decode cX12_join 145 = .ok (.invokestatic 157, 3) := by decide +kernel
theorem dX12_join_148 : decode cX12_join 148 = .ok (.iastore, 1) := by decide +kernel
theorem dX12_join_149 : decode cX12_join 149 = .ok (.aload_n 0, 1) := by decide +kernel
theorem dX12_join_150 : decode cX12_join 150 = .ok (.dup, 1) := by decide +kernel
theorem dX12_join_151 : decode cX12_join 151 = .ok (.getfield 181, 3) := by decide +kernel
theorem dX12_join_154 : decode cX12_join 154 = .ok (.iconst 1, 1) := by decide +kernel
theorem dX12_join_155 : decode cX12_join 155 = .ok (.iadd, 1) := by decide +kernel
theorem dX12_join_156 : decode cX12_join 156 = .ok (.putfield 181, 3) := by decide +kernel
theorem dX12_join_159 : decode cX12_join 159 = .ok (.iload 8, 2) := by decide +kernel
theorem dX12_join_161 : decode cX12_join 161 = .ok (.iload 9, 2) := by decide +kernel
theorem dX12_join_163 : decode cX12_join 163 = .ok (.if_icmp .gt 6, 3) := by decide +kernel
theorem dX12_join_166 : decode cX12_join 166 = .ok (.iinc 4 1, 3) := by decide +kernel
theorem dX12_join_169 : decode cX12_join 169 = .ok (.iload 9, 2) := by decide +kernel
theorem dX12_join_171 : decode cX12_join 171 = .ok (.iload 8, 2) := by decide +kernel
theorem dX12_join_173 : decode cX12_join 173 = .ok (.if_icmp .gt 6, 3) := by decide +kernel
theorem dX12_join_176 : decode cX12_join 176 = .ok (.iinc 5 1, 3) := by decide +kernel
theorem dX12_join_179 : decode cX12_join 179 = .ok (.goto (-114), 3) := by decide +kernel
theorem dX12_join_182 : decode cX12_join 182 = .ok (.aload_n 0, 1) := by decide +kernel
theorem dX12_join_183 : decode cX12_join 183 = .ok (.invokevirtual 187, 3) := by decide +kernel
theorem dX12_join_186 : decode cX12_join 186 = .ok (.aload_n 0, 1) := by decide +kernel
theorem dX12_join_187 : decode cX12_join 187 = .ok (.getfield 181, 3) := by decide +kernel
theorem dX12_join_190 : decode cX12_join 190 = .ok (.bipush 12, 2) := by decide +kernel
theorem dX12_join_192 : decode cX12_join 192 = .ok (.if_icmp .le 7, 3) := by decide +kernel
theorem dX12_join_195 : decode cX12_join 195 = .ok (.iconst (-1), 1) := by decide +kernel
theorem dX12_join_196 : decode cX12_join 196 = .ok (.goto 8, 3) := by decide +kernel
theorem dX12_join_199 : decode cX12_join 199 = .ok (.aload_n 0, 1) := by decide +kernel
theorem dX12_join_200 : decode cX12_join 200 = .ok (.iload_n 3, 1) := by decide +kernel
theorem dX12_join_201 : decode cX12_join 201 = .ok (.invokevirtual 190, 3) := by decide +kernel
theorem dX12_join_204 : decode cX12_join 204 = .ok (.ireturn, 1) := by decide +kernel
theorem dX12_spread_0 : decode cX12_spread 0 = .ok (.iconst 0, 1) := by decide +kernel
theorem dX12_spread_1 : decode cX12_spread 1 = .ok (.istore_n 3, 1) := by decide +kernel
theorem dX12_spread_2 : decode cX12_spread 2 = .ok (.iload_n 3, 1) := by decide +kernel
theorem dX12_spread_3 : decode cX12_spread 3 = .ok (.ldc 193, 2) := by decide +kernel
theorem dX12_spread_5 : decode cX12_spread 5 = .ok (.if_icmp .gt 21, 3) := by decide +kernel
theorem dX12_spread_8 : decode cX12_spread 8 = .ok (.aload_n 2, 1) := by decide +kernel
theorem dX12_spread_9 : decode cX12_spread 9 = .ok (.iload_n 3, 1) := by decide +kernel
theorem dX12_spread_10 : decode cX12_spread 10 = .ok (.iload_n 3, 1) := by decide +kernel
theorem dX12_spread_11 : decode cX12_spread 11 = .ok (.ifCond .ne 7, 3) := by decide +kernel
theorem dX12_spread_14 : decode cX12_spread 14 = .ok (.iconst 1, 1) := by decide +kernel
theorem dX12_spread_15 : decode cX12_spread 15 = .ok (.goto 4, 3) := by decide +kernel
theorem dX12_spread_18 : decode cX12_spread 18 = .ok (.iconst 0, 1) := by decide +kernel
theorem dX12_spread_19 : decode cX12_spread 19 = .ok (.bastore, 1) := by decide +kernel
theorem dX12_spread_20 : decode cX12_spread 20 = .ok (.iinc 3 1, 3) := by decide +kernel
theorem dX12_spread_23 : decode cX12_spread 23 = .ok (.goto (-21), 3) := by decide +kernel
theorem dX12_spread_26 : decode cX12_spread 26 = .ok (.iconst 1, 1) := by decide +kernel
theorem dX12_spread_27 : decode cX12_spread 27 = .ok (.istore_n 3, 1) := by decide +kernel
theorem dX12_spread_28 : decode cX12_spread 28 = .ok (.iload_n 3, 1) := by decide +kernel
theorem dX12_spread_29 : decode cX12_spread 29 = .ok (.aload_n 0, 1) := by decide +kernel
theorem dX12_spread_30 : decode cX12_spread 30 = .ok (.getfield 9, 3) := by decide +kernel
theorem dX12_spread_33 : decode cX12_spread 33 = .ok (.iload_n 1, 1) := by decide +kernel
theorem dX12_spread_34 : decode cX12_spread 34 = .ok (.invokestatic 115, 3) := by decide +kernel
theorem dX12_spread_37 : decode cX12_spread 37 = .ok (.iaload, 1) := by decide +kernel
theorem dX12_spread_38 : decode cX12_spread 38 = .ok (.if_icmp .gt 65, 3) := by decide +kernel
theorem dX12_spread_41 : decode cX12_spread 41 = .ok (.aload_n 0, 1) := by decide +kernel
theorem dX12_spread_42 : decode cX12_spread 42 = .ok (.getfield 9, 3) := by decide +kernel
theorem dX12_spread_45 : decode cX12_spread 45 = .ok (.iload_n 1, 1) := by decide +kernel
theorem dX12_spread_46 : decode cX12_spread 46 = .ok (.invokestatic 115, 3) := by decide +kernel
theorem dX12_spread_49 : decode cX12_spread 49 = .ok (.iload_n 3, 1) := by decide +kernel
theorem dX12_spread_50 : decode cX12_spread 50 = .ok (.iadd, 1) := by decide +kernel
theorem dX12_spread_51 : decode cX12_spread 51 = .ok (.iaload, 1) := by decide +kernel
theorem dX12_spread_52 : decode cX12_spread 52 = .ok (.istore 4, 2) := by decide +kernel
theorem dX12_spread_54 : decode cX12_spread 54 = .ok (.iload 4, 2) := by decide +kernel
theorem dX12_spread_56 : decode cX12_spread 56 = .ok (.istore 5, 2) := by decide +kernel
theorem dX12_spread_58 : decode cX12_spread 58 = .ok (.iload 5, 2) := by decide +kernel
theorem dX12_spread_60 : decode cX12_spread 60 = .ok (.ldc 193, 2) := by decide +kernel
theorem dX12_spread_62 : decode cX12_spread 62 = .ok (.if_icmp .gt 35, 3) := by decide +kernel
theorem dX12_spread_65 : decode cX12_spread 65 = .ok (.aload_n 2, 1) := by decide +kernel
theorem dX12_spread_66 : decode cX12_spread 66 = .ok (.iload 5, 2) := by decide +kernel
theorem dX12_spread_68 : decode cX12_spread 68 = .ok (.aload_n 2, 1) := by decide +kernel
theorem dX12_spread_69 : decode cX12_spread 69 = .ok (.iload 5, 2) := by decide +kernel
theorem dX12_spread_71 : decode cX12_spread 71 = .ok (.baload, 1) := by decide +kernel
theorem dX12_spread_72 : decode cX12_spread 72 = .ok (.ifCond .ne 13, 3) := by decide +kernel
theorem dX12_spread_75 : decode cX12_spread 75 = .ok (.aload_n 2, 1) := by decide +kernel
theorem dX12_spread_76 : decode cX12_spread 76 = .ok (.iload 5, 2) := by decide +kernel
theorem dX12_spread_78 : decode cX12_spread 78 = .ok (.iload 4, 2) := by decide +kernel
theorem dX12_spread_80 : decode cX12_spread 80 = .ok (.isub, 1) := by decide +kernel
theorem dX12_spread_81 : decode cX12_spread 81 = .ok (.baload, 1) := by decide +kernel
theorem dX12_spread_82 : decode cX12_spread 82 = .ok (.ifCond .eq 7, 3) := by decide +kernel
theorem dX12_spread_85 : decode cX12_spread 85 = .ok (.iconst 1, 1) := by decide +kernel
theorem dX12_spread_86 : decode cX12_spread 86 = .ok (.goto 4, 3) := by decide +kernel
theorem dX12_spread_89 : decode cX12_spread 89 = .ok (.iconst 0, 1) := by decide +kernel
theorem dX12_spread_90 : decode cX12_spread 90 = .ok (.bastore, 1) := by decide +kernel
theorem dX12_spread_91 : decode cX12_spread 91 = .ok (.iinc 5 1, 3) := by decide +kernel
theorem dX12_spread_94 : decode cX12_spread 94 = .ok (.goto (-36), 3) := by decide +kernel
theorem dX12_spread_97 : decode cX12_spread 97 = .ok (.iinc 3 1, 3) := by decide +kernel
theorem dX12_spread_100 : decode cX12_spread 100 = .ok (.goto (-72), 3) := by decide +kernel
theorem dX12_spread_103 : decode cX12_spread 103 = .ok (.return_, 1) := by decide +kernel
theorem dX12_gather_0 : decode cX12_gather 0 = .ok (.iconst 0, 1) := by decide +kernel
theorem dX12_gather_1 : decode cX12_gather 1 = .ok (.istore_n 1, 1) := by decide +kernel
theorem dX12_gather_2 : decode cX12_gather 2 = .ok (.iload_n 1, 1) := by decide +kernel
theorem dX12_gather_3 : decode cX12_gather 3 = .ok (.ldc 193, 2) := by decide +kernel
theorem dX12_gather_5 : decode cX12_gather 5 = .ok (.if_icmp .gt 24, 3) := by decide +kernel
theorem dX12_gather_8 : decode cX12_gather 8 = .ok (.aload_n 0, 1) := by decide +kernel
theorem dX12_gather_9 : decode cX12_gather 9 = .ok (.getfield 34, 3) := by decide +kernel
theorem dX12_gather_12 : decode cX12_gather 12 = .ok (.iload_n 1, 1) := by decide +kernel
theorem dX12_gather_13 : decode cX12_gather 13 = .ok (.iload_n 1, 1) := by decide +kernel
theorem dX12_gather_14 : decode cX12_gather 14 = .ok (.ifCond .ne 7, 3) := by decide +kernel
theorem dX12_gather_17 : decode cX12_gather 17 = .ok (.iconst 1, 1) := by decide +kernel
theorem dX12_gather_18 : decode cX12_gather 18 = .ok (.goto 4, 3) := by decide +kernel
theorem dX12_gather_21 : decode cX12_gather 21 = .ok (.iconst 0, 1) := by decide +kernel
theorem dX12_gather_22 : decode cX12_gather 22 = .ok (.bastore, 1) := by decide +kernel
theorem dX12_gather_23 : decode cX12_gather 23 = .ok (.iinc 1 1, 3) := by decide +kernel
theorem dX12_gather_26 : decode cX12_gather 26 = .ok (.goto (-24), 3) := by decide +kernel
theorem dX12_gather_29 : decode cX12_gather 29 = .ok (.aload_n 0, 1) := by decide +kernel
theorem dX12_gather_30 : decode cX12_gather 30 = .ok (.iconst 0, 1) := by decide +kernel
theorem dX12_gather_31 : decode cX12_gather 31 = .ok (.putfield 181, 3) := by decide +kernel
theorem dX12_gather_34 : decode cX12_gather 34 = .ok (.iconst 1, 1) := by decide +kernel
theorem dX12_gather_35 : decode cX12_gather 35 = .ok (.istore_n 1, 1) := by decide +kernel
theorem dX12_gather_36 : decode cX12_gather 36 = .ok (.iload_n 1, 1) := by decide +kernel
theorem dX12_gather_37 : decode cX12_gather 37 = .ok (.ldc 193, 2) := by decide +kernel
theorem dX12_gather_39 : decode cX12_gather 39 = .ok (.if_icmp .gt 110, 3) := by decide +kernel
theorem dX12_gather_42 : decode cX12_gather 42 = .ok (.aload_n 0, 1) := by decide +kernel
theorem dX12_gather_43 : decode cX12_gather 43 = .ok (.getfield 37, 3) := by decide +kernel
theorem dX12_gather_46 : decode cX12_gather 46 = .ok (.iload_n 1, 1) := by decide +kernel
theorem dX12_gather_47 : decode cX12_gather 47 = .ok (.baload, 1) := by decide +kernel
theorem dX12_gather_48 : decode cX12_gather 48 = .ok (.aload_n 0, 1) := by decide +kernel
theorem dX12_gather_49 : decode cX12_gather 49 = .ok (.getfield 34, 3) := by decide +kernel
theorem dX12_gather_52 : decode cX12_gather 52 = .ok (.iload_n 1, 1) := by decide +kernel
theorem dX12_gather_53 : decode cX12_gather 53 = .ok (.baload, 1) := by decide +kernel
theorem dX12_gather_54 : decode cX12_gather 54 = .ok (.if_icmp .ne 6, 3) := by decide +kernel
theorem dX12_gather_57 : decode cX12_gather 57 = .ok (.goto 86, 3) := by decide +kernel
theorem dX12_gather_60 : decode cX12_gather 60 = .ok (.iload_n 1, 1) := by decide +kernel
theorem dX12_gather_61 : decode cX12_gather 61 = .ok (.sipush 300, 3) := by decide +kernel
theorem dX12_gather_64 : decode cX12_gather 64 = .ok (.if_icmp .gt 12, 3) := by decide +kernel
theorem dX12_gather_67 : decode cX12_gather 67 = .ok (.aload_n 0, 1) := by decide +kernel
theorem dX12_gather_68 : decode cX12_gather 68 = .ok (.getfield 181, 3) := by decide +kernel
theorem dX12_gather_71 : decode cX12_gather 71 = .ok (.bipush 12, 2) := by decide +kernel
theorem dX12_gather_73 : decode cX12_gather 73 = .ok (.if_icmp .ne 5, 3) := by decide +kernel
theorem dX12_gather_76 : decode cX12_gather 76 = .ok (.iconst 0, 1) := by decide +kernel
theorem dX12_gather_77 : decode cX12_gather 77 = .ok (.ireturn, 1) := by decide +kernel
theorem dX12_gather_78 : decode cX12_gather 78 = .ok (.aload_n 0, 1) := by decide +kernel
theorem dX12_gather_79 : decode cX12_gather 79 = .ok (.getfield 45, 3) := by decide +kernel
theorem dX12_gather_82 : decode cX12_gather 82 = .ok (.aload_n 0, 1) := by decide +kernel
theorem dX12_gather_83 : decode cX12_gather 83 = .ok (.getfield 181, 3) := by decide +kernel
theorem dX12_gather_86 : decode cX12_gather 86 = .ok (.iload_n 1, 1) := by decide +kernel
theorem dX12_gather_87 : decode cX12_gather 87 = .ok (.iastore, 1) := by decide +kernel
theorem dX12_gather_88 : decode cX12_gather 88 = .ok (.aload_n 0, 1) := by decide +kernel
theorem dX12_gather_89 : decode cX12_gather 89 = .ok (.dup, 1) := by decide +kernel
theorem dX12_gather_90 : decode cX12_gather 90 = .ok (.getfield 181, 3) := by decide +kernel
theorem dX12_gather_93 : decode cX12_gather 93 = .ok (.iconst 1, 1) := by decide +kernel
theorem dX12_gather_94 : decode cX12_gather 94 = .ok (.iadd, 1) := by decide +kernel
theorem dX12_gather_95 : decode cX12_gather 95 = .ok (.putfield 181, 3) := by decide +kernel
theorem dX12_gather_98 : decode cX12_gather 98 = .ok (.iload_n 1, 1) := by decide +kernel
theorem dX12_gather_99 : decode cX12_gather 99 = .ok (.istore_n 2, 1) := by decide +kernel
theorem dX12_gather_100 : decode cX12_gather 100 = .ok (.iload_n 2, 1) := by decide +kernel
theorem dX12_gather_101 : decode cX12_gather 101 = .ok (.ldc 193, 2) := by decide +kernel
theorem dX12_gather_103 : decode cX12_gather 103 = .ok (.if_icmp .gt 40, 3) := by decide +kernel
theorem dX12_gather_106 : decode cX12_gather 106 = .ok (.aload_n 0, 1) := by decide +kernel
theorem dX12_gather_107 : decode cX12_gather 107 = .ok (.getfield 34, 3) := by decide +kernel
theorem dX12_gather_110 : decode cX12_gather 110 = .ok (.iload_n 2, 1) := by decide +kernel
theorem dX12_gather_111 : decode cX12_gather 111 = .ok (.aload_n 0, 1) := by decide +kernel
theorem dX12_gather_112 : decode cX12_gather 112 = .ok (.getfield 34, 3) := by decide +kernel
theorem dX12_gather_115 : decode cX12_gather 115 = .ok (.iload_n 2, 1) := by decide +kernel
theorem dX12_gather_116 : decode cX12_gather 116 = .ok (.baload, 1) := by decide +kernel
theorem dX12_gather_117 : decode cX12_gather 117 = .ok (.ifCond .ne 14, 3) := by decide +kernel
theorem dX12_gather_120 : decode cX12_gather 120 = .ok (.aload_n 0, 1) := by decide +kernel
theorem dX12_gather_121 : decode cX12_gather 121 = .ok (.getfield 34, 3) := by decide +kernel
theorem dX12_gather_124 : decode cX12_gather 124 = .ok (.iload_n 2, 1) := by decide +kernel
theorem dX12_gather_125 : decode cX12_gather 125 = .ok (.iload_n 1, 1) := by decide +kernel
theorem dX12_gather_126 : decode cX12_gather 126 = .ok (.isub, 1) := by decide +kernel
theorem dX12_gather_127 : decode cX12_gather 127 = .ok (.baload, 1) := by decide +kernel
theorem dX12_gather_128 : decode cX12_gather 128 = .ok (.ifCond .eq 7, 3) := by decide +kernel
theorem dX12_gather_131 : decode cX12_gather 131 = .ok (.iconst 1, 1) := by decide +kernel
theorem dX12_gather_132 : decode cX12_gather 132 = .ok (.goto 4, 3) := by decide +kernel
theorem dX12_gather_135 : decode cX12_gather 135 = .ok (.iconst 0, 1) := by decide +kernel
theorem dX12_gather_136 : decode cX12_gather 136 = .ok (.bastore, 1) := by decide +kernel
theorem dX12_gather_137 : decode cX12_gather 137 = .ok (.iinc 2 1, 3) := by decide +kernel
theorem dX12_gather_140 : decode cX12_gather 140 = .ok (.goto (-40), 3) := by decide +kernel
theorem dX12_gather_143 : decode cX12_gather 143 = .ok (.iinc 1 1, 3) := by decide +kernel
theorem dX12_gather_146 : decode cX12_gather 146 = .ok (.goto (-110), 3) := by decide +kernel
theorem dX12_gather_149 : decode cX12_gather 149 = .ok (.iconst 1, 1) := by decide +kernel
theorem dX12_gather_150 : decode cX12_gather 150 = .ok (.ireturn, 1) := by decide +kernel
theorem dX12_part_0 : decode cX12_part 0 = .ok (.aload_n 0, 1) := by decide +kernel
theorem dX12_part_1 : decode cX12_part 1 = .ok (.iconst 0, 1) := by decide +kernel
theorem dX12_part_2 : decode cX12_part 2 = .ok (.putfield 96, 3) := by decide +kernel
theorem dX12_part_5 : decode cX12_part 5 = .ok (.iload_n 1, 1) := by decide +kernel
theorem dX12_part_6 : decode cX12_part 6 = .ok (.invokestatic 111, 3) := by decide +kernel
theorem dX12_part_9 : decode cX12_part 9 = .ok (.ifCond .eq 17, 3) := by decide +kernel
theorem dX12_part_12 : decode cX12_part 12 = .ok (.iload_n 2, 1) := by decide +kernel
theorem dX12_part_13 : decode cX12_part 13 = .ok (.invokestatic 111, 3) := by decide +kernel
theorem dX12_part_16 : decode cX12_part 16 = .ok (.ifCond .eq 10, 3) := by decide +kernel
theorem dX12_part_19 : decode cX12_part 19 = .ok (.iload_n 3, 1) := by decide +kernel
theorem dX12_part_20 : decode cX12_part 20 = .ok (.invokestatic 111, 3) := by decide +kernel
theorem dX12_part_23 : decode cX12_part 23 = .ok (.ifCond .ne 9, 3) := by decide +kernel
theorem dX12_part_26 : decode cX12_part 26 = .ok (.aload_n 0, 1) := by decide +kernel
theorem dX12_part_27 : decode cX12_part 27 = .ok (.iconst 1, 1) := by decide +kernel
theorem dX12_part_28 : decode cX12_part 28 = .ok (.invokevirtual 122, 3) := by decide +kernel
theorem dX12_part_31 : decode cX12_part 31 = .ok (.ireturn, 1) := by decide +kernel
theorem dX12_part_32 : decode cX12_part 32 = .ok (.aload_n 0, 1) := by decide +kernel
theorem dX12_part_33 : decode cX12_part 33 = .ok (.iload_n 1, 1) := by decide +kernel
theorem dX12_part_34 : decode cX12_part 34 = .ok (.aload_n 0, 1) := by decide +kernel
theorem dX12_part_35 : decode cX12_part 35 = .ok (.getfield 37, 3) := by decide +kernel
theorem dX12_part_38 : decode cX12_part 38 = .ok (.invokevirtual 194, 3) := by decide +kernel
theorem dX12_part_41 : decode cX12_part 41 = .ok (.aload_n 0, 1) := by decide +kernel
theorem dX12_part_42 : decode cX12_part 42 = .ok (.iload_n 2, 1) := by decide +kernel
theorem dX12_part_43 : decode cX12_part 43 = .ok (.aload_n 0, 1) := by decide +kernel
theorem dX12_part_44 : decode cX12_part 44 = .ok (.getfield 30, 3) := by decide +kernel
theorem dX12_part_47 : decode cX12_part 47 = .ok (.invokevirtual 194, 3) := by decide +kernel
theorem dX12_part_50 : decode cX12_part 50 = .ok (.iconst 0, 1) := by decide +kernel
theorem dX12_part_51 : decode cX12_part 51 = .ok (.istore 4, 2) := by decide +kernel
theorem dX12_part_53 : decode cX12_part 53 = .ok (.iload 4, 2) := by decide +kernel
theorem dX12_part_55 : decode cX12_part 55 = .ok (.ldc 193, 2) := by decide +kernel
theorem dX12_part_57 : decode cX12_part 57 = .ok (.if_icmp .gt 41, 3) := by decide +kernel
theorem dX12_part_60 : decode cX12_part 60 = .ok (.aload_n 0, 1) := by decide +kernel
theorem dX12_part_61 : decode cX12_part 61 = .ok (.getfield 37, 3) := by decide +kernel
theorem dX12_part_64 : decode cX12_part 64 = .ok (.iload 4, 2) := by decide +kernel
theorem dX12_part_66 : decode cX12_part 66 = .ok (.aload_n 0, 1) := by decide +kernel
theorem dX12_part_67 : decode cX12_part 67 = .ok (.getfield 37, 3) := by decide +kernel
theorem dX12_part_70 : decode cX12_part 70 = .ok (.iload 4, 2) := by decide +kernel
theorem dX12_part_72 : decode cX12_part 72 = .ok (.baload, 1) := by decide +kernel
theorem dX12_part_73 : decode cX12_part 73 = .ok (.ifCond .eq 17, 3) := by decide +kernel
theorem dX12_part_76 : decode cX12_part 76 = .ok (.aload_n 0, 1) := by decide +kernel
theorem dX12_part_77 : decode cX12_part 77 = .ok (.getfield 30, 3) := by decide +kernel
theorem dX12_part_80 : decode cX12_part 80 = .ok (.iload 4, 2) := by decide +kernel
theorem dX12_part_82 : decode cX12_part 82 = .ok (.baload, 1) := by decide +kernel
theorem dX12_part_83 : decode cX12_part 83 = .ok (.ifCond .eq 7, 3) := by decide +kernel
theorem dX12_part_86 : decode cX12_part 86 = .ok (.iconst 1, 1) := by decide +kernel
theorem dX12_part_87 : decode cX12_part 87 = .ok (.goto 4, 3) := by decide +kernel
theorem dX12_part_90 : decode cX12_part 90 = .ok (.iconst 0, 1) := by decide +kernel
theorem dX12_part_91 : decode cX12_part 91 = .ok (.bastore, 1) := by decide +kernel
theorem dX12_part_92 : decode cX12_part 92 = .ok (.iinc 4 1, 3) := by decide +kernel
theorem dX12_part_95 : decode cX12_part 95 = .ok (.goto (-42), 3) := by decide +kernel
theorem dX12_part_98 : decode cX12_part 98 = .ok (.aload_n 0, 1) := by decide +kernel
theorem dX12_part_99 : decode cX12_part 99 = .ok (.invokevirtual 198, 3) := by decide +kernel
theorem dX12_part_102 : decode cX12_part 102 = .ok (.ifCond .eq 11, 3) := by decide +kernel
theorem dX12_part_105 : decode cX12_part 105 = .ok (.aload_n 0, 1) := by decide +kernel
theorem dX12_part_106 : decode cX12_part 106 = .ok (.iload_n 3, 1) := by decide +kernel
theorem dX12_part_107 : decode cX12_part 107 = .ok (.invokevirtual 190, 3) := by decide +kernel
theorem dX12_part_110 : decode cX12_part 110 = .ok (.goto 4, 3) := by decide +kernel
theorem dX12_part_113 : decode cX12_part 113 = .ok (.iconst (-1), 1) := by decide +kernel
theorem dX12_part_114 : decode cX12_part 114 = .ok (.ireturn, 1) := by decide +kernel
theorem dX12_factor_0 : decode cX12_factor 0 = .ok (.aload_n 0, 1) := by decide +kernel
theorem dX12_factor_1 : decode cX12_factor 1 = .ok (.iconst 0, 1) := by decide +kernel
theorem dX12_factor_2 : decode cX12_factor 2 = .ok (.putfield 96, 3) := by decide +kernel
theorem dX12_factor_5 : decode cX12_factor 5 = .ok (.iload_n 1, 1) := by decide +kernel
theorem dX12_factor_6 : decode cX12_factor 6 = .ok (.invokestatic 111, 3) := by decide +kernel
theorem dX12_factor_9 : decode cX12_factor 9 = .ok (.ifCond .eq 10, 3) := by decide +kernel
theorem dX12_factor_12 : decode cX12_factor 12 = .ok (.iload_n 3, 1) := by decide +kernel
theorem dX12_factor_13 : decode cX12_factor 13 = .ok (.invokestatic 111, 3) := by decide +kernel
theorem dX12_factor_16 : decode cX12_factor 16 = .ok (.ifCond .ne 9, 3) := by decide +kernel
theorem dX12_factor_19 : decode cX12_factor 19 = .ok (.aload_n 0, 1) := by decide +kernel
theorem dX12_factor_20 : decode cX12_factor 20 = .ok (.iconst 1, 1) := by decide +kernel
theorem dX12_factor_21 : decode cX12_factor 21 = .ok (.invokevirtual 122, 3) := by decide +kernel
theorem dX12_factor_24 : decode cX12_factor 24 = .ok (.ireturn, 1) := by decide +kernel
theorem dX12_factor_25 : decode cX12_factor 25 = .ok (.iload_n 2, 1) := by decide +kernel
theorem dX12_factor_26 : decode cX12_factor 26 = .ok (.iconst 1, 1) := by decide +kernel
theorem dX12_factor_27 : decode cX12_factor 27 = .ok (.if_icmp .lt 10, 3) := by decide +kernel
theorem dX12_factor_30 : decode cX12_factor 30 = .ok (.iload_n 2, 1) := by decide +kernel
theorem dX12_factor_31 : decode cX12_factor 31 = .ok (.sipush 300, 3) := by decide +kernel
theorem dX12_factor_34 : decode cX12_factor 34 = .ok (.if_icmp .le 9, 3) := by decide +kernel
theorem dX12_factor_37 : decode cX12_factor 37 = .ok (.aload_n 0, 1) := by decide +kernel
theorem dX12_factor_38 : decode cX12_factor 38 = .ok (.iconst 2, 1) := by decide +kernel
theorem dX12_factor_39 : decode cX12_factor 39 = .ok (.invokevirtual 122, 3) := by decide +kernel
theorem dX12_factor_42 : decode cX12_factor 42 = .ok (.ireturn, 1) := by decide +kernel
theorem dX12_factor_43 : decode cX12_factor 43 = .ok (.aload_n 0, 1) := by decide +kernel
theorem dX12_factor_44 : decode cX12_factor 44 = .ok (.iload_n 1, 1) := by decide +kernel
theorem dX12_factor_45 : decode cX12_factor 45 = .ok (.aload_n 0, 1) := by decide +kernel
theorem dX12_factor_46 : decode cX12_factor 46 = .ok (.getfield 30, 3) := by decide +kernel
theorem dX12_factor_49 : decode cX12_factor 49 = .ok (.invokevirtual 194, 3) := by decide +kernel
theorem dX12_factor_52 : decode cX12_factor 52 = .ok (.aload_n 0, 1) := by decide +kernel
theorem dX12_factor_53 : decode cX12_factor 53 = .ok (.iload_n 1, 1) := by decide +kernel
theorem dX12_factor_54 : decode cX12_factor 54 = .ok (.invokevirtual 168, 3) := by decide +kernel
theorem dX12_factor_57 : decode cX12_factor 57 = .ok (.istore 4, 2) := by decide +kernel
theorem dX12_factor_59 : decode cX12_factor 59 = .ok (.iconst 0, 1) := by decide +kernel
theorem dX12_factor_60 : decode cX12_factor 60 = .ok (.istore 5, 2) := by decide +kernel
theorem dX12_factor_62 : decode cX12_factor 62 = .ok (.iload 5, 2) := by decide +kernel
theorem dX12_factor_64 : decode cX12_factor 64 = .ok (.ldc 193, 2) := by decide +kernel
theorem dX12_factor_66 : decode cX12_factor 66 = .ok (.if_icmp .gt 65, 3) := by decide +kernel
theorem dX12_factor_69 : decode cX12_factor 69 = .ok (.iload_n 2, 1) := by decide +kernel
theorem dX12_factor_70 : decode cX12_factor 70 = .ok (.i2l, 1) := by decide +kernel
theorem dX12_factor_71 : decode cX12_factor 71 = .ok (.iload 5, 2) := by decide +kernel
theorem dX12_factor_73 : decode cX12_factor 73 = .ok (.i2l, 1) := by decide +kernel
theorem dX12_factor_74 : decode cX12_factor 74 = .ok (.lmul, 1) := by decide +kernel
theorem dX12_factor_75 : decode cX12_factor 75 = .ok (.lstore 6, 2) := by decide +kernel
theorem dX12_factor_77 : decode cX12_factor 77 = .ok (.aload_n 0, 1) := by decide +kernel
theorem dX12_factor_78 : decode cX12_factor 78 = .ok (.getfield 37, 3) := by decide +kernel
theorem dX12_factor_81 : decode cX12_factor 81 = .ok (.iload 5, 2) := by decide +kernel
theorem dX12_factor_83 : decode cX12_factor 83 = .ok (.lload 6, 2) := by decide +kernel
theorem dX12_factor_85 : decode cX12_factor 85 = .ok (.ldc2_w 202, 3) := by decide +kernel
theorem dX12_factor_88 : decode cX12_factor 88 = .ok (.lcmp, 1) := by decide +kernel
theorem dX12_factor_89 : decode cX12_factor 89 = .ok (.ifCond .gt 14, 3) := by decide +kernel
theorem dX12_factor_92 : decode cX12_factor 92 = .ok (.aload_n 0, 1) := by decide +kernel
theorem dX12_factor_93 : decode cX12_factor 93 = .ok (.getfield 30, 3) := by decide +kernel
theorem dX12_factor_96 : decode cX12_factor 96 = .ok (.lload 6, 2) := by decide +kernel
theorem dX12_factor_98 : decode cX12_factor 98 = .ok (.l2i, 1) := by decide +kernel
theorem dX12_factor_99 : decode cX12_factor 99 = .ok (.baload, 1) := by decide +kernel
theorem dX12_factor_100 : decode cX12_factor 100 = .ok (.goto 24, 3) := by decide +kernel
theorem dX12_factor_103 : decode cX12_factor 103 = .ok (.iload 4, 2) := by decide +kernel
theorem dX12_factor_105 : decode cX12_factor 105 = .ok (.ifCond .le 18, 3) := by decide +kernel
theorem dX12_factor_108 : decode cX12_factor 108 = .ok (.lload 6, 2) := by decide +kernel
theorem dX12_factor_110 : decode cX12_factor 110 = .ok (.iload 4, 2) := by decide +kernel
theorem dX12_factor_112 : decode cX12_factor 112 = .ok (.i2l, 1) := by decide +kernel
theorem dX12_factor_113 : decode cX12_factor 113 = .ok (.lrem, 1) := by decide +kernel
theorem dX12_factor_114 : decode cX12_factor 114 = .ok (.lconst 0, 1) := by decide +kernel
theorem dX12_factor_115 : decode cX12_factor 115 = .ok (.lcmp, 1) := by decide +kernel
theorem dX12_factor_116 : decode cX12_factor 116 = .ok (.ifCond .ne 7, 3) := by decide +kernel
theorem dX12_factor_119 : decode cX12_factor 119 = .ok (.iconst 1, 1) := by decide +kernel
theorem dX12_factor_120 : decode cX12_factor 120 = .ok (.goto 4, 3) := by decide +kernel
theorem dX12_factor_123 : decode cX12_factor 123 = .ok (.iconst 0, 1) := by decide +kernel
theorem dX12_factor_124 : decode cX12_factor 124 = .ok (.bastore, 1) := by decide +kernel
theorem dX12_factor_125 : decode cX12_factor 125 = .ok (.iinc 5 1, 3) := by decide +kernel
theorem dX12_factor_128 : decode cX12_factor 128 = .ok (.goto (-66), 3) := by decide +kernel
theorem dX12_factor_131 : decode cX12_factor 131 = .ok (.aload_n 0, 1) := by decide +kernel
theorem dX12_factor_132 : decode cX12_factor 132 = .ok (.invokevirtual 198, 3) := by decide +kernel
theorem dX12_factor_135 : decode cX12_factor 135 = .ok (.ifCond .eq 11, 3) := by decide +kernel
theorem dX12_factor_138 : decode cX12_factor 138 = .ok (.aload_n 0, 1) := by decide +kernel
theorem dX12_factor_139 : decode cX12_factor 139 = .ok (.iload_n 3, 1) := by decide +kernel
theorem dX12_factor_140 : decode cX12_factor 140 = .ok (.invokevirtual 190, 3) := by decide +kernel
theorem dX12_factor_143 : decode cX12_factor 143 = .ok (.goto 4, 3) := by decide +kernel
theorem dX12_factor_146 : decode cX12_factor 146 = .ok (.iconst (-1), 1) := by decide +kernel
theorem dX12_factor_147 : decode cX12_factor 147 = .ok (.ireturn, 1) := by decide +kernel
theorem dX12_count_0 : decode cX12_count 0 = .ok (.iconst 0, 1) := by decide +kernel
theorem dX12_count_1 : decode cX12_count 1 = .ok (.istore 4, 2) := by decide +kernel
theorem dX12_count_3 : decode cX12_count 3 = .ok (.iload 4, 2) := by decide +kernel
theorem dX12_count_5 : decode cX12_count 5 = .ok (.sipush 3001, 3) := by decide +kernel
theorem dX12_count_8 : decode cX12_count 8 = .ok (.if_icmp .ge 28, 3) := by decide +kernel
theorem dX12_count_11 : decode cX12_count 11 = .ok (.aload_n 0, 1) := by decide +kernel
theorem dX12_count_12 : decode cX12_count 12 = .ok (.getfield 42, 3) := by decide +kernel
theorem dX12_count_15 : decode cX12_count 15 = .ok (.iconst 0, 1) := by decide +kernel
theorem dX12_count_16 : decode cX12_count 16 = .ok (.aaload, 1) := by decide +kernel
theorem dX12_count_17 : decode cX12_count 17 = .ok (.iload 4, 2) := by decide +kernel
theorem dX12_count_19 : decode cX12_count 19 = .ok (.iload 4, 2) := by decide +kernel
theorem dX12_count_21 : decode cX12_count 21 = .ok (.ifCond .ne 7, 3) := by decide +kernel
theorem dX12_count_24 : decode cX12_count 24 = .ok (.lconst 1, 1) := by decide +kernel
theorem dX12_count_25 : decode cX12_count 25 = .ok (.goto 4, 3) := by decide +kernel
theorem dX12_count_28 : decode cX12_count 28 = .ok (.lconst 0, 1) := by decide +kernel
theorem dX12_count_29 : decode cX12_count 29 = .ok (.lastore, 1) := by decide +kernel
theorem dX12_count_30 : decode cX12_count 30 = .ok (.iinc 4 1, 3) := by decide +kernel
theorem dX12_count_33 : decode cX12_count 33 = .ok (.goto (-30), 3) := by decide +kernel
theorem dX12_count_36 : decode cX12_count 36 = .ok (.iconst 1, 1) := by decide +kernel
theorem dX12_count_37 : decode cX12_count 37 = .ok (.istore 4, 2) := by decide +kernel
theorem dX12_count_39 : decode cX12_count 39 = .ok (.iload 4, 2) := by decide +kernel
theorem dX12_count_41 : decode cX12_count 41 = .ok (.iload_n 3, 1) := by decide +kernel
theorem dX12_count_42 : decode cX12_count 42 = .ok (.if_icmp .gt 93, 3) := by decide +kernel
theorem dX12_count_45 : decode cX12_count 45 = .ok (.aload_n 1, 1) := by decide +kernel
theorem dX12_count_46 : decode cX12_count 46 = .ok (.iload_n 2, 1) := by decide +kernel
theorem dX12_count_47 : decode cX12_count 47 = .ok (.iload 4, 2) := by decide +kernel
theorem dX12_count_49 : decode cX12_count 49 = .ok (.iadd, 1) := by decide +kernel
theorem dX12_count_50 : decode cX12_count 50 = .ok (.iconst 1, 1) := by decide +kernel
theorem dX12_count_51 : decode cX12_count 51 = .ok (.isub, 1) := by decide +kernel
theorem dX12_count_52 : decode cX12_count 52 = .ok (.iaload, 1) := by decide +kernel
theorem dX12_count_53 : decode cX12_count 53 = .ok (.istore 5, 2) := by decide +kernel
theorem dX12_count_55 : decode cX12_count 55 = .ok (.iconst 0, 1) := by decide +kernel
theorem dX12_count_56 : decode cX12_count 56 = .ok (.istore 6, 2) := by decide +kernel
theorem dX12_count_58 : decode cX12_count 58 = .ok (.iload 6, 2) := by decide +kernel
theorem dX12_count_60 : decode cX12_count 60 = .ok (.sipush 3001, 3) := by decide +kernel
theorem dX12_count_63 : decode cX12_count 63 = .ok (.if_icmp .ge 66, 3) := by decide +kernel
theorem dX12_count_66 : decode cX12_count 66 = .ok (.aload_n 0, 1) := by decide +kernel
theorem dX12_count_67 : decode cX12_count 67 = .ok (.getfield 42, 3) := by decide +kernel
theorem dX12_count_70 : decode cX12_count 70 = .ok (.iload 4, 2) := by decide +kernel
theorem dX12_count_72 : decode cX12_count 72 = .ok (.iconst 1, 1) := by decide +kernel
theorem dX12_count_73 : decode cX12_count 73 = .ok (.isub, 1) := by decide +kernel
theorem dX12_count_74 : decode cX12_count 74 = .ok (.aaload, 1) := by decide +kernel
theorem dX12_count_75 : decode cX12_count 75 = .ok (.iload 6, 2) := by decide +kernel
theorem dX12_count_77 : decode cX12_count 77 = .ok (.laload, 1) := by decide +kernel
theorem dX12_count_78 : decode cX12_count 78 = .ok (.iload 6, 2) := by decide +kernel
theorem dX12_count_80 : decode cX12_count 80 = .ok (.iload 5, 2) := by decide +kernel
theorem dX12_count_82 : decode cX12_count 82 = .ok (.if_icmp .lt 19, 3) := by decide +kernel
theorem dX12_count_85 : decode cX12_count 85 = .ok (.aload_n 0, 1) := by decide +kernel
theorem dX12_count_86 : decode cX12_count 86 = .ok (.getfield 42, 3) := by decide +kernel
theorem dX12_count_89 : decode cX12_count 89 = .ok (.iload 4, 2) := by decide +kernel
theorem dX12_count_91 : decode cX12_count 91 = .ok (.aaload, 1) := by decide +kernel
theorem dX12_count_92 : decode cX12_count 92 = .ok (.iload 6, 2) := by decide +kernel
theorem dX12_count_94 : decode cX12_count 94 = .ok (.iload 5, 2) := by decide +kernel
theorem dX12_count_96 : decode cX12_count 96 = .ok (.isub, 1) := by decide +kernel
theorem dX12_count_97 : decode cX12_count 97 = .ok (.laload, 1) := by decide +kernel
theorem dX12_count_98 : decode cX12_count 98 = .ok (.goto 4, 3) := by decide +kernel
theorem dX12_count_101 : decode cX12_count 101 = .ok (.lconst 0, 1) := by decide +kernel
theorem dX12_count_102 : decode cX12_count 102 = .ok (.ladd, 1) := by decide +kernel
theorem dX12_count_103 : decode cX12_count 103 = .ok (.lstore 7, 2) := by decide +kernel
theorem dX12_count_105 : decode cX12_count 105 = .ok (.aload_n 0, 1) := by decide +kernel
theorem dX12_count_106 : decode cX12_count 106 = .ok (.getfield 42, 3) := by decide +kernel
theorem dX12_count_109 : decode cX12_count 109 = .ok (.iload 4, 2) := by decide +kernel
theorem dX12_count_111 : decode cX12_count 111 = .ok (.aaload, 1) := by decide +kernel
theorem dX12_count_112 : decode cX12_count 112 = .ok (.iload 6, 2) := by decide +kernel
theorem dX12_count_114 : decode cX12_count 114 = .ok (.lload 7, 2) := by decide +kernel
theorem dX12_count_116 : decode cX12_count 116 = .ok (.ldc2_w 204, 3) := by decide +kernel
theorem dX12_count_119 : decode cX12_count 119 = .ok (.invokestatic 206, 3) := by decide +kernel
theorem dX12_count_122 : decode cX12_count 122 = .ok (.lastore, 1) := by decide +kernel
theorem dX12_count_123 : decode cX12_count 123 = .ok (.iinc 6 1, 3) := by decide +kernel
theorem dX12_count_126 : decode cX12_count 126 = .ok (.goto (-68), 3) := by decide +kernel
theorem dX12_count_129 : decode cX12_count 129 = .ok (.iinc 4 1, 3) := by decide +kernel
theorem dX12_count_132 : decode cX12_count 132 = .ok (.goto (-93), 3) := by decide +kernel
theorem dX12_count_135 : decode cX12_count 135 = .ok (.return_, 1) := by decide +kernel
theorem dX12_ways_0 : decode cX12_ways 0 = .ok (.aload_n 0, 1) := by decide +kernel
theorem dX12_ways_1 : decode cX12_ways 1 = .ok (.iconst 0, 1) := by decide +kernel
theorem dX12_ways_2 : decode cX12_ways 2 = .ok (.putfield 96, 3) := by decide +kernel
theorem dX12_ways_5 : decode cX12_ways 5 = .ok (.iload_n 1, 1) := by decide +kernel
theorem dX12_ways_6 : decode cX12_ways 6 = .ok (.invokestatic 111, 3) := by decide +kernel
theorem dX12_ways_9 : decode cX12_ways 9 = .ok (.ifCond .ne 10, 3) := by decide +kernel
theorem dX12_ways_12 : decode cX12_ways 12 = .ok (.aload_n 0, 1) := by decide +kernel
theorem dX12_ways_13 : decode cX12_ways 13 = .ok (.iconst 1, 1) := by decide +kernel
theorem dX12_ways_14 : decode cX12_ways 14 = .ok (.invokevirtual 122, 3) := by decide +kernel
theorem dX12_ways_17 : decode cX12_ways 17 = .ok (.i2l, 1) := by decide +kernel
theorem dX12_ways_18 : decode cX12_ways 18 = .ok (.lreturn, 1) := by decide +kernel
theorem dX12_ways_19 : decode cX12_ways 19 = .ok (.iload_n 2, 1) := by decide +kernel
theorem dX12_ways_20 : decode cX12_ways 20 = .ok (.ifCond .lt 10, 3) := by decide +kernel
theorem dX12_ways_23 : decode cX12_ways 23 = .ok (.iload_n 2, 1) := by decide +kernel
theorem dX12_ways_24 : decode cX12_ways 24 = .ok (.sipush 3001, 3) := by decide +kernel
theorem dX12_ways_27 : decode cX12_ways 27 = .ok (.if_icmp .lt 10, 3) := by decide +kernel
theorem dX12_ways_30 : decode cX12_ways 30 = .ok (.aload_n 0, 1) := by decide +kernel
theorem dX12_ways_31 : decode cX12_ways 31 = .ok (.iconst 2, 1) := by decide +kernel
theorem dX12_ways_32 : decode cX12_ways 32 = .ok (.invokevirtual 122, 3) := by decide +kernel
theorem dX12_ways_35 : decode cX12_ways 35 = .ok (.i2l, 1) := by decide +kernel
theorem dX12_ways_36 : decode cX12_ways 36 = .ok (.lreturn, 1) := by decide +kernel
theorem dX12_ways_37 : decode cX12_ways 37 = .ok (.aload_n 0, 1) := by decide +kernel
theorem dX12_ways_38 : decode cX12_ways 38 = .ok (.aload_n 0, 1) := by decide +kernel
theorem dX12_ways_39 : decode cX12_ways 39 = .ok (.getfield 9, 3) := by decide +kernel
theorem dX12_ways_42 : decode cX12_ways 42 = .ok (.iload_n 1, 1) := by decide +kernel
theorem dX12_ways_43 : decode cX12_ways 43 = .ok (.invokestatic 115, 3) := by decide +kernel
theorem dX12_ways_46 : decode cX12_ways 46 = .ok (.iconst 1, 1) := by decide +kernel
theorem dX12_ways_47 : decode cX12_ways 47 = .ok (.iadd, 1) := by decide +kernel
theorem dX12_ways_48 : decode cX12_ways 48 = .ok (.aload_n 0, 1) := by decide +kernel
theorem dX12_ways_49 : decode cX12_ways 49 = .ok (.getfield 9, 3) := by decide +kernel
theorem dX12_ways_52 : decode cX12_ways 52 = .ok (.iload_n 1, 1) := by decide +kernel
theorem dX12_ways_53 : decode cX12_ways 53 = .ok (.invokestatic 115, 3) := by decide +kernel
theorem dX12_ways_56 : decode cX12_ways 56 = .ok (.iaload, 1) := by decide +kernel
theorem dX12_ways_57 : decode cX12_ways 57 = .ok (.invokevirtual 209, 3) := by decide +kernel
theorem dX12_ways_60 : decode cX12_ways 60 = .ok (.aload_n 0, 1) := by decide +kernel
theorem dX12_ways_61 : decode cX12_ways 61 = .ok (.getfield 42, 3) := by decide +kernel
theorem dX12_ways_64 : decode cX12_ways 64 = .ok (.aload_n 0, 1) := by decide +kernel
theorem dX12_ways_65 : decode cX12_ways 65 = .ok (.getfield 9, 3) := by decide +kernel
theorem dX12_ways_68 : decode cX12_ways 68 = .ok (.iload_n 1, 1) := by decide +kernel
theorem dX12_ways_69 : decode cX12_ways 69 = .ok (.invokestatic 115, 3) := by decide +kernel
theorem dX12_ways_72 : decode cX12_ways 72 = .ok (.iaload, 1) := by decide +kernel
theorem dX12_ways_73 : decode cX12_ways 73 = .ok (.aaload, 1) := by decide +kernel
theorem dX12_ways_74 : decode cX12_ways 74 = .ok (.iload_n 2, 1) := by decide +kernel
theorem dX12_ways_75 : decode cX12_ways 75 = .ok (.laload, 1) := by decide +kernel
theorem dX12_ways_76 : decode cX12_ways 76 = .ok (.lstore_n 3, 1) := by decide +kernel
theorem dX12_ways_77 : decode cX12_ways 77 = .ok (.lload_n 3, 1) := by decide +kernel
theorem dX12_ways_78 : decode cX12_ways 78 = .ok (.ldc2_w 213, 3) := by decide +kernel
theorem dX12_ways_81 : decode cX12_ways 81 = .ok (.lcmp, 1) := by decide +kernel
theorem dX12_ways_82 : decode cX12_ways 82 = .ok (.ifCond .le 9, 3) := by decide +kernel
theorem dX12_ways_85 : decode cX12_ways 85 = .ok (.ldc2_w 215, 3) := by decide +kernel
theorem dX12_ways_88 : decode cX12_ways 88 = .ok (.goto 4, 3) := by decide +kernel
theorem dX12_ways_91 : decode cX12_ways 91 = .ok (.lload_n 3, 1) := by decide +kernel
theorem dX12_ways_92 : decode cX12_ways 92 = .ok (.lreturn, 1) := by decide +kernel
theorem dX12_of_0 : decode cX12_of 0 = .ok (.aload_n 0, 1) := by decide +kernel
theorem dX12_of_1 : decode cX12_of 1 = .ok (.iconst 0, 1) := by decide +kernel
theorem dX12_of_2 : decode cX12_of 2 = .ok (.putfield 96, 3) := by decide +kernel
theorem dX12_of_5 : decode cX12_of 5 = .ok (.iload_n 1, 1) := by decide +kernel
theorem dX12_of_6 : decode cX12_of 6 = .ok (.invokestatic 111, 3) := by decide +kernel
theorem dX12_of_9 : decode cX12_of 9 = .ok (.ifCond .ne 11, 3) := by decide +kernel
theorem dX12_of_12 : decode cX12_of 12 = .ok (.aload_n 0, 1) := by decide +kernel
theorem dX12_of_13 : decode cX12_of 13 = .ok (.iconst 1, 1) := by decide +kernel
theorem dX12_of_14 : decode cX12_of 14 = .ok (.invokevirtual 122, 3) := by decide +kernel
theorem dX12_of_17 : decode cX12_of 17 = .ok (.pop, 1) := by decide +kernel
theorem dX12_of_18 : decode cX12_of 18 = .ok (.iconst 0, 1) := by decide +kernel
theorem dX12_of_19 : decode cX12_of 19 = .ok (.ireturn, 1) := by decide +kernel
theorem dX12_of_20 : decode cX12_of 20 = .ok (.iload_n 2, 1) := by decide +kernel
theorem dX12_of_21 : decode cX12_of 21 = .ok (.ifCond .lt 10, 3) := by decide +kernel
theorem dX12_of_24 : decode cX12_of 24 = .ok (.iload_n 2, 1) := by decide +kernel
theorem dX12_of_25 : decode cX12_of 25 = .ok (.sipush 3001, 3) := by decide +kernel
theorem dX12_of_28 : decode cX12_of 28 = .ok (.if_icmp .lt 11, 3) := by decide +kernel
theorem dX12_of_31 : decode cX12_of 31 = .ok (.aload_n 0, 1) := by decide +kernel
theorem dX12_of_32 : decode cX12_of 32 = .ok (.iconst 2, 1) := by decide +kernel
theorem dX12_of_33 : decode cX12_of 33 = .ok (.invokevirtual 122, 3) := by decide +kernel
theorem dX12_of_36 : decode cX12_of 36 = .ok (.pop, 1) := by decide +kernel
theorem dX12_of_37 : decode cX12_of 37 = .ok (.iconst 0, 1) := by decide +kernel
theorem dX12_of_38 : decode cX12_of 38 = .ok (.ireturn, 1) := by decide +kernel
theorem dX12_of_39 : decode cX12_of 39 = .ok (.aload_n 0, 1) := by decide +kernel
theorem dX12_of_40 : decode cX12_of 40 = .ok (.getfield 9, 3) := by decide +kernel
theorem dX12_of_43 : decode cX12_of 43 = .ok (.iload_n 1, 1) := by decide +kernel
theorem dX12_of_44 : decode cX12_of 44 = .ok (.invokestatic 115, 3) := by decide +kernel
theorem dX12_of_47 : decode cX12_of 47 = .ok (.iaload, 1) := by decide +kernel
theorem dX12_of_48 : decode cX12_of 48 = .ok (.istore 5, 2) := by decide +kernel
theorem dX12_of_50 : decode cX12_of 50 = .ok (.aload_n 0, 1) := by decide +kernel
theorem dX12_of_51 : decode cX12_of 51 = .ok (.aload_n 0, 1) := by decide +kernel
theorem dX12_of_52 : decode cX12_of 52 = .ok (.getfield 9, 3) := by decide +kernel
theorem dX12_of_55 : decode cX12_of 55 = .ok (.iload_n 1, 1) := by decide +kernel
theorem dX12_of_56 : decode cX12_of 56 = .ok (.invokestatic 115, 3) := by decide +kernel
theorem dX12_of_59 : decode cX12_of 59 = .ok (.iconst 1, 1) := by decide +kernel
theorem dX12_of_60 : decode cX12_of 60 = .ok (.iadd, 1) := by decide +kernel
theorem dX12_of_61 : decode cX12_of 61 = .ok (.iload 5, 2) := by decide +kernel
theorem dX12_of_63 : decode cX12_of 63 = .ok (.invokevirtual 209, 3) := by decide +kernel
theorem dX12_of_66 : decode cX12_of 66 = .ok (.aload_n 0, 1) := by decide +kernel
theorem dX12_of_67 : decode cX12_of 67 = .ok (.getfield 42, 3) := by decide +kernel
theorem dX12_of_70 : decode cX12_of 70 = .ok (.iload 5, 2) := by decide +kernel
theorem dX12_of_72 : decode cX12_of 72 = .ok (.aaload, 1) := by decide +kernel
theorem dX12_of_73 : decode cX12_of 73 = .ok (.iload_n 2, 1) := by decide +kernel
theorem dX12_of_74 : decode cX12_of 74 = .ok (.laload, 1) := by decide +kernel
theorem dX12_of_75 : decode cX12_of 75 = .ok (.lstore 6, 2) := by decide +kernel
theorem dX12_of_77 : decode cX12_of 77 = .ok (.lload_n 3, 1) := by decide +kernel
