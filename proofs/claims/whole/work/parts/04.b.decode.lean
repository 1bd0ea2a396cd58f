theorem dX11_init_0 : decode cX11_init 0 = .ok (.aload_n 0, 1) := by decide +kernel
theorem dX11_init_1 : decode cX11_init 1 = .ok (.invokespecial 5, 3) := by decide +kernel
theorem dX11_init_4 : decode cX11_init 4 = .ok (.aload_n 0, 1) := by decide +kernel
theorem dX11_init_5 : decode cX11_init 5 = .ok (.new 11, 3) := by decide +kernel
theorem dX11_init_8 : decode cX11_init 8 = .ok (.dup, 1) := by decide +kernel
theorem dX11_init_9 : decode cX11_init 9 = .ok (.invokespecial 13, 3) := by decide +kernel
theorem dX11_init_12 : decode cX11_init 12 = .ok (.putfield 14, 3) := by decide +kernel
theorem dX11_init_15 : decode cX11_init 15 = .ok (.aload_n 0, 1) := by decide +kernel
theorem dX11_init_16 : decode cX11_init 16 = .ok (.new 20, 3) := by decide +kernel
theorem dX11_init_19 : decode cX11_init 19 = .ok (.dup, 1) := by decide +kernel
theorem dX11_init_20 : decode cX11_init 20 = .ok (.invokespecial 22, 3) := by decide +kernel
theorem dX11_init_23 : decode cX11_init 23 = .ok (.putfield 23, 3) := by decide +kernel
theorem dX11_init_26 : decode cX11_init 26 = .ok (.aload_n 0, 1) := by decide +kernel
theorem dX11_init_27 : decode cX11_init 27 = .ok (.new 27, 3) := by decide +kernel
theorem dX11_init_30 : decode cX11_init 30 = .ok (.dup, 1) := by decide +kernel
theorem dX11_init_31 : decode cX11_init 31 = .ok (.invokespecial 29, 3) := by decide +kernel
theorem dX11_init_34 : decode cX11_init 34 = .ok (.putfield 30, 3) := by decide +kernel
theorem dX11_init_37 : decode cX11_init 37 = .ok (.aload_n 0, 1) := by decide +kernel
theorem dX11_init_38 : decode cX11_init 38 = .ok (.new 27, 3) := by decide +kernel
theorem dX11_init_41 : decode cX11_init 41 = .ok (.dup, 1) := by decide +kernel
theorem dX11_init_42 : decode cX11_init 42 = .ok (.invokespecial 29, 3) := by decide +kernel
theorem dX11_init_45 : decode cX11_init 45 = .ok (.putfield 34, 3) := by decide +kernel
theorem dX11_init_48 : decode cX11_init 48 = .ok (.aload_n 0, 1) := by decide +kernel
theorem dX11_init_49 : decode cX11_init 49 = .ok (.new 27, 3) := by decide +kernel
theorem dX11_init_52 : decode cX11_init 52 = .ok (.dup, 1) := by decide +kernel
theorem dX11_init_53 : decode cX11_init 53 = .ok (.invokespecial 29, 3) := by decide +kernel
theorem dX11_init_56 : decode cX11_init 56 = .ok (.putfield 37, 3) := by decide +kernel
theorem dX11_init_59 : decode cX11_init 59 = .ok (.aload_n 0, 1) := by decide +kernel
theorem dX11_init_60 : decode cX11_init 60 = .ok (.new 40, 3) := by decide +kernel
theorem dX11_init_63 : decode cX11_init 63 = .ok (.dup, 1) := by decide +kernel
theorem dX11_init_64 : decode cX11_init 64 = .ok (.invokespecial 42, 3) := by decide +kernel
theorem dX11_init_67 : decode cX11_init 67 = .ok (.putfield 43, 3) := by decide +kernel
theorem dX11_init_70 : decode cX11_init 70 = .ok (.aload_n 0, 1) := by decide +kernel
theorem dX11_init_71 : decode cX11_init 71 = .ok (.new 47, 3) := by decide +kernel
theorem dX11_init_74 : decode cX11_init 74 = .ok (.dup, 1) := by decide +kernel
theorem dX11_init_75 : decode cX11_init 75 = .ok (.invokespecial 49, 3) := by decide +kernel
theorem dX11_init_78 : decode cX11_init 78 = .ok (.putfield 50, 3) := by decide +kernel
theorem dX11_init_81 : decode cX11_init 81 = .ok (.aload_n 0, 1) := by decide +kernel
theorem dX11_init_82 : decode cX11_init 82 = .ok (.new 54, 3) := by decide +kernel
theorem dX11_init_85 : decode cX11_init 85 = .ok (.dup, 1) := by decide +kernel
theorem dX11_init_86 : decode cX11_init 86 = .ok (.invokespecial 56, 3) := by decide +kernel
theorem dX11_init_89 : decode cX11_init 89 = .ok (.putfield 57, 3) := by decide +kernel
theorem dX11_init_92 : decode cX11_init 92 = .ok (.aload_n 0, 1) := by decide +kernel
theorem dX11_init_93 : decode cX11_init 93 = .ok (.new 61, 3) := by decide +kernel
theorem dX11_init_96 : decode cX11_init 96 = .ok (.dup, 1) := by decide +kernel
theorem dX11_init_97 : decode cX11_init 97 = .ok (.invokespecial 63, 3) := by decide +kernel
theorem dX11_init_100 : decode cX11_init 100 = .ok (.putfield 64, 3) := by decide +kernel
theorem dX11_init_103 : decode cX11_init 103 = .ok (.aload_n 0, 1) := by decide +kernel
theorem dX11_init_104 : decode cX11_init 104 = .ok (.new 68, 3) := by decide +kernel
theorem dX11_init_107 : decode cX11_init 107 = .ok (.dup, 1) := by decide +kernel
theorem dX11_init_108 : decode cX11_init 108 = .ok (.invokespecial 70, 3) := by decide +kernel
theorem dX11_init_111 : decode cX11_init 111 = .ok (.putfield 71, 3) := by decide +kernel
theorem dX11_init_114 : decode cX11_init 114 = .ok (.aload_n 0, 1) := by decide +kernel
theorem dX11_init_115 : decode cX11_init 115 = .ok (.new 75, 3) := by decide +kernel
theorem dX11_init_118 : decode cX11_init 118 = .ok (.dup, 1) := by decide +kernel
theorem dX11_init_119 : decode cX11_init 119 = .ok (.invokespecial 77, 3) := by decide +kernel
theorem dX11_init_122 : decode cX11_init 122 = .ok (.putfield 78, 3) := by decide +kernel
theorem dX11_init_125 : decode cX11_init 125 = .ok (.aload_n 0, 1) := by decide +kernel
theorem dX11_init_126 : decode cX11_init 126 = .ok (.new 75, 3) := by decide +kernel
theorem dX11_init_129 : decode cX11_init 129 = .ok (.dup, 1) := by decide +kernel
theorem dX11_init_130 : decode cX11_init 130 = .ok (.invokespecial 77, 3) := by decide +kernel
theorem dX11_init_133 : decode cX11_init 133 = .ok (.putfield 82, 3) := by decide +kernel
theorem dX11_init_136 : decode cX11_init 136 = .ok (.aload_n 0, 1) := by decide +kernel
theorem dX11_init_137 : decode cX11_init 137 = .ok (.new 85, 3) := by decide +kernel
theorem dX11_init_140 : decode cX11_init 140 = .ok (.dup, 1) := by decide +kernel
theorem dX11_init_141 : decode cX11_init 141 = .ok (.invokespecial 87, 3) := by decide +kernel
theorem dX11_init_144 : decode cX11_init 144 = .ok (.putfield 88, 3) := by decide +kernel
theorem dX11_init_147 : decode cX11_init 147 = .ok (.aload_n 0, 1) := by decide +kernel
theorem dX11_init_148 : decode cX11_init 148 = .ok (.new 85, 3) := by decide +kernel
theorem dX11_init_151 : decode cX11_init 151 = .ok (.dup, 1) := by decide +kernel
theorem dX11_init_152 : decode cX11_init 152 = .ok (.invokespecial 87, 3) := by decide +kernel
theorem dX11_init_155 : decode cX11_init 155 = .ok (.putfield 92, 3) := by decide +kernel
theorem dX11_init_158 : decode cX11_init 158 = .ok (.aload_n 0, 1) := by decide +kernel
theorem dX11_init_159 : decode cX11_init 159 = .ok (.new 85, 3) := by decide +kernel
theorem dX11_init_162 : decode cX11_init 162 = .ok (.dup, 1) := by decide +kernel
theorem dX11_init_163 : decode cX11_init 163 = .ok (.invokespecial 87, 3) := by decide +kernel
theorem dX11_init_166 : decode cX11_init 166 = .ok (.putfield 95, 3) := by decide +kernel
theorem dX11_init_169 : decode cX11_init 169 = .ok (.aload_n 0, 1) := by decide +kernel
theorem dX11_init_170 : decode cX11_init 170 = .ok (.iconst 0, 1) := by decide +kernel
theorem dX11_init_171 : decode cX11_init 171 = .ok (.putfield 98, 3) := by decide +kernel
theorem dX11_init_174 : decode cX11_init 174 = .ok (.return_, 1) := by decide +kernel
theorem dX11_coin_0 : decode cX11_coin 0 = .ok (.iload_n 1, 1) := by decide +kernel
theorem dX11_coin_1 : decode cX11_coin 1 = .ok (.invokestatic 102, 3) := by decide +kernel
theorem dX11_coin_4 : decode cX11_coin 4 = .ok (.ifCond .eq 15, 3) := by decide +kernel
theorem dX11_coin_7 : decode cX11_coin 7 = .ok (.iload_n 2, 1) := by decide +kernel
theorem dX11_coin_8 : decode cX11_coin 8 = .ok (.iconst 1, 1) := by decide +kernel
theorem dX11_coin_9 : decode cX11_coin 9 = .ok (.if_icmp .lt 10, 3) := by decide +kernel
theorem dX11_coin_12 : decode cX11_coin 12 = .ok (.iload_n 2, 1) := by decide +kernel
theorem dX11_coin_13 : decode cX11_coin 13 = .ok (.sipush 300, 3) := by decide +kernel
theorem dX11_coin_16 : decode cX11_coin 16 = .ok (.if_icmp .le 5, 3) := by decide +kernel
theorem dX11_coin_19 : decode cX11_coin 19 = .ok (.iconst (-1), 1) := by decide +kernel
theorem dX11_coin_20 : decode cX11_coin 20 = .ok (.ireturn, 1) := by decide +kernel
theorem dX11_coin_21 : decode cX11_coin 21 = .ok (.aload_n 0, 1) := by decide +kernel
theorem dX11_coin_22 : decode cX11_coin 22 = .ok (.getfield 14, 3) := by decide +kernel
theorem dX11_coin_25 : decode cX11_coin 25 = .ok (.iload_n 1, 1) := by decide +kernel
theorem dX11_coin_26 : decode cX11_coin 26 = .ok (.invokevirtual 106, 3) := by decide +kernel
theorem dX11_coin_29 : decode cX11_coin 29 = .ok (.astore_n 3, 1) := by decide +kernel
theorem dX11_coin_30 : decode cX11_coin 30 = .ok (.aload_n 3, 1) := by decide +kernel
theorem dX11_coin_31 : decode cX11_coin 31 = .ok (.invokevirtual 110, 3) := by decide +kernel
theorem dX11_coin_34 : decode cX11_coin 34 = .ok (.ifCond .ne 11, 3) := by decide +kernel
theorem dX11_coin_37 : decode cX11_coin 37 = .ok (.aload_n 3, 1) := by decide +kernel
theorem dX11_coin_38 : decode cX11_coin 38 = .ok (.iload_n 2, 1) := by decide +kernel
theorem dX11_coin_39 : decode cX11_coin 39 = .ok (.invokevirtual 114, 3) := by decide +kernel
theorem dX11_coin_42 : decode cX11_coin 42 = .ok (.ifCond .eq 5, 3) := by decide +kernel
theorem dX11_coin_45 : decode cX11_coin 45 = .ok (.iconst (-1), 1) := by decide +kernel
theorem dX11_coin_46 : decode cX11_coin 46 = .ok (.ireturn, 1) := by decide +kernel
theorem dX11_coin_47 : decode cX11_coin 47 = .ok (.aload_n 0, 1) := by decide +kernel
theorem dX11_coin_48 : decode cX11_coin 48 = .ok (.getfield 14, 3) := by decide +kernel
theorem dX11_coin_51 : decode cX11_coin 51 = .ok (.invokevirtual 117, 3) := by decide +kernel
theorem dX11_coin_54 : decode cX11_coin 54 = .ok (.aload_n 0, 1) := by decide +kernel
theorem dX11_coin_55 : decode cX11_coin 55 = .ok (.getfield 14, 3) := by decide +kernel
theorem dX11_coin_58 : decode cX11_coin 58 = .ok (.iload_n 1, 1) := by decide +kernel
theorem dX11_coin_59 : decode cX11_coin 59 = .ok (.invokevirtual 106, 3) := by decide +kernel
theorem dX11_coin_62 : decode cX11_coin 62 = .ok (.astore 4, 2) := by decide +kernel
theorem dX11_coin_64 : decode cX11_coin 64 = .ok (.aload 4, 2) := by decide +kernel
theorem dX11_coin_66 : decode cX11_coin 66 = .ok (.iload_n 2, 1) := by decide +kernel
theorem dX11_coin_67 : decode cX11_coin 67 = .ok (.invokevirtual 120, 3) := by decide +kernel
theorem dX11_coin_70 : decode cX11_coin 70 = .ok (.pop, 1) := by decide +kernel
theorem dX11_coin_71 : decode cX11_coin 71 = .ok (.aload 4, 2) := by decide +kernel
theorem dX11_coin_73 : decode cX11_coin 73 = .ok (.invokevirtual 123, 3) := by decide +kernel
theorem dX11_coin_76 : decode cX11_coin 76 = .ok (.ireturn, 1) := by decide +kernel
theorem dX11_melt_0 : decode cX11_melt 0 = .ok (.iload_n 1, 1) := by decide +kernel
theorem dX11_melt_1 : decode cX11_melt 1 = .ok (.invokestatic 102, 3) := by decide +kernel
theorem dX11_melt_4 : decode cX11_melt 4 = .ok (.ifCond .eq 18, 3) := by decide +kernel
theorem dX11_melt_7 : decode cX11_melt 7 = .ok (.aload_n 0, 1) := by decide +kernel
theorem dX11_melt_8 : decode cX11_melt 8 = .ok (.getfield 14, 3) := by decide +kernel
theorem dX11_melt_11 : decode cX11_melt 11 = .ok (.iload_n 1, 1) := by decide +kernel
theorem dX11_melt_12 : decode cX11_melt 12 = .ok (.invokevirtual 106, 3) := by decide +kernel
theorem dX11_melt_15 : decode cX11_melt 15 = .ok (.iload_n 2, 1) := by decide +kernel
theorem dX11_melt_16 : decode cX11_melt 16 = .ok (.invokevirtual 114, 3) := by decide +kernel
theorem dX11_melt_19 : decode cX11_melt 19 = .ok (.ifCond .ne 5, 3) := by decide +kernel
theorem dX11_melt_22 : decode cX11_melt 22 = .ok (.iconst 0, 1) := by decide +kernel
theorem dX11_melt_23 : decode cX11_melt 23 = .ok (.ireturn, 1) := by decide +kernel
theorem dX11_melt_24 : decode cX11_melt 24 = .ok (.aload_n 0, 1) := by decide +kernel
theorem dX11_melt_25 : decode cX11_melt 25 = .ok (.getfield 14, 3) := by decide +kernel
theorem dX11_melt_28 : decode cX11_melt 28 = .ok (.invokevirtual 117, 3) := by decide +kernel
theorem dX11_melt_31 : decode cX11_melt 31 = .ok (.aload_n 0, 1) := by decide +kernel
theorem dX11_melt_32 : decode cX11_melt 32 = .ok (.getfield 14, 3) := by decide +kernel
theorem dX11_melt_35 : decode cX11_melt 35 = .ok (.iload_n 1, 1) := by decide +kernel
theorem dX11_melt_36 : decode cX11_melt 36 = .ok (.invokevirtual 106, 3) := by decide +kernel
theorem dX11_melt_39 : decode cX11_melt 39 = .ok (.iload_n 2, 1) := by decide +kernel
theorem dX11_melt_40 : decode cX11_melt 40 = .ok (.invokevirtual 127, 3) := by decide +kernel
theorem dX11_melt_43 : decode cX11_melt 43 = .ok (.iconst 1, 1) := by decide +kernel
theorem dX11_melt_44 : decode cX11_melt 44 = .ok (.ireturn, 1) := by decide +kernel
theorem dX11_at_0 : decode cX11_at 0 = .ok (.aload_n 0, 1) := by decide +kernel
theorem dX11_at_1 : decode cX11_at 1 = .ok (.iload_n 1, 1) := by decide +kernel
theorem dX11_at_2 : decode cX11_at 2 = .ok (.invokevirtual 131, 3) := by decide +kernel
theorem dX11_at_5 : decode cX11_at 5 = .ok (.astore_n 3, 1) := by decide +kernel
theorem dX11_at_6 : decode cX11_at 6 = .ok (.iload_n 2, 1) := by decide +kernel
theorem dX11_at_7 : decode cX11_at 7 = .ok (.iconst (-1), 1) := by decide +kernel
theorem dX11_at_8 : decode cX11_at 8 = .ok (.if_icmp .ne 8, 3) := by decide +kernel
theorem dX11_at_11 : decode cX11_at 11 = .ok (.aload_n 3, 1) := by decide +kernel
theorem dX11_at_12 : decode cX11_at 12 = .ok (.invokevirtual 123, 3) := by decide +kernel
theorem dX11_at_15 : decode cX11_at 15 = .ok (.ireturn, 1) := by decide +kernel
theorem dX11_at_16 : decode cX11_at 16 = .ok (.aload_n 3, 1) := by decide +kernel
theorem dX11_at_17 : decode cX11_at 17 = .ok (.iload_n 2, 1) := by decide +kernel
theorem dX11_at_18 : decode cX11_at 18 = .ok (.invokestatic 134, 3) := by decide +kernel
theorem dX11_at_21 : decode cX11_at 21 = .ok (.aload_n 3, 1) := by decide +kernel
theorem dX11_at_22 : decode cX11_at 22 = .ok (.iload_n 2, 1) := by decide +kernel
theorem dX11_at_23 : decode cX11_at 23 = .ok (.invokevirtual 138, 3) := by decide +kernel
theorem dX11_at_26 : decode cX11_at 26 = .ok (.ireturn, 1) := by decide +kernel
theorem dX11_undo_0 : decode cX11_undo 0 = .ok (.aload_n 0, 1) := by decide +kernel
theorem dX11_undo_1 : decode cX11_undo 1 = .ok (.getfield 14, 3) := by decide +kernel
theorem dX11_undo_4 : decode cX11_undo 4 = .ok (.invokevirtual 142, 3) := by decide +kernel
theorem dX11_undo_7 : decode cX11_undo 7 = .ok (.ireturn, 1) := by decide +kernel
theorem dX11_redo_0 : decode cX11_redo 0 = .ok (.aload_n 0, 1) := by decide +kernel
theorem dX11_redo_1 : decode cX11_redo 1 = .ok (.getfield 14, 3) := by decide +kernel
theorem dX11_redo_4 : decode cX11_redo 4 = .ok (.invokevirtual 145, 3) := by decide +kernel
theorem dX11_redo_7 : decode cX11_redo 7 = .ok (.ireturn, 1) := by decide +kernel
theorem dX11_fewest_0 : decode cX11_fewest 0 = .ok (.aload_n 0, 1) := by decide +kernel
theorem dX11_fewest_1 : decode cX11_fewest 1 = .ok (.iload_n 1, 1) := by decide +kernel
theorem dX11_fewest_2 : decode cX11_fewest 2 = .ok (.invokevirtual 131, 3) := by decide +kernel
theorem dX11_fewest_5 : decode cX11_fewest 5 = .ok (.astore 4, 2) := by decide +kernel
theorem dX11_fewest_7 : decode cX11_fewest 7 = .ok (.lload_n 2, 1) := by decide +kernel
theorem dX11_fewest_8 : decode cX11_fewest 8 = .ok (.invokestatic 148, 3) := by decide +kernel
theorem dX11_fewest_11 : decode cX11_fewest 11 = .ok (.aload_n 0, 1) := by decide +kernel
theorem dX11_fewest_12 : decode cX11_fewest 12 = .ok (.getfield 23, 3) := by decide +kernel
theorem dX11_fewest_15 : decode cX11_fewest 15 = .ok (.aload 4, 2) := by decide +kernel
theorem dX11_fewest_17 : decode cX11_fewest 17 = .ok (.invokevirtual 152, 3) := by decide +kernel
theorem dX11_fewest_20 : decode cX11_fewest 20 = .ok (.aload_n 0, 1) := by decide +kernel
theorem dX11_fewest_21 : decode cX11_fewest 21 = .ok (.getfield 23, 3) := by decide +kernel
theorem dX11_fewest_24 : decode cX11_fewest 24 = .ok (.lload_n 2, 1) := by decide +kernel
theorem dX11_fewest_25 : decode cX11_fewest 25 = .ok (.invokevirtual 156, 3) := by decide +kernel
theorem dX11_fewest_28 : decode cX11_fewest 28 = .ok (.lreturn, 1) := by decide +kernel
theorem dX11_with_0 : decode cX11_with 0 = .ok (.aload_n 0, 1) := by decide +kernel
theorem dX11_with_1 : decode cX11_with 1 = .ok (.iload_n 1, 1) := by decide +kernel
theorem dX11_with_2 : decode cX11_with 2 = .ok (.invokevirtual 131, 3) := by decide +kernel
theorem dX11_with_5 : decode cX11_with 5 = .ok (.astore 5, 2) := by decide +kernel
theorem dX11_with_7 : decode cX11_with 7 = .ok (.aload 5, 2) := by decide +kernel
theorem dX11_with_9 : decode cX11_with 9 = .ok (.iload 4, 2) := by decide +kernel
theorem dX11_with_11 : decode cX11_with 11 = .ok (.invokestatic 134, 3) := by decide +kernel
theorem dX11_with_14 : decode cX11_with 14 = .ok (.lload_n 2, 1) := by decide +kernel
theorem dX11_with_15 : decode cX11_with 15 = .ok (.invokestatic 148, 3) := by decide +kernel
theorem dX11_with_18 : decode cX11_with 18 = .ok (.aload_n 0, 1) := by decide +kernel
theorem dX11_with_19 : decode cX11_with 19 = .ok (.getfield 23, 3) := by decide +kernel
theorem dX11_with_22 : decode cX11_with 22 = .ok (.aload 5, 2) := by decide +kernel
theorem dX11_with_24 : decode cX11_with 24 = .ok (.invokevirtual 152, 3) := by decide +kernel
theorem dX11_with_27 : decode cX11_with 27 = .ok (.aload_n 0, 1) := by decide +kernel
theorem dX11_with_28 : decode cX11_with 28 = .ok (.getfield 23, 3) := by decide +kernel
theorem dX11_with_31 : decode cX11_with 31 = .ok (.lload_n 2, 1) := by decide +kernel
theorem dX11_with_32 : decode cX11_with 32 = .ok (.iload 4, 2) := by decide +kernel
theorem dX11_with_34 : decode cX11_with 34 = .ok (.invokevirtual 160, 3) := by decide +kernel
theorem dX11_with_37 : decode cX11_with 37 = .ok (.lreturn, 1) := by decide +kernel
theorem dX11_greedy_0 : decode cX11_greedy 0 = .ok (.aload_n 0, 1) := by decide +kernel
theorem dX11_greedy_1 : decode cX11_greedy 1 = .ok (.iload_n 1, 1) := by decide +kernel
theorem dX11_greedy_2 : decode cX11_greedy 2 = .ok (.invokevirtual 131, 3) := by decide +kernel
theorem dX11_greedy_5 : decode cX11_greedy 5 = .ok (.astore 4, 2) := by decide +kernel
theorem dX11_greedy_7 : decode cX11_greedy 7 = .ok (.lload_n 2, 1) := by decide +kernel
theorem dX11_greedy_8 : decode cX11_greedy 8 = .ok (.invokestatic 148, 3) := by decide +kernel
theorem dX11_greedy_11 : decode cX11_greedy 11 = .ok (.aload 4, 2) := by decide +kernel
theorem dX11_greedy_13 : decode cX11_greedy 13 = .ok (.lload_n 2, 1) := by decide +kernel
theorem dX11_greedy_14 : decode cX11_greedy 14 = .ok (.invokevirtual 164, 3) := by decide +kernel
theorem dX11_greedy_17 : decode cX11_greedy 17 = .ok (.lreturn, 1) := by decide +kernel
theorem dX11_always_0 : decode cX11_always 0 = .ok (.aload_n 0, 1) := by decide +kernel
theorem dX11_always_1 : decode cX11_always 1 = .ok (.aload_n 0, 1) := by decide +kernel
theorem dX11_always_2 : decode cX11_always 2 = .ok (.iload_n 1, 1) := by decide +kernel
theorem dX11_always_3 : decode cX11_always 3 = .ok (.invokevirtual 131, 3) := by decide +kernel
theorem dX11_always_6 : decode cX11_always 6 = .ok (.invokevirtual 167, 3) := by decide +kernel
theorem dX11_always_9 : decode cX11_always 9 = .ok (.iconst (-1), 1) := by decide +kernel
theorem dX11_always_10 : decode cX11_always 10 = .ok (.if_icmp .ne 7, 3) := by decide +kernel
theorem dX11_always_13 : decode cX11_always 13 = .ok (.iconst 1, 1) := by decide +kernel
theorem dX11_always_14 : decode cX11_always 14 = .ok (.goto 4, 3) := by decide +kernel
theorem dX11_always_17 : decode cX11_always 17 = .ok (.iconst 0, 1) := by decide +kernel
theorem dX11_always_18 : decode cX11_always 18 = .ok (.ireturn, 1) := by decide +kernel
theorem dX11_fails_0 : decode cX11_fails 0 = .ok (.aload_n 0, 1) := by decide +kernel
theorem dX11_fails_1 : decode cX11_fails 1 = .ok (.aload_n 0, 1) := by decide +kernel
theorem dX11_fails_2 : decode cX11_fails 2 = .ok (.iload_n 1, 1) := by decide +kernel
theorem dX11_fails_3 : decode cX11_fails 3 = .ok (.invokevirtual 131, 3) := by decide +kernel
theorem dX11_fails_6 : decode cX11_fails 6 = .ok (.invokevirtual 167, 3) := by decide +kernel
theorem dX11_fails_9 : decode cX11_fails 9 = .ok (.ireturn, 1) := by decide +kernel
theorem dX11_divisor_0 : decode cX11_divisor 0 = .ok (.aload_n 0, 1) := by decide +kernel
theorem dX11_divisor_1 : decode cX11_divisor 1 = .ok (.iload_n 1, 1) := by decide +kernel
theorem dX11_divisor_2 : decode cX11_divisor 2 = .ok (.invokevirtual 131, 3) := by decide +kernel
theorem dX11_divisor_5 : decode cX11_divisor 5 = .ok (.invokevirtual 171, 3) := by decide +kernel
theorem dX11_divisor_8 : decode cX11_divisor 8 = .ok (.ireturn, 1) := by decide +kernel
theorem dX11_many_0 : decode cX11_many 0 = .ok (.aload_n 0, 1) := by decide +kernel
theorem dX11_many_1 : decode cX11_many 1 = .ok (.iload_n 1, 1) := by decide +kernel
theorem dX11_many_2 : decode cX11_many 2 = .ok (.invokevirtual 131, 3) := by decide +kernel
theorem dX11_many_5 : decode cX11_many 5 = .ok (.astore_n 2, 1) := by decide +kernel
theorem dX11_many_6 : decode cX11_many 6 = .ok (.aload_n 2, 1) := by decide +kernel
theorem dX11_many_7 : decode cX11_many 7 = .ok (.invokevirtual 171, 3) := by decide +kernel
theorem dX11_many_10 : decode cX11_many 10 = .ok (.iconst 1, 1) := by decide +kernel
theorem dX11_many_11 : decode cX11_many 11 = .ok (.if_icmp .eq 7, 3) := by decide +kernel
theorem dX11_many_14 : decode cX11_many 14 = .ok (.ldc2_w 174, 3) := by decide +kernel
theorem dX11_many_17 : decode cX11_many 17 = .ok (.lreturn, 1) := by decide +kernel
theorem dX11_many_18 : decode cX11_many 18 = .ok (.aload_n 0, 1) := by decide +kernel
theorem dX11_many_19 : decode cX11_many 19 = .ok (.getfield 30, 3) := by decide +kernel
theorem dX11_many_22 : decode cX11_many 22 = .ok (.aload_n 2, 1) := by decide +kernel
theorem dX11_many_23 : decode cX11_many 23 = .ok (.aload_n 2, 1) := by decide +kernel
theorem dX11_many_24 : decode cX11_many 24 = .ok (.invokevirtual 176, 3) := by decide +kernel
theorem dX11_many_27 : decode cX11_many 27 = .ok (.invokevirtual 179, 3) := by decide +kernel
theorem dX11_many_30 : decode cX11_many 30 = .ok (.aload_n 0, 1) := by decide +kernel
theorem dX11_many_31 : decode cX11_many 31 = .ok (.getfield 30, 3) := by decide +kernel
theorem dX11_many_34 : decode cX11_many 34 = .ok (.invokevirtual 181, 3) := by decide +kernel
theorem dX11_many_37 : decode cX11_many 37 = .ok (.i2l, 1) := by decide +kernel
theorem dX11_many_38 : decode cX11_many 38 = .ok (.lreturn, 1) := by decide +kernel
theorem dX11_last_0 : decode cX11_last 0 = .ok (.aload_n 0, 1) := by decide +kernel
theorem dX11_last_1 : decode cX11_last 1 = .ok (.aload_n 0, 1) := by decide +kernel
theorem dX11_last_2 : decode cX11_last 2 = .ok (.iload_n 1, 1) := by decide +kernel
theorem dX11_last_3 : decode cX11_last 3 = .ok (.invokevirtual 131, 3) := by decide +kernel
theorem dX11_last_6 : decode cX11_last 6 = .ok (.invokevirtual 184, 3) := by decide +kernel
theorem dX11_last_9 : decode cX11_last 9 = .ok (.ireturn, 1) := by decide +kernel
theorem dX11_gap_0 : decode cX11_gap 0 = .ok (.aload_n 0, 1) := by decide +kernel
theorem dX11_gap_1 : decode cX11_gap 1 = .ok (.iload_n 1, 1) := by decide +kernel
theorem dX11_gap_2 : decode cX11_gap 2 = .ok (.invokevirtual 131, 3) := by decide +kernel
theorem dX11_gap_5 : decode cX11_gap 5 = .ok (.astore_n 3, 1) := by decide +kernel
theorem dX11_gap_6 : decode cX11_gap 6 = .ok (.iload_n 2, 1) := by decide +kernel
theorem dX11_gap_7 : decode cX11_gap 7 = .ok (.ifCond .lt 9, 3) := by decide +kernel
theorem dX11_gap_10 : decode cX11_gap 10 = .ok (.iload_n 2, 1) := by decide +kernel
theorem dX11_gap_11 : decode cX11_gap 11 = .ok (.ldc 187, 2) := by decide +kernel
theorem dX11_gap_13 : decode cX11_gap 13 = .ok (.if_icmp .le 13, 3) := by decide +kernel
theorem dX11_gap_16 : decode cX11_gap 16 = .ok (.new 188, 3) := by decide +kernel
theorem dX11_gap_19 : decode cX11_gap 19 = .ok (.dup, 1) := by decide +kernel
theorem dX11_gap_20 : decode cX11_gap 20 = .ok (.ldc 190, 2) := by decide +kernel
theorem dX11_gap_22 : decode cX11_gap 22 = .ok (.invokespecial 192, 3) := by decide +kernel
theorem dX11_gap_25 : decode cX11_gap 25 = .ok (.athrow, 1) := by decide +kernel
theorem dX11_gap_26 : decode cX11_gap 26 = .ok (.aload_n 3, 1) := by decide +kernel
theorem dX11_gap_27 : decode cX11_gap 27 = .ok (.invokevirtual 123, 3) := by decide +kernel
theorem dX11_gap_30 : decode cX11_gap 30 = .ok (.ifCond .ne 7, 3) := by decide +kernel
theorem dX11_gap_33 : decode cX11_gap 33 = .ok (.iload_n 2, 1) := by decide +kernel
theorem dX11_gap_34 : decode cX11_gap 34 = .ok (.iconst 1, 1) := by decide +kernel
theorem dX11_gap_35 : decode cX11_gap 35 = .ok (.iadd, 1) := by decide +kernel
theorem dX11_gap_36 : decode cX11_gap 36 = .ok (.ireturn, 1) := by decide +kernel
theorem dX11_gap_37 : decode cX11_gap 37 = .ok (.aload_n 0, 1) := by decide +kernel
theorem dX11_gap_38 : decode cX11_gap 38 = .ok (.getfield 30, 3) := by decide +kernel
theorem dX11_gap_41 : decode cX11_gap 41 = .ok (.aload_n 3, 1) := by decide +kernel
theorem dX11_gap_42 : decode cX11_gap 42 = .ok (.aload_n 3, 1) := by decide +kernel
theorem dX11_gap_43 : decode cX11_gap 43 = .ok (.invokevirtual 176, 3) := by decide +kernel
theorem dX11_gap_46 : decode cX11_gap 46 = .ok (.invokevirtual 179, 3) := by decide +kernel
theorem dX11_gap_49 : decode cX11_gap 49 = .ok (.aload_n 3, 1) := by decide +kernel
theorem dX11_gap_50 : decode cX11_gap 50 = .ok (.invokevirtual 171, 3) := by decide +kernel
theorem dX11_gap_53 : decode cX11_gap 53 = .ok (.iconst 1, 1) := by decide +kernel
theorem dX11_gap_54 : decode cX11_gap 54 = .ok (.if_icmp .eq 17, 3) := by decide +kernel
theorem dX11_gap_57 : decode cX11_gap 57 = .ok (.aload_n 0, 1) := by decide +kernel
theorem dX11_gap_58 : decode cX11_gap 58 = .ok (.getfield 30, 3) := by decide +kernel
theorem dX11_gap_61 : decode cX11_gap 61 = .ok (.iload_n 2, 1) := by decide +kernel
theorem dX11_gap_62 : decode cX11_gap 62 = .ok (.iconst 2, 1) := by decide +kernel
theorem dX11_gap_63 : decode cX11_gap 63 = .ok (.iload_n 2, 1) := by decide +kernel
theorem dX11_gap_64 : decode cX11_gap 64 = .ok (.iconst 1, 1) := by decide +kernel
theorem dX11_gap_65 : decode cX11_gap 65 = .ok (.iadd, 1) := by decide +kernel
theorem dX11_gap_66 : decode cX11_gap 66 = .ok (.imul, 1) := by decide +kernel
theorem dX11_gap_67 : decode cX11_gap 67 = .ok (.invokevirtual 195, 3) := by decide +kernel
theorem dX11_gap_70 : decode cX11_gap 70 = .ok (.ireturn, 1) := by decide +kernel
theorem dX11_gap_71 : decode cX11_gap 71 = .ok (.iload_n 2, 1) := by decide +kernel
theorem dX11_gap_72 : decode cX11_gap 72 = .ok (.aload_n 0, 1) := by decide +kernel
theorem dX11_gap_73 : decode cX11_gap 73 = .ok (.getfield 30, 3) := by decide +kernel
theorem dX11_gap_76 : decode cX11_gap 76 = .ok (.invokevirtual 181, 3) := by decide +kernel
theorem dX11_gap_79 : decode cX11_gap 79 = .ok (.if_icmp .ge 21, 3) := by decide +kernel
theorem dX11_gap_82 : decode cX11_gap 82 = .ok (.aload_n 0, 1) := by decide +kernel
theorem dX11_gap_83 : decode cX11_gap 83 = .ok (.getfield 30, 3) := by decide +kernel
theorem dX11_gap_86 : decode cX11_gap 86 = .ok (.iload_n 2, 1) := by decide +kernel
theorem dX11_gap_87 : decode cX11_gap 87 = .ok (.aload_n 0, 1) := by decide +kernel
theorem dX11_gap_88 : decode cX11_gap 88 = .ok (.getfield 30, 3) := by decide +kernel
theorem dX11_gap_91 : decode cX11_gap 91 = .ok (.invokevirtual 199, 3) := by decide +kernel
theorem dX11_gap_94 : decode cX11_gap 94 = .ok (.invokevirtual 195, 3) := by decide +kernel
theorem dX11_gap_97 : decode cX11_gap 97 = .ok (.goto 4, 3) := by decide +kernel
theorem dX11_gap_100 : decode cX11_gap 100 = .ok (.iconst (-1), 1) := by decide +kernel
theorem dX11_gap_101 : decode cX11_gap 101 = .ok (.ireturn, 1) := by decide +kernel
theorem dX11_rest_0 : decode cX11_rest 0 = .ok (.aload_n 0, 1) := by decide +kernel
theorem dX11_rest_1 : decode cX11_rest 1 = .ok (.iload_n 1, 1) := by decide +kernel
theorem dX11_rest_2 : decode cX11_rest 2 = .ok (.invokevirtual 131, 3) := by decide +kernel
theorem dX11_rest_5 : decode cX11_rest 5 = .ok (.astore_n 3, 1) := by decide +kernel
theorem dX11_rest_6 : decode cX11_rest 6 = .ok (.iload_n 2, 1) := by decide +kernel
theorem dX11_rest_7 : decode cX11_rest 7 = .ok (.ifCond .lt 11, 3) := by decide +kernel
theorem dX11_rest_10 : decode cX11_rest 10 = .ok (.iload_n 2, 1) := by decide +kernel
theorem dX11_rest_11 : decode cX11_rest 11 = .ok (.aload_n 3, 1) := by decide +kernel
theorem dX11_rest_12 : decode cX11_rest 12 = .ok (.invokevirtual 176, 3) := by decide +kernel
theorem dX11_rest_15 : decode cX11_rest 15 = .ok (.if_icmp .lt 13, 3) := by decide +kernel
theorem dX11_rest_18 : decode cX11_rest 18 = .ok (.new 188, 3) := by decide +kernel
theorem dX11_rest_21 : decode cX11_rest 21 = .ok (.dup, 1) := by decide +kernel
theorem dX11_rest_22 : decode cX11_rest 22 = .ok (.ldc 202, 2) := by decide +kernel
theorem dX11_rest_24 : decode cX11_rest 24 = .ok (.invokespecial 192, 3) := by decide +kernel
theorem dX11_rest_27 : decode cX11_rest 27 = .ok (.athrow, 1) := by decide +kernel
theorem dX11_rest_28 : decode cX11_rest 28 = .ok (.aload_n 0, 1) := by decide +kernel
theorem dX11_rest_29 : decode cX11_rest 29 = .ok (.getfield 30, 3) := by decide +kernel
theorem dX11_rest_32 : decode cX11_rest 32 = .ok (.aload_n 3, 1) := by decide +kernel
theorem dX11_rest_33 : decode cX11_rest 33 = .ok (.aload_n 3, 1) := by decide +kernel
theorem dX11_rest_34 : decode cX11_rest 34 = .ok (.invokevirtual 176, 3) := by decide +kernel
theorem dX11_rest_37 : decode cX11_rest 37 = .ok (.invokevirtual 179, 3) := by decide +kernel
theorem dX11_rest_40 : decode cX11_rest 40 = .ok (.aload_n 0, 1) := by decide +kernel
theorem dX11_rest_41 : decode cX11_rest 41 = .ok (.getfield 30, 3) := by decide +kernel
theorem dX11_rest_44 : decode cX11_rest 44 = .ok (.iload_n 2, 1) := by decide +kernel
theorem dX11_rest_45 : decode cX11_rest 45 = .ok (.invokevirtual 204, 3) := by decide +kernel
theorem dX11_rest_48 : decode cX11_rest 48 = .ok (.istore 4, 2) := by decide +kernel
theorem dX11_rest_50 : decode cX11_rest 50 = .ok (.iload 4, 2) := by decide +kernel
theorem dX11_rest_52 : decode cX11_rest 52 = .ok (.ldc 206, 2) := by decide +kernel
theorem dX11_rest_54 : decode cX11_rest 54 = .ok (.if_icmp .ne 7, 3) := by decide +kernel
theorem dX11_rest_57 : decode cX11_rest 57 = .ok (.iconst (-1), 1) := by decide +kernel
theorem dX11_rest_58 : decode cX11_rest 58 = .ok (.goto 5, 3) := by decide +kernel
theorem dX11_rest_61 : decode cX11_rest 61 = .ok (.iload 4, 2) := by decide +kernel
theorem dX11_rest_63 : decode cX11_rest 63 = .ok (.ireturn, 1) := by decide +kernel
theorem dX11_mirror_0 : decode cX11_mirror 0 = .ok (.aload_n 0, 1) := by decide +kernel
theorem dX11_mirror_1 : decode cX11_mirror 1 = .ok (.aload_n 0, 1) := by decide +kernel
theorem dX11_mirror_2 : decode cX11_mirror 2 = .ok (.iload_n 1, 1) := by decide +kernel
theorem dX11_mirror_3 : decode cX11_mirror 3 = .ok (.invokevirtual 131, 3) := by decide +kernel
theorem dX11_mirror_6 : decode cX11_mirror 6 = .ok (.invokevirtual 184, 3) := by decide +kernel
theorem dX11_mirror_9 : decode cX11_mirror 9 = .ok (.istore_n 2, 1) := by decide +kernel
theorem dX11_mirror_10 : decode cX11_mirror 10 = .ok (.iload_n 2, 1) := by decide +kernel
theorem dX11_mirror_11 : decode cX11_mirror 11 = .ok (.ifCond .lt 22, 3) := by decide +kernel
theorem dX11_mirror_14 : decode cX11_mirror 14 = .ok (.iconst 2, 1) := by decide +kernel
theorem dX11_mirror_15 : decode cX11_mirror 15 = .ok (.aload_n 0, 1) := by decide +kernel
theorem dX11_mirror_16 : decode cX11_mirror 16 = .ok (.getfield 30, 3) := by decide +kernel
theorem dX11_mirror_19 : decode cX11_mirror 19 = .ok (.invokevirtual 181, 3) := by decide +kernel
theorem dX11_mirror_22 : decode cX11_mirror 22 = .ok (.imul, 1) := by decide +kernel
theorem dX11_mirror_23 : decode cX11_mirror 23 = .ok (.iload_n 2, 1) := by decide +kernel
theorem dX11_mirror_24 : decode cX11_mirror 24 = .ok (.iconst 1, 1) := by decide +kernel
theorem dX11_mirror_25 : decode cX11_mirror 25 = .ok (.iadd, 1) := by decide +kernel
theorem dX11_mirror_26 : decode cX11_mirror 26 = .ok (.if_icmp .ne 7, 3) := by decide +kernel
theorem dX11_mirror_29 : decode cX11_mirror 29 = .ok (.iconst 1, 1) := by decide +kernel
theorem dX11_mirror_30 : decode cX11_mirror 30 = .ok (.goto 4, 3) := by decide +kernel
theorem dX11_mirror_33 : decode cX11_mirror 33 = .ok (.iconst 0, 1) := by decide +kernel
theorem dX11_mirror_34 : decode cX11_mirror 34 = .ok (.ireturn, 1) := by decide +kernel
theorem dX11_needed_0 : decode cX11_needed 0 = .ok (.aload_n 0, 1) := by decide +kernel
theorem dX11_needed_1 : decode cX11_needed 1 = .ok (.iload_n 1, 1) := by decide +kernel
theorem dX11_needed_2 : decode cX11_needed 2 = .ok (.invokevirtual 131, 3) := by decide +kernel
theorem dX11_needed_5 : decode cX11_needed 5 = .ok (.astore_n 2, 1) := by decide +kernel
theorem dX11_needed_6 : decode cX11_needed 6 = .ok (.aload_n 0, 1) := by decide +kernel
theorem dX11_needed_7 : decode cX11_needed 7 = .ok (.getfield 43, 3) := by decide +kernel
theorem dX11_needed_10 : decode cX11_needed 10 = .ok (.invokevirtual 207, 3) := by decide +kernel
theorem dX11_needed_13 : decode cX11_needed 13 = .ok (.aload_n 0, 1) := by decide +kernel
theorem dX11_needed_14 : decode cX11_needed 14 = .ok (.getfield 43, 3) := by decide +kernel
theorem dX11_needed_17 : decode cX11_needed 17 = .ok (.aload_n 2, 1) := by decide +kernel
theorem dX11_needed_18 : decode cX11_needed 18 = .ok (.invokevirtual 210, 3) := by decide +kernel
theorem dX11_needed_21 : decode cX11_needed 21 = .ok (.aload_n 0, 1) := by decide +kernel
theorem dX11_needed_22 : decode cX11_needed 22 = .ok (.getfield 43, 3) := by decide +kernel
theorem dX11_needed_25 : decode cX11_needed 25 = .ok (.invokevirtual 213, 3) := by decide +kernel
theorem dX11_needed_28 : decode cX11_needed 28 = .ok (.pop, 1) := by decide +kernel
theorem dX11_needed_29 : decode cX11_needed 29 = .ok (.iconst 0, 1) := by decide +kernel
theorem dX11_needed_30 : decode cX11_needed 30 = .ok (.istore_n 3, 1) := by decide +kernel
theorem dX11_needed_31 : decode cX11_needed 31 = .ok (.iconst 0, 1) := by decide +kernel
theorem dX11_needed_32 : decode cX11_needed 32 = .ok (.istore 4, 2) := by decide +kernel
theorem dX11_needed_34 : decode cX11_needed 34 = .ok (.iload 4, 2) := by decide +kernel
theorem dX11_needed_36 : decode cX11_needed 36 = .ok (.aload_n 2, 1) := by decide +kernel
theorem dX11_needed_37 : decode cX11_needed 37 = .ok (.invokevirtual 123, 3) := by decide +kernel
theorem dX11_needed_40 : decode cX11_needed 40 = .ok (.if_icmp .ge 35, 3) := by decide +kernel
theorem dX11_needed_43 : decode cX11_needed 43 = .ok (.aload_n 0, 1) := by decide +kernel
theorem dX11_needed_44 : decode cX11_needed 44 = .ok (.getfield 43, 3) := by decide +kernel
theorem dX11_needed_47 : decode cX11_needed 47 = .ok (.invokevirtual 216, 3) := by decide +kernel
theorem dX11_needed_50 : decode cX11_needed 50 = .ok (.aload_n 2, 1) := by decide +kernel
theorem dX11_needed_51 : decode cX11_needed 51 = .ok (.iload 4, 2) := by decide +kernel
theorem dX11_needed_53 : decode cX11_needed 53 = .ok (.invokevirtual 138, 3) := by decide +kernel
theorem dX11_needed_56 : decode cX11_needed 56 = .ok (.invokevirtual 114, 3) := by decide +kernel
theorem dX11_needed_59 : decode cX11_needed 59 = .ok (.ifCond .eq 10, 3) := by decide +kernel
theorem dX11_needed_62 : decode cX11_needed 62 = .ok (.iload_n 3, 1) := by decide +kernel
theorem dX11_needed_63 : decode cX11_needed 63 = .ok (.iconst 1, 1) := by decide +kernel
theorem dX11_needed_64 : decode cX11_needed 64 = .ok (.iload 4, 2) := by decide +kernel
theorem dX11_needed_66 : decode cX11_needed 66 = .ok (.ishl, 1) := by decide +kernel
theorem dX11_needed_67 : decode cX11_needed 67 = .ok (.ior, 1) := by decide +kernel
theorem dX11_needed_68 : decode cX11_needed 68 = .ok (.istore_n 3, 1) := by decide +kernel
theorem dX11_needed_69 : decode cX11_needed 69 = .ok (.iinc 4 1, 3) := by decide +kernel
theorem dX11_needed_72 : decode cX11_needed 72 = .ok (.goto (-38), 3) := by decide +kernel
theorem dX11_needed_75 : decode cX11_needed 75 = .ok (.iload_n 3, 1) := by decide +kernel
theorem dX11_needed_76 : decode cX11_needed 76 = .ok (.ireturn, 1) := by decide +kernel
theorem dX11_same_0 : decode cX11_same 0 = .ok (.aload_n 0, 1) := by decide +kernel
theorem dX11_same_1 : decode cX11_same 1 = .ok (.iload_n 1, 1) := by decide +kernel
theorem dX11_same_2 : decode cX11_same 2 = .ok (.invokevirtual 131, 3) := by decide +kernel
theorem dX11_same_5 : decode cX11_same 5 = .ok (.astore_n 3, 1) := by decide +kernel
theorem dX11_same_6 : decode cX11_same 6 = .ok (.aload_n 0, 1) := by decide +kernel
theorem dX11_same_7 : decode cX11_same 7 = .ok (.iload_n 2, 1) := by decide +kernel
theorem dX11_same_8 : decode cX11_same 8 = .ok (.invokevirtual 131, 3) := by decide +kernel
theorem dX11_same_11 : decode cX11_same 11 = .ok (.astore 4, 2) := by decide +kernel
theorem dX11_same_13 : decode cX11_same 13 = .ok (.aload_n 0, 1) := by decide +kernel
theorem dX11_same_14 : decode cX11_same 14 = .ok (.getfield 43, 3) := by decide +kernel
theorem dX11_same_17 : decode cX11_same 17 = .ok (.invokevirtual 207, 3) := by decide +kernel
theorem dX11_same_20 : decode cX11_same 20 = .ok (.aload_n 0, 1) := by decide +kernel
theorem dX11_same_21 : decode cX11_same 21 = .ok (.getfield 43, 3) := by decide +kernel
theorem dX11_same_24 : decode cX11_same 24 = .ok (.aload_n 3, 1) := by decide +kernel
theorem dX11_same_25 : decode cX11_same 25 = .ok (.invokevirtual 210, 3) := by decide +kernel
theorem dX11_same_28 : decode cX11_same 28 = .ok (.aload_n 0, 1) := by decide +kernel
theorem dX11_same_29 : decode cX11_same 29 = .ok (.getfield 43, 3) := by decide +kernel
theorem dX11_same_32 : decode cX11_same 32 = .ok (.invokevirtual 213, 3) := by decide +kernel
theorem dX11_same_35 : decode cX11_same 35 = .ok (.pop, 1) := by decide +kernel
theorem dX11_same_36 : decode cX11_same 36 = .ok (.aload_n 0, 1) := by decide +kernel
theorem dX11_same_37 : decode cX11_same 37 = .ok (.getfield 50, 3) := by decide +kernel
theorem dX11_same_40 : decode cX11_same 40 = .ok (.aload_n 0, 1) := by decide +kernel
theorem dX11_same_41 : decode cX11_same 41 = .ok (.getfield 43, 3) := by decide +kernel
theorem dX11_same_44 : decode cX11_same 44 = .ok (.invokevirtual 216, 3) := by decide +kernel
theorem dX11_same_47 : decode cX11_same 47 = .ok (.invokevirtual 220, 3) := by decide +kernel
theorem dX11_same_50 : decode cX11_same 50 = .ok (.aload_n 0, 1) := by decide +kernel
theorem dX11_same_51 : decode cX11_same 51 = .ok (.getfield 43, 3) := by decide +kernel
theorem dX11_same_54 : decode cX11_same 54 = .ok (.invokevirtual 207, 3) := by decide +kernel
theorem dX11_same_57 : decode cX11_same 57 = .ok (.aload_n 0, 1) := by decide +kernel
theorem dX11_same_58 : decode cX11_same 58 = .ok (.getfield 43, 3) := by decide +kernel
theorem dX11_same_61 : decode cX11_same 61 = .ok (.aload 4, 2) := by decide +kernel
theorem dX11_same_63 : decode cX11_same 63 = .ok (.invokevirtual 210, 3) := by decide +kernel
theorem dX11_same_66 : decode cX11_same 66 = .ok (.aload_n 0, 1) := by decide +kernel
theorem dX11_same_67 : decode cX11_same 67 = .ok (.getfield 43, 3) := by decide +kernel
theorem dX11_same_70 : decode cX11_same 70 = .ok (.invokevirtual 213, 3) := by decide +kernel
theorem dX11_same_73 : decode cX11_same 73 = .ok (.pop, 1) := by decide +kernel
theorem dX11_same_74 : decode cX11_same 74 = .ok (.aload_n 0, 1) := by decide +kernel
theorem dX11_same_75 : decode cX11_same 75 = .ok (.getfield 50, 3) := by decide +kernel
theorem dX11_same_78 : decode cX11_same 78 = .ok (.aload_n 0, 1) := by decide +kernel
theorem dX11_same_79 : decode cX11_same 79 = .ok (.getfield 43, 3) := by decide +kernel
theorem dX11_same_82 : decode cX11_same 82 = .ok (.invokevirtual 216, 3) := by decide +kernel
theorem dX11_same_85 : decode cX11_same 85 = .ok (.invokevirtual 223, 3) := by decide +kernel
theorem dX11_same_88 : decode cX11_same 88 = .ok (.ireturn, 1) := by decide +kernel
theorem dX11_join_0 : decode cX11_join 0 = .ok (.aload_n 0, 1) := by decide +kernel
theorem dX11_join_1 : decode cX11_join 1 = .ok (.iload_n 1, 1) := by decide +kernel
theorem dX11_join_2 : decode cX11_join 2 = .ok (.invokevirtual 131, 3) := by decide +kernel
theorem dX11_join_5 : decode cX11_join 5 = .ok (.astore 4, 2) := by decide +kernel
theorem dX11_join_7 : decode cX11_join 7 = .ok (.aload_n 0, 1) := by decide +kernel
theorem dX11_join_8 : decode cX11_join 8 = .ok (.iload_n 2, 1) := by decide +kernel
theorem dX11_join_9 : decode cX11_join 9 = .ok (.invokevirtual 131, 3) := by decide +kernel
theorem dX11_join_12 : decode cX11_join 12 = .ok (.astore 5, 2) := by decide +kernel
theorem dX11_join_14 : decode cX11_join 14 = .ok (.aload_n 0, 1) := by decide +kernel
theorem dX11_join_15 : decode cX11_join 15 = .ok (.iload_n 3, 1) := by decide +kernel
theorem dX11_join_16 : decode cX11_join 16 = .ok (.invokevirtual 131, 3) := by decide +kernel
theorem dX11_join_19 : decode cX11_join 19 = .ok (.pop, 1) := by decide +kernel
theorem dX11_join_20 : decode cX11_join 20 = .ok (.aload_n 0, 1) := by decide +kernel
theorem dX11_join_21 : decode cX11_join 21 = .ok (.getfield 43, 3) := by decide +kernel
theorem dX11_join_24 : decode cX11_join 24 = .ok (.invokevirtual 207, 3) := by decide +kernel
theorem dX11_join_27 : decode cX11_join 27 = .ok (.aload_n 0, 1) := by decide +kernel
theorem dX11_join_28 : decode cX11_join 28 = .ok (.getfield 43, 3) := by decide +kernel
theorem dX11_join_31 : decode cX11_join 31 = .ok (.aload 4, 2) := by decide +kernel
theorem dX11_join_33 : decode cX11_join 33 = .ok (.invokevirtual 210, 3) := by decide +kernel
theorem dX11_join_36 : decode cX11_join 36 = .ok (.aload_n 0, 1) := by decide +kernel
theorem dX11_join_37 : decode cX11_join 37 = .ok (.getfield 43, 3) := by decide +kernel
theorem dX11_join_40 : decode cX11_join 40 = .ok (.aload 5, 2) := by decide +kernel
theorem dX11_join_42 : decode cX11_join 42 = .ok (.invokevirtual 210, 3) := by decide +kernel
theorem dX11_join_45 : decode cX11_join 45 = .ok (.aload_n 0, 1) := by decide +kernel
theorem dX11_join_46 : decode cX11_join 46 = .ok (.getfield 43, 3) := by decide +kernel
theorem dX11_join_49 : decode cX11_join 49 = .ok (.invokevirtual 213, 3) := by decide +kernel
theorem dX11_join_52 : decode cX11_join 52 = .ok (.ifCond .eq 11, 3) := by decide +kernel
theorem dX11_join_55 : decode cX11_join 55 = .ok (.aload_n 0, 1) := by decide +kernel
theorem dX11_join_56 : decode cX11_join 56 = .ok (.iload_n 3, 1) := by decide +kernel
theorem dX11_join_57 : decode cX11_join 57 = .ok (.invokevirtual 227, 3) := by decide +kernel
theorem dX11_join_60 : decode cX11_join 60 = .ok (.goto 4, 3) := by decide +kernel
theorem dX11_join_63 : decode cX11_join 63 = .ok (.iconst (-1), 1) := by decide +kernel
theorem dX11_join_64 : decode cX11_join 64 = .ok (.ireturn, 1) := by decide +kernel
theorem dX11_part_0 : decode cX11_part 0 = .ok (.aload_n 0, 1) := by decide +kernel
theorem dX11_part_1 : decode cX11_part 1 = .ok (.iload_n 1, 1) := by decide +kernel
theorem dX11_part_2 : decode cX11_part 2 = .ok (.invokevirtual 131, 3) := by decide +kernel
theorem dX11_part_5 : decode cX11_part 5 = .ok (.astore 4, 2) := by decide +kernel
theorem dX11_part_7 : decode cX11_part 7 = .ok (.aload_n 0, 1) := by decide +kernel
theorem dX11_part_8 : decode cX11_part 8 = .ok (.iload_n 2, 1) := by decide +kernel
theorem dX11_part_9 : decode cX11_part 9 = .ok (.invokevirtual 131, 3) := by decide +kernel
theorem dX11_part_12 : decode cX11_part 12 = .ok (.astore 5, 2) := by decide +kernel
theorem dX11_part_14 : decode cX11_part 14 = .ok (.aload_n 0, 1) := by decide +kernel
theorem dX11_part_15 : decode cX11_part 15 = .ok (.iload_n 3, 1) := by decide +kernel
theorem dX11_part_16 : decode cX11_part 16 = .ok (.invokevirtual 131, 3) := by decide +kernel
theorem dX11_part_19 : decode cX11_part 19 = .ok (.pop, 1) := by decide +kernel
theorem dX11_part_20 : decode cX11_part 20 = .ok (.aload_n 0, 1) := by decide +kernel
theorem dX11_part_21 : decode cX11_part 21 = .ok (.getfield 43, 3) := by decide +kernel
theorem dX11_part_24 : decode cX11_part 24 = .ok (.invokevirtual 207, 3) := by decide +kernel
theorem dX11_part_27 : decode cX11_part 27 = .ok (.aload 4, 2) := by decide +kernel
theorem dX11_part_29 : decode cX11_part 29 = .ok (.invokevirtual 123, 3) := by decide +kernel
theorem dX11_part_32 : decode cX11_part 32 = .ok (.ifCond .eq 11, 3) := by decide +kernel
theorem dX11_part_35 : decode cX11_part 35 = .ok (.aload 5, 2) := by decide +kernel
theorem dX11_part_37 : decode cX11_part 37 = .ok (.invokevirtual 123, 3) := by decide +kernel
theorem dX11_part_40 : decode cX11_part 40 = .ok (.ifCond .ne 17, 3) := by decide +kernel
theorem dX11_part_43 : decode cX11_part 43 = .ok (.aload_n 0, 1) := by decide +kernel
theorem dX11_part_44 : decode cX11_part 44 = .ok (.getfield 43, 3) := by decide +kernel
theorem dX11_part_47 : decode cX11_part 47 = .ok (.invokevirtual 213, 3) := by decide +kernel
theorem dX11_part_50 : decode cX11_part 50 = .ok (.pop, 1) := by decide +kernel
theorem dX11_part_51 : decode cX11_part 51 = .ok (.aload_n 0, 1) := by decide +kernel
theorem dX11_part_52 : decode cX11_part 52 = .ok (.iload_n 3, 1) := by decide +kernel
theorem dX11_part_53 : decode cX11_part 53 = .ok (.invokevirtual 227, 3) := by decide +kernel
theorem dX11_part_56 : decode cX11_part 56 = .ok (.ireturn, 1) := by decide +kernel
theorem dX11_part_57 : decode cX11_part 57 = .ok (.aload_n 0, 1) := by decide +kernel
theorem dX11_part_58 : decode cX11_part 58 = .ok (.aload 4, 2) := by decide +kernel
theorem dX11_part_60 : decode cX11_part 60 = .ok (.aload 5, 2) := by decide +kernel
theorem dX11_part_62 : decode cX11_part 62 = .ok (.invokevirtual 230, 3) := by decide +kernel
theorem dX11_part_65 : decode cX11_part 65 = .ok (.aload_n 0, 1) := by decide +kernel
theorem dX11_part_66 : decode cX11_part 66 = .ok (.getfield 43, 3) := by decide +kernel
theorem dX11_part_69 : decode cX11_part 69 = .ok (.invokevirtual 213, 3) := by decide +kernel
theorem dX11_part_72 : decode cX11_part 72 = .ok (.ifCond .eq 22, 3) := by decide +kernel
theorem dX11_part_75 : decode cX11_part 75 = .ok (.aload_n 0, 1) := by decide +kernel
theorem dX11_part_76 : decode cX11_part 76 = .ok (.aload 4, 2) := by decide +kernel
theorem dX11_part_78 : decode cX11_part 78 = .ok (.aload 5, 2) := by decide +kernel
theorem dX11_part_80 : decode cX11_part 80 = .ok (.invokevirtual 234, 3) := by decide +kernel
theorem dX11_part_83 : decode cX11_part 83 = .ok (.ifCond .eq 11, 3) := by decide +kernel
theorem dX11_part_86 : decode cX11_part 86 = .ok (.aload_n 0, 1) := by decide +kernel
theorem dX11_part_87 : decode cX11_part 87 = .ok (.iload_n 3, 1) := by decide +kernel
theorem dX11_part_88 : decode cX11_part 88 = .ok (.invokevirtual 227, 3) := by decide +kernel
theorem dX11_part_91 : decode cX11_part 91 = .ok (.goto 4, 3) := by decide +kernel
theorem dX11_part_94 : decode cX11_part 94 = .ok (.iconst (-1), 1) := by decide +kernel
theorem dX11_part_95 : decode cX11_part 95 = .ok (.ireturn, 1) := by decide +kernel
theorem dX11_factor_0 : decode cX11_factor 0 = .ok (.aload_n 0, 1) := by decide +kernel
theorem dX11_factor_1 : decode cX11_factor 1 = .ok (.iload_n 1, 1) := by decide +kernel
theorem dX11_factor_2 : decode cX11_factor 2 = .ok (.invokevirtual 131, 3) := by decide +kernel
theorem dX11_factor_5 : decode cX11_factor 5 = .ok (.astore 4, 2) := by decide +kernel
theorem dX11_factor_7 : decode cX11_factor 7 = .ok (.aload_n 0, 1) := by decide +kernel
theorem dX11_factor_8 : decode cX11_factor 8 = .ok (.iload_n 3, 1) := by decide +kernel
theorem dX11_factor_9 : decode cX11_factor 9 = .ok (.invokevirtual 131, 3) := by decide +kernel
theorem dX11_factor_12 : decode cX11_factor 12 = .ok (.pop, 1) := by decide +kernel
theorem dX11_factor_13 : decode cX11_factor 13 = .ok (.iload_n 2, 1) := by decide +kernel
theorem dX11_factor_14 : decode cX11_factor 14 = .ok (.iconst 1, 1) := by decide +kernel
theorem dX11_factor_15 : decode cX11_factor 15 = .ok (.if_icmp .lt 10, 3) := by decide +kernel
theorem dX11_factor_18 : decode cX11_factor 18 = .ok (.iload_n 2, 1) := by decide +kernel
theorem dX11_factor_19 : decode cX11_factor 19 = .ok (.sipush 300, 3) := by decide +kernel
theorem dX11_factor_22 : decode cX11_factor 22 = .ok (.if_icmp .le 13, 3) := by decide +kernel
theorem dX11_factor_25 : decode cX11_factor 25 = .ok (.new 188, 3) := by decide +kernel
theorem dX11_factor_28 : decode cX11_factor 28 = .ok (.dup, 1) := by decide +kernel
theorem dX11_factor_29 : decode cX11_factor 29 = .ok (.ldc 238, 2) := by decide +kernel
theorem dX11_factor_31 : decode cX11_factor 31 = .ok (.invokespecial 192, 3) := by decide +kernel
theorem dX11_factor_34 : decode cX11_factor 34 = .ok (.athrow, 1) := by decide +kernel
theorem dX11_factor_35 : decode cX11_factor 35 = .ok (.aload_n 0, 1) := by decide +kernel
theorem dX11_factor_36 : decode cX11_factor 36 = .ok (.getfield 43, 3) := by decide +kernel
theorem dX11_factor_39 : decode cX11_factor 39 = .ok (.invokevirtual 207, 3) := by decide +kernel
theorem dX11_factor_42 : decode cX11_factor 42 = .ok (.aload 4, 2) := by decide +kernel
theorem dX11_factor_44 : decode cX11_factor 44 = .ok (.invokevirtual 123, 3) := by decide +kernel
theorem dX11_factor_47 : decode cX11_factor 47 = .ok (.ifCond .le 57, 3) := by decide +kernel
theorem dX11_factor_50 : decode cX11_factor 50 = .ok (.aload_n 0, 1) := by decide +kernel
theorem dX11_factor_51 : decode cX11_factor 51 = .ok (.getfield 30, 3) := by decide +kernel
theorem dX11_factor_54 : decode cX11_factor 54 = .ok (.aload 4, 2) := by decide +kernel
theorem dX11_factor_56 : decode cX11_factor 56 = .ok (.aload 4, 2) := by decide +kernel
theorem dX11_factor_58 : decode cX11_factor 58 = .ok (.invokevirtual 176, 3) := by decide +kernel
theorem dX11_factor_61 : decode cX11_factor 61 = .ok (.invokevirtual 179, 3) := by decide +kernel
theorem dX11_factor_64 : decode cX11_factor 64 = .ok (.iconst 1, 1) := by decide +kernel
theorem dX11_factor_65 : decode cX11_factor 65 = .ok (.istore 5, 2) := by decide +kernel
theorem dX11_factor_67 : decode cX11_factor 67 = .ok (.iload 5, 2) := by decide +kernel
theorem dX11_factor_69 : decode cX11_factor 69 = .ok (.sipush 300, 3) := by decide +kernel
theorem dX11_factor_72 : decode cX11_factor 72 = .ok (.if_icmp .gt 32, 3) := by decide +kernel
theorem dX11_factor_75 : decode cX11_factor 75 = .ok (.aload_n 0, 1) := by decide +kernel
theorem dX11_factor_76 : decode cX11_factor 76 = .ok (.getfield 30, 3) := by decide +kernel
theorem dX11_factor_79 : decode cX11_factor 79 = .ok (.iload_n 2, 1) := by decide +kernel
theorem dX11_factor_80 : decode cX11_factor 80 = .ok (.iload 5, 2) := by decide +kernel
theorem dX11_factor_82 : decode cX11_factor 82 = .ok (.imul, 1) := by decide +kernel
theorem dX11_factor_83 : decode cX11_factor 83 = .ok (.invokevirtual 240, 3) := by decide +kernel
theorem dX11_factor_86 : decode cX11_factor 86 = .ok (.ifCond .eq 12, 3) := by decide +kernel
theorem dX11_factor_89 : decode cX11_factor 89 = .ok (.aload_n 0, 1) := by decide +kernel
theorem dX11_factor_90 : decode cX11_factor 90 = .ok (.getfield 43, 3) := by decide +kernel
theorem dX11_factor_93 : decode cX11_factor 93 = .ok (.iload 5, 2) := by decide +kernel
theorem dX11_factor_95 : decode cX11_factor 95 = .ok (.invokevirtual 243, 3) := by decide +kernel
theorem dX11_factor_98 : decode cX11_factor 98 = .ok (.iinc 5 1, 3) := by decide +kernel
theorem dX11_factor_101 : decode cX11_factor 101 = .ok (.goto (-34), 3) := by decide +kernel
theorem dX11_factor_104 : decode cX11_factor 104 = .ok (.aload_n 0, 1) := by decide +kernel
theorem dX11_factor_105 : decode cX11_factor 105 = .ok (.getfield 43, 3) := by decide +kernel
theorem dX11_factor_108 : decode cX11_factor 108 = .ok (.invokevirtual 213, 3) := by decide +kernel
theorem dX11_factor_111 : decode cX11_factor 111 = .ok (.ifCond .eq 11, 3) := by decide +kernel
theorem dX11_factor_114 : decode cX11_factor 114 = .ok (.aload_n 0, 1) := by decide +kernel
theorem dX11_factor_115 : decode cX11_factor 115 = .ok (.iload_n 3, 1) := by decide +kernel
theorem dX11_factor_116 : decode cX11_factor 116 = .ok (.invokevirtual 227, 3) := by decide +kernel
theorem dX11_factor_119 : decode cX11_factor 119 = .ok (.goto 4, 3) := by decide +kernel
theorem dX11_factor_122 : decode cX11_factor 122 = .ok (.iconst (-1), 1) := by decide +kernel
theorem dX11_factor_123 : decode cX11_factor 123 = .ok (.ireturn, 1) := by decide +kernel
theorem dX11_ways_0 : decode cX11_ways 0 = .ok (.aload_n 0, 1) := by decide +kernel
theorem dX11_ways_1 : decode cX11_ways 1 = .ok (.iload_n 1, 1) := by decide +kernel
theorem dX11_ways_2 : decode cX11_ways 2 = .ok (.invokevirtual 131, 3) := by decide +kernel
theorem dX11_ways_5 : decode cX11_ways 5 = .ok (.astore_n 3, 1) := by decide +kernel
theorem dX11_ways_6 : decode cX11_ways 6 = .ok (.iload_n 2, 1) := by decide +kernel
theorem dX11_ways_7 : decode cX11_ways 7 = .ok (.invokestatic 246, 3) := by decide +kernel
theorem dX11_ways_10 : decode cX11_ways 10 = .ok (.aload_n 0, 1) := by decide +kernel
theorem dX11_ways_11 : decode cX11_ways 11 = .ok (.aload_n 3, 1) := by decide +kernel
theorem dX11_ways_12 : decode cX11_ways 12 = .ok (.iload_n 2, 1) := by decide +kernel
theorem dX11_ways_13 : decode cX11_ways 13 = .ok (.invokevirtual 249, 3) := by decide +kernel
theorem dX11_ways_16 : decode cX11_ways 16 = .ok (.lreturn, 1) := by decide +kernel
theorem dX11_of_0 : decode cX11_of 0 = .ok (.aload_n 0, 1) := by decide +kernel
theorem dX11_of_1 : decode cX11_of 1 = .ok (.iload_n 1, 1) := by decide +kernel
theorem dX11_of_2 : decode cX11_of 2 = .ok (.invokevirtual 131, 3) := by decide +kernel
theorem dX11_of_5 : decode cX11_of 5 = .ok (.astore 5, 2) := by decide +kernel
theorem dX11_of_7 : decode cX11_of 7 = .ok (.iload_n 2, 1) := by decide +kernel
theorem dX11_of_8 : decode cX11_of 8 = .ok (.invokestatic 246, 3) := by decide +kernel
theorem dX11_of_11 : decode cX11_of 11 = .ok (.lload_n 3, 1) := by decide +kernel
theorem dX11_of_12 : decode cX11_of 12 = .ok (.lconst 0, 1) := by decide +kernel
theorem dX11_of_13 : decode cX11_of 13 = .ok (.lcmp, 1) := by decide +kernel
theorem dX11_of_14 : decode cX11_of 14 = .ok (.ifCond .lt 15, 3) := by decide +kernel
theorem dX11_of_17 : decode cX11_of 17 = .ok (.lload_n 3, 1) := by decide +kernel
theorem dX11_of_18 : decode cX11_of 18 = .ok (.aload_n 0, 1) := by decide +kernel
theorem dX11_of_19 : decode cX11_of 19 = .ok (.aload 5, 2) := by decide +kernel
theorem dX11_of_21 : decode cX11_of 21 = .ok (.iload_n 2, 1) := by decide +kernel
theorem dX11_of_22 : decode cX11_of 22 = .ok (.invokevirtual 249, 3) := by decide +kernel
theorem dX11_of_25 : decode cX11_of 25 = .ok (.lcmp, 1) := by decide +kernel
theorem dX11_of_26 : decode cX11_of 26 = .ok (.ifCond .lt 5, 3) := by decide +kernel
theorem dX11_of_29 : decode cX11_of 29 = .ok (.iconst 0, 1) := by decide +kernel
theorem dX11_of_30 : decode cX11_of 30 = .ok (.ireturn, 1) := by decide +kernel
theorem dX11_of_31 : decode cX11_of 31 = .ok (.aload_n 0, 1) := by decide +kernel
theorem dX11_of_32 : decode cX11_of 32 = .ok (.getfield 95, 3) := by decide +kernel
theorem dX11_of_35 : decode cX11_of 35 = .ok (.aload 5, 2) := by decide +kernel
theorem dX11_of_37 : decode cX11_of 37 = .ok (.invokevirtual 253, 3) := by decide +kernel
theorem dX11_of_40 : decode cX11_of 40 = .ok (.aload_n 0, 1) := by decide +kernel
theorem dX11_of_41 : decode cX11_of 41 = .ok (.getfield 57, 3) := by decide +kernel
theorem dX11_of_44 : decode cX11_of 44 = .ok (.iload_n 2, 1) := by decide +kernel
theorem dX11_of_45 : decode cX11_of 45 = .ok (.lload_n 3, 1) := by decide +kernel
theorem dX11_of_46 : decode cX11_of 46 = .ok (.aload_n 0, 1) := by decide +kernel
theorem dX11_of_47 : decode cX11_of 47 = .ok (.getfield 95, 3) := by decide +kernel
theorem dX11_of_50 : decode cX11_of 50 = .ok (.invokevirtual 256, 3) := by decide +kernel
theorem dX11_of_53 : decode cX11_of 53 = .ok (.aload_n 0, 1) := by decide +kernel
theorem dX11_of_54 : decode cX11_of 54 = .ok (.iconst 1, 1) := by decide +kernel
theorem dX11_of_55 : decode cX11_of 55 = .ok (.putfield 98, 3) := by decide +kernel
theorem dX11_of_58 : decode cX11_of 58 = .ok (.iconst 1, 1) := by decide +kernel
theorem dX11_of_59 : decode cX11_of 59 = .ok (.ireturn, 1) := by decide +kernel
theorem dX11_hand_0 : decode cX11_hand 0 = .ok (.aload_n 0, 1) := by decide +kernel
theorem dX11_hand_1 : decode cX11_hand 1 = .ok (.iload_n 1, 1) := by decide +kernel
theorem dX11_hand_2 : decode cX11_hand 2 = .ok (.invokevirtual 260, 3) := by decide +kernel
theorem dX11_hand_5 : decode cX11_hand 5 = .ok (.aload_n 0, 1) := by decide +kernel
theorem dX11_hand_6 : decode cX11_hand 6 = .ok (.getfield 95, 3) := by decide +kernel
theorem dX11_hand_9 : decode cX11_hand 9 = .ok (.iload_n 1, 1) := by decide +kernel
theorem dX11_hand_10 : decode cX11_hand 10 = .ok (.invokevirtual 263, 3) := by decide +kernel
theorem dX11_hand_13 : decode cX11_hand 13 = .ok (.ireturn, 1) := by decide +kernel
theorem dX11_put_0 : decode cX11_put 0 = .ok (.aload_n 0, 1) := by decide +kernel
theorem dX11_put_1 : decode cX11_put 1 = .ok (.iload_n 1, 1) := by decide +kernel
theorem dX11_put_2 : decode cX11_put 2 = .ok (.invokevirtual 260, 3) := by decide +kernel
theorem dX11_put_5 : decode cX11_put 5 = .ok (.iload_n 2, 1) := by decide +kernel
theorem dX11_put_6 : decode cX11_put 6 = .ok (.ifCond .lt 10, 3) := by decide +kernel
theorem dX11_put_9 : decode cX11_put 9 = .ok (.iload_n 2, 1) := by decide +kernel
theorem dX11_put_10 : decode cX11_put 10 = .ok (.sipush 3000, 3) := by decide +kernel
theorem dX11_put_13 : decode cX11_put 13 = .ok (.if_icmp .le 14, 3) := by decide +kernel
theorem dX11_put_16 : decode cX11_put 16 = .ok (.new 188, 3) := by decide +kernel
theorem dX11_put_19 : decode cX11_put 19 = .ok (.dup, 1) := by decide +kernel
theorem dX11_put_20 : decode cX11_put 20 = .ok (.ldc_w 265, 3) := by decide +kernel
theorem dX11_put_23 : decode cX11_put 23 = .ok (.invokespecial 192, 3) := by decide +kernel
theorem dX11_put_26 : decode cX11_put 26 = .ok (.athrow, 1) := by decide +kernel
theorem dX11_put_27 : decode cX11_put 27 = .ok (.aload_n 0, 1) := by decide +kernel
theorem dX11_put_28 : decode cX11_put 28 = .ok (.getfield 95, 3) := by decide +kernel
theorem dX11_put_31 : decode cX11_put 31 = .ok (.iload_n 1, 1) := by decide +kernel
theorem dX11_put_32 : decode cX11_put 32 = .ok (.invokevirtual 263, 3) := by decide +kernel
theorem dX11_put_35 : decode cX11_put 35 = .ok (.istore_n 3, 1) := by decide +kernel
theorem dX11_put_36 : decode cX11_put 36 = .ok (.aload_n 0, 1) := by decide +kernel
theorem dX11_put_37 : decode cX11_put 37 = .ok (.getfield 95, 3) := by decide +kernel
theorem dX11_put_40 : decode cX11_put 40 = .ok (.iload_n 1, 1) := by decide +kernel
theorem dX11_put_41 : decode cX11_put 41 = .ok (.iload_n 2, 1) := by decide +kernel
theorem dX11_put_42 : decode cX11_put 42 = .ok (.invokevirtual 267, 3) := by decide +kernel
theorem dX11_put_45 : decode cX11_put 45 = .ok (.iload_n 3, 1) := by decide +kernel
theorem dX11_put_46 : decode cX11_put 46 = .ok (.ireturn, 1) := by decide +kernel
theorem dX11_rank_0 : decode cX11_rank 0 = .ok (.aload_n 0, 1) := by decide +kernel
theorem dX11_rank_1 : decode cX11_rank 1 = .ok (.getfield 98, 3) := by decide +kernel
theorem dX11_rank_4 : decode cX11_rank 4 = .ok (.ifCond .ne 14, 3) := by decide +kernel
theorem dX11_rank_7 : decode cX11_rank 7 = .ok (.new 271, 3) := by decide +kernel
theorem dX11_rank_10 : decode cX11_rank 10 = .ok (.dup, 1) := by decide +kernel
theorem dX11_rank_11 : decode cX11_rank 11 = .ok (.ldc_w 273, 3) := by decide +kernel
theorem dX11_rank_14 : decode cX11_rank 14 = .ok (.invokespecial 275, 3) := by decide +kernel
theorem dX11_rank_17 : decode cX11_rank 17 = .ok (.athrow, 1) := by decide +kernel
theorem dX11_rank_18 : decode cX11_rank 18 = .ok (.aload_n 0, 1) := by decide +kernel
theorem dX11_rank_19 : decode cX11_rank 19 = .ok (.getfield 95, 3) := by decide +kernel
theorem dX11_rank_22 : decode cX11_rank 22 = .ok (.invokevirtual 276, 3) := by decide +kernel
theorem dX11_rank_25 : decode cX11_rank 25 = .ok (.istore_n 1, 1) := by decide +kernel
theorem dX11_rank_26 : decode cX11_rank 26 = .ok (.iload_n 1, 1) := by decide +kernel
theorem dX11_rank_27 : decode cX11_rank 27 = .ok (.sipush 3000, 3) := by decide +kernel
theorem dX11_rank_30 : decode cX11_rank 30 = .ok (.if_icmp .gt 22, 3) := by decide +kernel
theorem dX11_rank_33 : decode cX11_rank 33 = .ok (.aload_n 0, 1) := by decide +kernel
theorem dX11_rank_34 : decode cX11_rank 34 = .ok (.aload_n 0, 1) := by decide +kernel
theorem dX11_rank_35 : decode cX11_rank 35 = .ok (.getfield 95, 3) := by decide +kernel
theorem dX11_rank_38 : decode cX11_rank 38 = .ok (.invokevirtual 279, 3) := by decide +kernel
theorem dX11_rank_41 : decode cX11_rank 41 = .ok (.iload_n 1, 1) := by decide +kernel
theorem dX11_rank_42 : decode cX11_rank 42 = .ok (.invokevirtual 249, 3) := by decide +kernel
theorem dX11_rank_45 : decode cX11_rank 45 = .ok (.ldc2_w 282, 3) := by decide +kernel
theorem dX11_rank_48 : decode cX11_rank 48 = .ok (.lcmp, 1) := by decide +kernel
theorem dX11_rank_49 : decode cX11_rank 49 = .ok (.ifCond .ne 7, 3) := by decide +kernel
theorem dX11_rank_52 : decode cX11_rank 52 = .ok (.ldc2_w 174, 3) := by decide +kernel
theorem dX11_rank_55 : decode cX11_rank 55 = .ok (.lreturn, 1) := by decide +kernel
theorem dX11_rank_56 : decode cX11_rank 56 = .ok (.aload_n 0, 1) := by decide +kernel
theorem dX11_rank_57 : decode cX11_rank 57 = .ok (.getfield 57, 3) := by decide +kernel
theorem dX11_rank_60 : decode cX11_rank 60 = .ok (.aload_n 0, 1) := by decide +kernel
theorem dX11_rank_61 : decode cX11_rank 61 = .ok (.getfield 95, 3) := by decide +kernel
theorem dX11_rank_64 : decode cX11_rank 64 = .ok (.invokevirtual 284, 3) := by decide +kernel
theorem dX11_rank_67 : decode cX11_rank 67 = .ok (.lreturn, 1) := by decide +kernel
theorem dX11_apart_0 : decode cX11_apart 0 = .ok (.aload_n 0, 1) := by decide +kernel
theorem dX11_apart_1 : decode cX11_apart 1 = .ok (.iload_n 1, 1) := by decide +kernel
theorem dX11_apart_2 : decode cX11_apart 2 = .ok (.invokevirtual 131, 3) := by decide +kernel
theorem dX11_apart_5 : decode cX11_apart 5 = .ok (.astore_n 3, 1) := by decide +kernel
theorem dX11_apart_6 : decode cX11_apart 6 = .ok (.iload_n 2, 1) := by decide +kernel
theorem dX11_apart_7 : decode cX11_apart 7 = .ok (.invokestatic 246, 3) := by decide +kernel
theorem dX11_apart_10 : decode cX11_apart 10 = .ok (.aload_n 0, 1) := by decide +kernel
theorem dX11_apart_11 : decode cX11_apart 11 = .ok (.aload_n 3, 1) := by decide +kernel
theorem dX11_apart_12 : decode cX11_apart 12 = .ok (.iload_n 2, 1) := by decide +kernel
theorem dX11_apart_13 : decode cX11_apart 13 = .ok (.invokevirtual 249, 3) := by decide +kernel
theorem dX11_apart_16 : decode cX11_apart 16 = .ok (.lstore 4, 2) := by decide +kernel
theorem dX11_apart_18 : decode cX11_apart 18 = .ok (.lload 4, 2) := by decide +kernel
theorem dX11_apart_20 : decode cX11_apart 20 = .ok (.lconst 0, 1) := by decide +kernel
theorem dX11_apart_21 : decode cX11_apart 21 = .ok (.lcmp, 1) := by decide +kernel
theorem dX11_apart_22 : decode cX11_apart 22 = .ok (.ifCond .ne 5, 3) := by decide +kernel
theorem dX11_apart_25 : decode cX11_apart 25 = .ok (.iconst (-1), 1) := by decide +kernel
theorem dX11_apart_26 : decode cX11_apart 26 = .ok (.ireturn, 1) := by decide +kernel
theorem dX11_apart_27 : decode cX11_apart 27 = .ok (.lload 4, 2) := by decide +kernel
theorem dX11_apart_29 : decode cX11_apart 29 = .ok (.ldc2_w 282, 3) := by decide +kernel
theorem dX11_apart_32 : decode cX11_apart 32 = .ok (.lcmp, 1) := by decide +kernel
theorem dX11_apart_33 : decode cX11_apart 33 = .ok (.ifCond .eq 12, 3) := by decide +kernel
theorem dX11_apart_36 : decode cX11_apart 36 = .ok (.lload 4, 2) := by decide +kernel
theorem dX11_apart_38 : decode cX11_apart 38 = .ok (.ldc2_w 288, 3) := by decide +kernel
theorem dX11_apart_41 : decode cX11_apart 41 = .ok (.lcmp, 1) := by decide +kernel
theorem dX11_apart_42 : decode cX11_apart 42 = .ok (.ifCond .le 6, 3) := by decide +kernel
theorem dX11_apart_45 : decode cX11_apart 45 = .ok (.bipush (-2), 2) := by decide +kernel
theorem dX11_apart_47 : decode cX11_apart 47 = .ok (.ireturn, 1) := by decide +kernel
theorem dX11_apart_48 : decode cX11_apart 48 = .ok (.aload_n 0, 1) := by decide +kernel
theorem dX11_apart_49 : decode cX11_apart 49 = .ok (.getfield 64, 3) := by decide +kernel
theorem dX11_apart_52 : decode cX11_apart 52 = .ok (.aload_n 0, 1) := by decide +kernel
theorem dX11_apart_53 : decode cX11_apart 53 = .ok (.getfield 57, 3) := by decide +kernel
theorem dX11_apart_56 : decode cX11_apart 56 = .ok (.iload_n 2, 1) := by decide +kernel
theorem dX11_apart_57 : decode cX11_apart 57 = .ok (.lload 4, 2) := by decide +kernel
theorem dX11_apart_59 : decode cX11_apart 59 = .ok (.l2i, 1) := by decide +kernel
theorem dX11_apart_60 : decode cX11_apart 60 = .ok (.invokevirtual 290, 3) := by decide +kernel
theorem dX11_apart_63 : decode cX11_apart 63 = .ok (.aload_n 0, 1) := by decide +kernel
theorem dX11_apart_64 : decode cX11_apart 64 = .ok (.getfield 64, 3) := by decide +kernel
theorem dX11_apart_67 : decode cX11_apart 67 = .ok (.invokevirtual 294, 3) := by decide +kernel
theorem dX11_apart_70 : decode cX11_apart 70 = .ok (.ireturn, 1) := by decide +kernel
theorem dX11_stamps_0 : decode cX11_stamps 0 = .ok (.aload_n 0, 1) := by decide +kernel
theorem dX11_stamps_1 : decode cX11_stamps 1 = .ok (.iload_n 1, 1) := by decide +kernel
theorem dX11_stamps_2 : decode cX11_stamps 2 = .ok (.invokevirtual 131, 3) := by decide +kernel
theorem dX11_stamps_5 : decode cX11_stamps 5 = .ok (.astore_n 3, 1) := by decide +kernel
theorem dX11_stamps_6 : decode cX11_stamps 6 = .ok (.iload_n 2, 1) := by decide +kernel
theorem dX11_stamps_7 : decode cX11_stamps 7 = .ok (.iconst 1, 1) := by decide +kernel
theorem dX11_stamps_8 : decode cX11_stamps 8 = .ok (.if_icmp .lt 9, 3) := by decide +kernel
theorem dX11_stamps_11 : decode cX11_stamps 11 = .ok (.iload_n 2, 1) := by decide +kernel
theorem dX11_stamps_12 : decode cX11_stamps 12 = .ok (.bipush 50, 2) := by decide +kernel
theorem dX11_stamps_14 : decode cX11_stamps 14 = .ok (.if_icmp .le 14, 3) := by decide +kernel
theorem dX11_stamps_17 : decode cX11_stamps 17 = .ok (.new 188, 3) := by decide +kernel
theorem dX11_stamps_20 : decode cX11_stamps 20 = .ok (.dup, 1) := by decide +kernel
theorem dX11_stamps_21 : decode cX11_stamps 21 = .ok (.ldc_w 297, 3) := by decide +kernel
theorem dX11_stamps_24 : decode cX11_stamps 24 = .ok (.invokespecial 192, 3) := by decide +kernel
theorem dX11_stamps_27 : decode cX11_stamps 27 = .ok (.athrow, 1) := by decide +kernel
theorem dX11_stamps_28 : decode cX11_stamps 28 = .ok (.aload_n 0, 1) := by decide +kernel
theorem dX11_stamps_29 : decode cX11_stamps 29 = .ok (.getfield 23, 3) := by decide +kernel
theorem dX11_stamps_32 : decode cX11_stamps 32 = .ok (.aload_n 3, 1) := by decide +kernel
theorem dX11_stamps_33 : decode cX11_stamps 33 = .ok (.invokevirtual 152, 3) := by decide +kernel
theorem dX11_stamps_36 : decode cX11_stamps 36 = .ok (.aload_n 0, 1) := by decide +kernel
theorem dX11_stamps_37 : decode cX11_stamps 37 = .ok (.getfield 23, 3) := by decide +kernel
theorem dX11_stamps_40 : decode cX11_stamps 40 = .ok (.iload_n 2, 1) := by decide +kernel
theorem dX11_stamps_41 : decode cX11_stamps 41 = .ok (.invokevirtual 299, 3) := by decide +kernel
theorem dX11_stamps_44 : decode cX11_stamps 44 = .ok (.ireturn, 1) := by decide +kernel
theorem dX11_span_0 : decode cX11_span 0 = .ok (.aload_n 0, 1) := by decide +kernel
theorem dX11_span_1 : decode cX11_span 1 = .ok (.iload_n 1, 1) := by decide +kernel
theorem dX11_span_2 : decode cX11_span 2 = .ok (.invokevirtual 131, 3) := by decide +kernel
theorem dX11_span_5 : decode cX11_span 5 = .ok (.astore 4, 2) := by decide +kernel
theorem dX11_span_7 : decode cX11_span 7 = .ok (.iload_n 2, 1) := by decide +kernel
theorem dX11_span_8 : decode cX11_span 8 = .ok (.ifCond .lt 15, 3) := by decide +kernel
theorem dX11_span_11 : decode cX11_span 11 = .ok (.iload_n 2, 1) := by decide +kernel
theorem dX11_span_12 : decode cX11_span 12 = .ok (.iload_n 3, 1) := by decide +kernel
theorem dX11_span_13 : decode cX11_span 13 = .ok (.if_icmp .gt 10, 3) := by decide +kernel
theorem dX11_span_16 : decode cX11_span 16 = .ok (.iload_n 3, 1) := by decide +kernel
theorem dX11_span_17 : decode cX11_span 17 = .ok (.ldc_w 302, 3) := by decide +kernel
theorem dX11_span_20 : decode cX11_span 20 = .ok (.if_icmp .le 14, 3) := by decide +kernel
theorem dX11_span_23 : decode cX11_span 23 = .ok (.new 188, 3) := by decide +kernel
theorem dX11_span_26 : decode cX11_span 26 = .ok (.dup, 1) := by decide +kernel
theorem dX11_span_27 : decode cX11_span 27 = .ok (.ldc_w 303, 3) := by decide +kernel
theorem dX11_span_30 : decode cX11_span 30 = .ok (.invokespecial 192, 3) := by decide +kernel
theorem dX11_span_33 : decode cX11_span 33 = .ok (.athrow, 1) := by decide +kernel
theorem dX11_span_34 : decode cX11_span 34 = .ok (.aload_n 0, 1) := by decide +kernel
theorem dX11_span_35 : decode cX11_span 35 = .ok (.getfield 23, 3) := by decide +kernel
theorem dX11_span_38 : decode cX11_span 38 = .ok (.aload 4, 2) := by decide +kernel
theorem dX11_span_40 : decode cX11_span 40 = .ok (.invokevirtual 152, 3) := by decide +kernel
theorem dX11_span_43 : decode cX11_span 43 = .ok (.aload_n 0, 1) := by decide +kernel
theorem dX11_span_44 : decode cX11_span 44 = .ok (.getfield 23, 3) := by decide +kernel
theorem dX11_span_47 : decode cX11_span 47 = .ok (.iload_n 2, 1) := by decide +kernel
theorem dX11_span_48 : decode cX11_span 48 = .ok (.iload_n 3, 1) := by decide +kernel
theorem dX11_span_49 : decode cX11_span 49 = .ok (.invokevirtual 305, 3) := by decide +kernel
theorem dX11_span_52 : decode cX11_span 52 = .ok (.lreturn, 1) := by decide +kernel
theorem dX11_best_0 : decode cX11_best 0 = .ok (.aload_n 0, 1) := by decide +kernel
theorem dX11_best_1 : decode cX11_best 1 = .ok (.iload_n 3, 1) := by decide +kernel
theorem dX11_best_2 : decode cX11_best 2 = .ok (.invokevirtual 131, 3) := by decide +kernel
theorem dX11_best_5 : decode cX11_best 5 = .ok (.pop, 1) := by decide +kernel
theorem dX11_best_6 : decode cX11_best 6 = .ok (.iload_n 1, 1) := by decide +kernel
theorem dX11_best_7 : decode cX11_best 7 = .ok (.iconst 1, 1) := by decide +kernel
theorem dX11_best_8 : decode cX11_best 8 = .ok (.if_icmp .lt 20, 3) := by decide +kernel
theorem dX11_best_11 : decode cX11_best 11 = .ok (.iload_n 1, 1) := by decide +kernel
theorem dX11_best_12 : decode cX11_best 12 = .ok (.bipush 6, 2) := by decide +kernel
theorem dX11_best_14 : decode cX11_best 14 = .ok (.if_icmp .gt 14, 3) := by decide +kernel
theorem dX11_best_17 : decode cX11_best 17 = .ok (.iload_n 2, 1) := by decide +kernel
theorem dX11_best_18 : decode cX11_best 18 = .ok (.iconst 1, 1) := by decide +kernel
theorem dX11_best_19 : decode cX11_best 19 = .ok (.if_icmp .lt 9, 3) := by decide +kernel
theorem dX11_best_22 : decode cX11_best 22 = .ok (.iload_n 2, 1) := by decide +kernel
theorem dX11_best_23 : decode cX11_best 23 = .ok (.bipush 12, 2) := by decide +kernel
theorem dX11_best_25 : decode cX11_best 25 = .ok (.if_icmp .le 14, 3) := by decide +kernel
theorem dX11_best_28 : decode cX11_best 28 = .ok (.new 188, 3) := by decide +kernel
theorem dX11_best_31 : decode cX11_best 31 = .ok (.dup, 1) := by decide +kernel
theorem dX11_best_32 : decode cX11_best 32 = .ok (.ldc_w 309, 3) := by decide +kernel
theorem dX11_best_35 : decode cX11_best 35 = .ok (.invokespecial 192, 3) := by decide +kernel
theorem dX11_best_38 : decode cX11_best 38 = .ok (.athrow, 1) := by decide +kernel
theorem dX11_best_39 : decode cX11_best 39 = .ok (.aload_n 0, 1) := by decide +kernel
theorem dX11_best_40 : decode cX11_best 40 = .ok (.getfield 71, 3) := by decide +kernel
theorem dX11_best_43 : decode cX11_best 43 = .ok (.iload_n 1, 1) := by decide +kernel
theorem dX11_best_44 : decode cX11_best 44 = .ok (.iload_n 2, 1) := by decide +kernel
theorem dX11_best_45 : decode cX11_best 45 = .ok (.aload_n 0, 1) := by decide +kernel
theorem dX11_best_46 : decode cX11_best 46 = .ok (.getfield 23, 3) := by decide +kernel
theorem dX11_best_49 : decode cX11_best 49 = .ok (.invokevirtual 311, 3) := by decide +kernel
theorem dX11_best_52 : decode cX11_best 52 = .ok (.ifCond .ne 6, 3) := by decide +kernel
theorem dX11_best_55 : decode cX11_best 55 = .ok (.bipush (-2), 2) := by decide +kernel
theorem dX11_best_57 : decode cX11_best 57 = .ok (.ireturn, 1) := by decide +kernel
theorem dX11_best_58 : decode cX11_best 58 = .ok (.aload_n 0, 1) := by decide +kernel
theorem dX11_best_59 : decode cX11_best 59 = .ok (.getfield 14, 3) := by decide +kernel
theorem dX11_best_62 : decode cX11_best 62 = .ok (.invokevirtual 117, 3) := by decide +kernel
theorem dX11_best_65 : decode cX11_best 65 = .ok (.aload_n 0, 1) := by decide +kernel
theorem dX11_best_66 : decode cX11_best 66 = .ok (.getfield 14, 3) := by decide +kernel
theorem dX11_best_69 : decode cX11_best 69 = .ok (.iload_n 3, 1) := by decide +kernel
theorem dX11_best_70 : decode cX11_best 70 = .ok (.invokevirtual 106, 3) := by decide +kernel
theorem dX11_best_73 : decode cX11_best 73 = .ok (.aload_n 0, 1) := by decide +kernel
theorem dX11_best_74 : decode cX11_best 74 = .ok (.getfield 71, 3) := by decide +kernel
theorem dX11_best_77 : decode cX11_best 77 = .ok (.invokevirtual 315, 3) := by decide +kernel
theorem dX11_best_80 : decode cX11_best 80 = .ok (.invokevirtual 220, 3) := by decide +kernel
theorem dX11_best_83 : decode cX11_best 83 = .ok (.aload_n 0, 1) := by decide +kernel
theorem dX11_best_84 : decode cX11_best 84 = .ok (.getfield 71, 3) := by decide +kernel
theorem dX11_best_87 : decode cX11_best 87 = .ok (.invokevirtual 318, 3) := by decide +kernel
theorem dX11_best_90 : decode cX11_best 90 = .ok (.ireturn, 1) := by decide +kernel
theorem dX11_cases_0 : decode cX11_cases 0 = .ok (.aload_n 0, 1) := by decide +kernel
theorem dX11_cases_1 : decode cX11_cases 1 = .ok (.getfield 71, 3) := by decide +kernel
theorem dX11_cases_4 : decode cX11_cases 4 = .ok (.invokevirtual 321, 3) := by decide +kernel
theorem dX11_cases_7 : decode cX11_cases 7 = .ok (.ireturn, 1) := by decide +kernel
theorem dX11_open_0 : decode cX11_open 0 = .ok (.aload_n 0, 1) := by decide +kernel
theorem dX11_open_1 : decode cX11_open 1 = .ok (.iload_n 1, 1) := by decide +kernel
theorem dX11_open_2 : decode cX11_open 2 = .ok (.invokevirtual 324, 3) := by decide +kernel
theorem dX11_open_5 : decode cX11_open 5 = .ok (.pop, 1) := by decide +kernel
theorem dX11_open_6 : decode cX11_open 6 = .ok (.aload_n 0, 1) := by decide +kernel
theorem dX11_open_7 : decode cX11_open 7 = .ok (.iload_n 2, 1) := by decide +kernel
theorem dX11_open_8 : decode cX11_open 8 = .ok (.invokevirtual 131, 3) := by decide +kernel
theorem dX11_open_11 : decode cX11_open 11 = .ok (.pop, 1) := by decide +kernel
theorem dX11_open_12 : decode cX11_open 12 = .ok (.aload_n 0, 1) := by decide +kernel
theorem dX11_open_13 : decode cX11_open 13 = .ok (.getfield 14, 3) := by decide +kernel
theorem dX11_open_16 : decode cX11_open 16 = .ok (.invokevirtual 117, 3) := by decide +kernel
theorem dX11_open_19 : decode cX11_open 19 = .ok (.aload_n 0, 1) := by decide +kernel
theorem dX11_open_20 : decode cX11_open 20 = .ok (.getfield 14, 3) := by decide +kernel
theorem dX11_open_23 : decode cX11_open 23 = .ok (.iload_n 1, 1) := by decide +kernel
theorem dX11_open_24 : decode cX11_open 24 = .ok (.invokevirtual 328, 3) := by decide +kernel
theorem dX11_open_27 : decode cX11_open 27 = .ok (.aload_n 0, 1) := by decide +kernel
theorem dX11_open_28 : decode cX11_open 28 = .ok (.getfield 14, 3) := by decide +kernel
theorem dX11_open_31 : decode cX11_open 31 = .ok (.iload_n 2, 1) := by decide +kernel
theorem dX11_open_32 : decode cX11_open 32 = .ok (.invokevirtual 106, 3) := by decide +kernel
theorem dX11_open_35 : decode cX11_open 35 = .ok (.invokevirtual 253, 3) := by decide +kernel
theorem dX11_open_38 : decode cX11_open 38 = .ok (.return_, 1) := by decide +kernel
theorem dX11_fill_0 : decode cX11_fill 0 = .ok (.aload_n 0, 1) := by decide +kernel
theorem dX11_fill_1 : decode cX11_fill 1 = .ok (.iload_n 1, 1) := by decide +kernel
theorem dX11_fill_2 : decode cX11_fill 2 = .ok (.invokevirtual 324, 3) := by decide +kernel
theorem dX11_fill_5 : decode cX11_fill 5 = .ok (.astore 4, 2) := by decide +kernel
theorem dX11_fill_7 : decode cX11_fill 7 = .ok (.aload 4, 2) := by decide +kernel
theorem dX11_fill_9 : decode cX11_fill 9 = .ok (.invokevirtual 279, 3) := by decide +kernel
theorem dX11_fill_12 : decode cX11_fill 12 = .ok (.iload_n 2, 1) := by decide +kernel
theorem dX11_fill_13 : decode cX11_fill 13 = .ok (.invokevirtual 114, 3) := by decide +kernel
theorem dX11_fill_16 : decode cX11_fill 16 = .ok (.ifCond .eq 13, 3) := by decide +kernel
theorem dX11_fill_19 : decode cX11_fill 19 = .ok (.iload_n 3, 1) := by decide +kernel
theorem dX11_fill_20 : decode cX11_fill 20 = .ok (.ifCond .lt 9, 3) := by decide +kernel
theorem dX11_fill_23 : decode cX11_fill 23 = .ok (.iload_n 3, 1) := by decide +kernel
theorem dX11_fill_24 : decode cX11_fill 24 = .ok (.bipush 20, 2) := by decide +kernel
theorem dX11_fill_26 : decode cX11_fill 26 = .ok (.if_icmp .le 5, 3) := by decide +kernel
theorem dX11_fill_29 : decode cX11_fill 29 = .ok (.iconst (-1), 1) := by decide +kernel
theorem dX11_fill_30 : decode cX11_fill 30 = .ok (.ireturn, 1) := by decide +kernel
theorem dX11_fill_31 : decode cX11_fill 31 = .ok (.aload 4, 2) := by decide +kernel
theorem dX11_fill_33 : decode cX11_fill 33 = .ok (.invokevirtual 279, 3) := by decide +kernel
theorem dX11_fill_36 : decode cX11_fill 36 = .ok (.iload_n 2, 1) := by decide +kernel
theorem dX11_fill_37 : decode cX11_fill 37 = .ok (.invokevirtual 331, 3) := by decide +kernel
theorem dX11_fill_40 : decode cX11_fill 40 = .ok (.istore 5, 2) := by decide +kernel
theorem dX11_fill_42 : decode cX11_fill 42 = .ok (.aload 4, 2) := by decide +kernel
theorem dX11_fill_44 : decode cX11_fill 44 = .ok (.iload 5, 2) := by decide +kernel
theorem dX11_fill_46 : decode cX11_fill 46 = .ok (.invokevirtual 263, 3) := by decide +kernel
theorem dX11_fill_49 : decode cX11_fill 49 = .ok (.istore 6, 2) := by decide +kernel
theorem dX11_fill_51 : decode cX11_fill 51 = .ok (.aload 4, 2) := by decide +kernel
theorem dX11_fill_53 : decode cX11_fill 53 = .ok (.invokevirtual 276, 3) := by decide +kernel
theorem dX11_fill_56 : decode cX11_fill 56 = .ok (.iload_n 3, 1) := by decide +kernel
theorem dX11_fill_57 : decode cX11_fill 57 = .ok (.iload 6, 2) := by decide +kernel
theorem dX11_fill_59 : decode cX11_fill 59 = .ok (.isub, 1) := by decide +kernel
theorem dX11_fill_60 : decode cX11_fill 60 = .ok (.iload_n 2, 1) := by decide +kernel
theorem dX11_fill_61 : decode cX11_fill 61 = .ok (.imul, 1) := by decide +kernel
theorem dX11_fill_62 : decode cX11_fill 62 = .ok (.iadd, 1) := by decide +kernel
theorem dX11_fill_63 : decode cX11_fill 63 = .ok (.sipush 20000, 3) := by decide +kernel
theorem dX11_fill_66 : decode cX11_fill 66 = .ok (.if_icmp .le 5, 3) := by decide +kernel
theorem dX11_fill_69 : decode cX11_fill 69 = .ok (.iconst (-1), 1) := by decide +kernel
theorem dX11_fill_70 : decode cX11_fill 70 = .ok (.ireturn, 1) := by decide +kernel
theorem dX11_fill_71 : decode cX11_fill 71 = .ok (.aload_n 0, 1) := by decide +kernel
theorem dX11_fill_72 : decode cX11_fill 72 = .ok (.getfield 14, 3) := by decide +kernel
theorem dX11_fill_75 : decode cX11_fill 75 = .ok (.invokevirtual 117, 3) := by decide +kernel
theorem dX11_fill_78 : decode cX11_fill 78 = .ok (.aload_n 0, 1) := by decide +kernel
theorem dX11_fill_79 : decode cX11_fill 79 = .ok (.getfield 14, 3) := by decide +kernel
theorem dX11_fill_82 : decode cX11_fill 82 = .ok (.iload_n 1, 1) := by decide +kernel
theorem dX11_fill_83 : decode cX11_fill 83 = .ok (.invokevirtual 328, 3) := by decide +kernel
theorem dX11_fill_86 : decode cX11_fill 86 = .ok (.iload 5, 2) := by decide +kernel
theorem dX11_fill_88 : decode cX11_fill 88 = .ok (.iload_n 3, 1) := by decide +kernel
theorem dX11_fill_89 : decode cX11_fill 89 = .ok (.invokevirtual 267, 3) := by decide +kernel
theorem dX11_fill_92 : decode cX11_fill 92 = .ok (.iload 6, 2) := by decide +kernel
theorem dX11_fill_94 : decode cX11_fill 94 = .ok (.ireturn, 1) := by decide +kernel
theorem dX11_has_0 : decode cX11_has 0 = .ok (.aload_n 0, 1) := by decide +kernel
theorem dX11_has_1 : decode cX11_has 1 = .ok (.iload_n 1, 1) := by decide +kernel
theorem dX11_has_2 : decode cX11_has 2 = .ok (.invokevirtual 324, 3) := by decide +kernel
theorem dX11_has_5 : decode cX11_has 5 = .ok (.astore_n 3, 1) := by decide +kernel
theorem dX11_has_6 : decode cX11_has 6 = .ok (.iload_n 2, 1) := by decide +kernel
theorem dX11_has_7 : decode cX11_has 7 = .ok (.iconst (-1), 1) := by decide +kernel
theorem dX11_has_8 : decode cX11_has 8 = .ok (.if_icmp .ne 11, 3) := by decide +kernel
theorem dX11_has_11 : decode cX11_has 11 = .ok (.aload_n 3, 1) := by decide +kernel
theorem dX11_has_12 : decode cX11_has 12 = .ok (.invokevirtual 279, 3) := by decide +kernel
theorem dX11_has_15 : decode cX11_has 15 = .ok (.invokevirtual 123, 3) := by decide +kernel
theorem dX11_has_18 : decode cX11_has 18 = .ok (.ireturn, 1) := by decide +kernel
theorem dX11_has_19 : decode cX11_has 19 = .ok (.iload_n 2, 1) := by decide +kernel
theorem dX11_has_20 : decode cX11_has 20 = .ok (.bipush (-2), 2) := by decide +kernel
theorem dX11_has_22 : decode cX11_has 22 = .ok (.if_icmp .ne 8, 3) := by decide +kernel
theorem dX11_has_25 : decode cX11_has 25 = .ok (.aload_n 3, 1) := by decide +kernel
theorem dX11_has_26 : decode cX11_has 26 = .ok (.invokevirtual 276, 3) := by decide +kernel
theorem dX11_has_29 : decode cX11_has 29 = .ok (.ireturn, 1) := by decide +kernel
theorem dX11_has_30 : decode cX11_has 30 = .ok (.iload_n 2, 1) := by decide +kernel
theorem dX11_has_31 : decode cX11_has 31 = .ok (.ifCond .ge 10, 3) := by decide +kernel
theorem dX11_has_34 : decode cX11_has 34 = .ok (.bipush (-3), 2) := by decide +kernel
theorem dX11_has_36 : decode cX11_has 36 = .ok (.iload_n 2, 1) := by decide +kernel
theorem dX11_has_37 : decode cX11_has 37 = .ok (.isub, 1) := by decide +kernel
theorem dX11_has_38 : decode cX11_has 38 = .ok (.goto 4, 3) := by decide +kernel
theorem dX11_has_41 : decode cX11_has 41 = .ok (.iload_n 2, 1) := by decide +kernel
theorem dX11_has_42 : decode cX11_has 42 = .ok (.istore 4, 2) := by decide +kernel
theorem dX11_has_44 : decode cX11_has 44 = .ok (.aload_n 3, 1) := by decide +kernel
theorem dX11_has_45 : decode cX11_has 45 = .ok (.invokevirtual 279, 3) := by decide +kernel
theorem dX11_has_48 : decode cX11_has 48 = .ok (.iload 4, 2) := by decide +kernel
theorem dX11_has_50 : decode cX11_has 50 = .ok (.invokestatic 134, 3) := by decide +kernel
theorem dX11_has_53 : decode cX11_has 53 = .ok (.iload_n 2, 1) := by decide +kernel
theorem dX11_has_54 : decode cX11_has 54 = .ok (.ifCond .ge 15, 3) := by decide +kernel
theorem dX11_has_57 : decode cX11_has 57 = .ok (.aload_n 3, 1) := by decide +kernel
theorem dX11_has_58 : decode cX11_has 58 = .ok (.invokevirtual 279, 3) := by decide +kernel
theorem dX11_has_61 : decode cX11_has 61 = .ok (.iload 4, 2) := by decide +kernel
theorem dX11_has_63 : decode cX11_has 63 = .ok (.invokevirtual 138, 3) := by decide +kernel
theorem dX11_has_66 : decode cX11_has 66 = .ok (.goto 9, 3) := by decide +kernel
theorem dX11_has_69 : decode cX11_has 69 = .ok (.aload_n 3, 1) := by decide +kernel
theorem dX11_has_70 : decode cX11_has 70 = .ok (.iload 4, 2) := by decide +kernel
theorem dX11_has_72 : decode cX11_has 72 = .ok (.invokevirtual 263, 3) := by decide +kernel
theorem dX11_has_75 : decode cX11_has 75 = .ok (.ireturn, 1) := by decide +kernel
theorem dX11_pays_0 : decode cX11_pays 0 = .ok (.aload_n 0, 1) := by decide +kernel
theorem dX11_pays_1 : decode cX11_pays 1 = .ok (.getfield 78, 3) := by decide +kernel
theorem dX11_pays_4 : decode cX11_pays 4 = .ok (.aload_n 0, 1) := by decide +kernel
theorem dX11_pays_5 : decode cX11_pays 5 = .ok (.iload_n 1, 1) := by decide +kernel
theorem dX11_pays_6 : decode cX11_pays 6 = .ok (.invokevirtual 324, 3) := by decide +kernel
theorem dX11_pays_9 : decode cX11_pays 9 = .ok (.invokevirtual 334, 3) := by decide +kernel
theorem dX11_pays_12 : decode cX11_pays 12 = .ok (.aload_n 0, 1) := by decide +kernel
theorem dX11_pays_13 : decode cX11_pays 13 = .ok (.getfield 78, 3) := by decide +kernel
theorem dX11_pays_16 : decode cX11_pays 16 = .ok (.iload_n 2, 1) := by decide +kernel
theorem dX11_pays_17 : decode cX11_pays 17 = .ok (.invokevirtual 337, 3) := by decide +kernel
theorem dX11_pays_20 : decode cX11_pays 20 = .ok (.ireturn, 1) := by decide +kernel
theorem dX11_holes_0 : decode cX11_holes 0 = .ok (.aload_n 0, 1) := by decide +kernel
theorem dX11_holes_1 : decode cX11_holes 1 = .ok (.getfield 78, 3) := by decide +kernel
theorem dX11_holes_4 : decode cX11_holes 4 = .ok (.aload_n 0, 1) := by decide +kernel
theorem dX11_holes_5 : decode cX11_holes 5 = .ok (.iload_n 1, 1) := by decide +kernel
theorem dX11_holes_6 : decode cX11_holes 6 = .ok (.invokevirtual 324, 3) := by decide +kernel
theorem dX11_holes_9 : decode cX11_holes 9 = .ok (.invokevirtual 334, 3) := by decide +kernel
theorem dX11_holes_12 : decode cX11_holes 12 = .ok (.aload_n 0, 1) := by decide +kernel
theorem dX11_holes_13 : decode cX11_holes 13 = .ok (.getfield 78, 3) := by decide +kernel
theorem dX11_holes_16 : decode cX11_holes 16 = .ok (.invokevirtual 339, 3) := by decide +kernel
theorem dX11_holes_19 : decode cX11_holes 19 = .ok (.ireturn, 1) := by decide +kernel
theorem dX11_change_0 : decode cX11_change 0 = .ok (.aload_n 0, 1) := by decide +kernel
theorem dX11_change_1 : decode cX11_change 1 = .ok (.iload_n 1, 1) := by decide +kernel
theorem dX11_change_2 : decode cX11_change 2 = .ok (.iload_n 2, 1) := by decide +kernel
theorem dX11_change_3 : decode cX11_change 3 = .ok (.iload_n 3, 1) := by decide +kernel
theorem dX11_change_4 : decode cX11_change 4 = .ok (.invokevirtual 342, 3) := by decide +kernel
theorem dX11_change_7 : decode cX11_change 7 = .ok (.istore 4, 2) := by decide +kernel
theorem dX11_change_9 : decode cX11_change 9 = .ok (.iload 4, 2) := by decide +kernel
theorem dX11_change_11 : decode cX11_change 11 = .ok (.iconst (-1), 1) := by decide +kernel
theorem dX11_change_12 : decode cX11_change 12 = .ok (.if_icmp .ne 7, 3) := by decide +kernel
theorem dX11_change_15 : decode cX11_change 15 = .ok (.iconst (-1), 1) := by decide +kernel
theorem dX11_change_16 : decode cX11_change 16 = .ok (.goto 10, 3) := by decide +kernel
theorem dX11_change_19 : decode cX11_change 19 = .ok (.aload_n 0, 1) := by decide +kernel
theorem dX11_change_20 : decode cX11_change 20 = .ok (.iload_n 3, 1) := by decide +kernel
theorem dX11_change_21 : decode cX11_change 21 = .ok (.iload 4, 2) := by decide +kernel
theorem dX11_change_23 : decode cX11_change 23 = .ok (.invokevirtual 346, 3) := by decide +kernel
theorem dX11_change_26 : decode cX11_change 26 = .ok (.ireturn, 1) := by decide +kernel
theorem dX11_deal_0 : decode cX11_deal 0 = .ok (.aload_n 0, 1) := by decide +kernel
theorem dX11_deal_1 : decode cX11_deal 1 = .ok (.iload_n 1, 1) := by decide +kernel
theorem dX11_deal_2 : decode cX11_deal 2 = .ok (.iload_n 2, 1) := by decide +kernel
theorem dX11_deal_3 : decode cX11_deal 3 = .ok (.iload_n 3, 1) := by decide +kernel
theorem dX11_deal_4 : decode cX11_deal 4 = .ok (.invokevirtual 342, 3) := by decide +kernel
theorem dX11_deal_7 : decode cX11_deal 7 = .ok (.istore 4, 2) := by decide +kernel
theorem dX11_deal_9 : decode cX11_deal 9 = .ok (.iload 4, 2) := by decide +kernel
theorem dX11_deal_11 : decode cX11_deal 11 = .ok (.iconst (-1), 1) := by decide +kernel
theorem dX11_deal_12 : decode cX11_deal 12 = .ok (.if_icmp .ne 5, 3) := by decide +kernel
theorem dX11_deal_15 : decode cX11_deal 15 = .ok (.iconst (-1), 1) := by decide +kernel
theorem dX11_deal_16 : decode cX11_deal 16 = .ok (.ireturn, 1) := by decide +kernel
theorem dX11_deal_17 : decode cX11_deal 17 = .ok (.aload_n 0, 1) := by decide +kernel
theorem dX11_deal_18 : decode cX11_deal 18 = .ok (.getfield 88, 3) := by decide +kernel
theorem dX11_deal_21 : decode cX11_deal 21 = .ok (.aload_n 0, 1) := by decide +kernel
theorem dX11_deal_22 : decode cX11_deal 22 = .ok (.getfield 14, 3) := by decide +kernel
theorem dX11_deal_25 : decode cX11_deal 25 = .ok (.iload_n 1, 1) := by decide +kernel
theorem dX11_deal_26 : decode cX11_deal 26 = .ok (.invokevirtual 328, 3) := by decide +kernel
theorem dX11_deal_29 : decode cX11_deal 29 = .ok (.invokevirtual 349, 3) := by decide +kernel
theorem dX11_deal_32 : decode cX11_deal 32 = .ok (.aload_n 0, 1) := by decide +kernel
theorem dX11_deal_33 : decode cX11_deal 33 = .ok (.getfield 92, 3) := by decide +kernel
theorem dX11_deal_36 : decode cX11_deal 36 = .ok (.aload_n 0, 1) := by decide +kernel
theorem dX11_deal_37 : decode cX11_deal 37 = .ok (.getfield 14, 3) := by decide +kernel
theorem dX11_deal_40 : decode cX11_deal 40 = .ok (.iload_n 2, 1) := by decide +kernel
theorem dX11_deal_41 : decode cX11_deal 41 = .ok (.invokevirtual 328, 3) := by decide +kernel
theorem dX11_deal_44 : decode cX11_deal 44 = .ok (.invokevirtual 349, 3) := by decide +kernel
theorem dX11_deal_47 : decode cX11_deal 47 = .ok (.aload_n 0, 1) := by decide +kernel
theorem dX11_deal_48 : decode cX11_deal 48 = .ok (.getfield 78, 3) := by decide +kernel
theorem dX11_deal_51 : decode cX11_deal 51 = .ok (.iload_n 3, 1) := by decide +kernel
theorem dX11_deal_52 : decode cX11_deal 52 = .ok (.iload 4, 2) := by decide +kernel
theorem dX11_deal_54 : decode cX11_deal 54 = .ok (.iadd, 1) := by decide +kernel
theorem dX11_deal_55 : decode cX11_deal 55 = .ok (.aload_n 0, 1) := by decide +kernel
theorem dX11_deal_56 : decode cX11_deal 56 = .ok (.getfield 88, 3) := by decide +kernel
theorem dX11_deal_59 : decode cX11_deal 59 = .ok (.aload_n 0, 1) := by decide +kernel
theorem dX11_deal_60 : decode cX11_deal 60 = .ok (.getfield 92, 3) := by decide +kernel
theorem dX11_deal_63 : decode cX11_deal 63 = .ok (.invokevirtual 351, 3) := by decide +kernel
theorem dX11_deal_66 : decode cX11_deal 66 = .ok (.ifCond .eq 27, 3) := by decide +kernel
theorem dX11_deal_69 : decode cX11_deal 69 = .ok (.aload_n 0, 1) := by decide +kernel
theorem dX11_deal_70 : decode cX11_deal 70 = .ok (.getfield 82, 3) := by decide +kernel
theorem dX11_deal_73 : decode cX11_deal 73 = .ok (.iload 4, 2) := by decide +kernel
theorem dX11_deal_75 : decode cX11_deal 75 = .ok (.aload_n 0, 1) := by decide +kernel
theorem dX11_deal_76 : decode cX11_deal 76 = .ok (.getfield 92, 3) := by decide +kernel
theorem dX11_deal_79 : decode cX11_deal 79 = .ok (.aload_n 0, 1) := by decide +kernel
theorem dX11_deal_80 : decode cX11_deal 80 = .ok (.getfield 88, 3) := by decide +kernel
theorem dX11_deal_83 : decode cX11_deal 83 = .ok (.invokevirtual 351, 3) := by decide +kernel
theorem dX11_deal_86 : decode cX11_deal 86 = .ok (.ifCond .eq 7, 3) := by decide +kernel
theorem dX11_deal_89 : decode cX11_deal 89 = .ok (.iconst 1, 1) := by decide +kernel
theorem dX11_deal_90 : decode cX11_deal 90 = .ok (.goto 4, 3) := by decide +kernel
theorem dX11_deal_93 : decode cX11_deal 93 = .ok (.iconst 0, 1) := by decide +kernel
theorem dX11_deal_94 : decode cX11_deal 94 = .ok (.istore 5, 2) := by decide +kernel
theorem dX11_deal_96 : decode cX11_deal 96 = .ok (.iload 5, 2) := by decide +kernel
theorem dX11_deal_98 : decode cX11_deal 98 = .ok (.ifCond .eq 16, 3) := by decide +kernel
theorem dX11_deal_101 : decode cX11_deal 101 = .ok (.aload_n 0, 1) := by decide +kernel
theorem dX11_deal_102 : decode cX11_deal 102 = .ok (.getfield 92, 3) := by decide +kernel
theorem dX11_deal_105 : decode cX11_deal 105 = .ok (.invokevirtual 276, 3) := by decide +kernel
theorem dX11_deal_108 : decode cX11_deal 108 = .ok (.sipush 20000, 3) := by decide +kernel
theorem dX11_deal_111 : decode cX11_deal 111 = .ok (.if_icmp .le 6, 3) := by decide +kernel
theorem dX11_deal_114 : decode cX11_deal 114 = .ok (.bipush (-2), 2) := by decide +kernel
theorem dX11_deal_116 : decode cX11_deal 116 = .ok (.ireturn, 1) := by decide +kernel
theorem dX11_deal_117 : decode cX11_deal 117 = .ok (.aload_n 0, 1) := by decide +kernel
theorem dX11_deal_118 : decode cX11_deal 118 = .ok (.getfield 14, 3) := by decide +kernel
theorem dX11_deal_121 : decode cX11_deal 121 = .ok (.invokevirtual 117, 3) := by decide +kernel
theorem dX11_deal_124 : decode cX11_deal 124 = .ok (.aload_n 0, 1) := by decide +kernel
theorem dX11_deal_125 : decode cX11_deal 125 = .ok (.getfield 14, 3) := by decide +kernel
theorem dX11_deal_128 : decode cX11_deal 128 = .ok (.iload_n 1, 1) := by decide +kernel
theorem dX11_deal_129 : decode cX11_deal 129 = .ok (.invokevirtual 328, 3) := by decide +kernel
theorem dX11_deal_132 : decode cX11_deal 132 = .ok (.aload_n 0, 1) := by decide +kernel
theorem dX11_deal_133 : decode cX11_deal 133 = .ok (.getfield 88, 3) := by decide +kernel
theorem dX11_deal_136 : decode cX11_deal 136 = .ok (.invokevirtual 349, 3) := by decide +kernel
theorem dX11_deal_139 : decode cX11_deal 139 = .ok (.aload_n 0, 1) := by decide +kernel
theorem dX11_deal_140 : decode cX11_deal 140 = .ok (.getfield 14, 3) := by decide +kernel
theorem dX11_deal_143 : decode cX11_deal 143 = .ok (.iload_n 2, 1) := by decide +kernel
theorem dX11_deal_144 : decode cX11_deal 144 = .ok (.invokevirtual 328, 3) := by decide +kernel
theorem dX11_deal_147 : decode cX11_deal 147 = .ok (.aload_n 0, 1) := by decide +kernel
theorem dX11_deal_148 : decode cX11_deal 148 = .ok (.getfield 92, 3) := by decide +kernel
theorem dX11_deal_151 : decode cX11_deal 151 = .ok (.invokevirtual 349, 3) := by decide +kernel
theorem dX11_deal_154 : decode cX11_deal 154 = .ok (.aload_n 0, 1) := by decide +kernel
theorem dX11_deal_155 : decode cX11_deal 155 = .ok (.iload_n 3, 1) := by decide +kernel
theorem dX11_deal_156 : decode cX11_deal 156 = .ok (.iload 4, 2) := by decide +kernel
theorem dX11_deal_158 : decode cX11_deal 158 = .ok (.invokevirtual 346, 3) := by decide +kernel
theorem dX11_deal_161 : decode cX11_deal 161 = .ok (.ireturn, 1) := by decide +kernel
theorem dX11_isPlace_0 : decode cX11_isPlace 0 = .ok (.iload_n 0, 1) := by decide +kernel
theorem dX11_isPlace_1 : decode cX11_isPlace 1 = .ok (.ifCond .lt 13, 3) := by decide +kernel
theorem dX11_isPlace_4 : decode cX11_isPlace 4 = .ok (.iload_n 0, 1) := by decide +kernel
theorem dX11_isPlace_5 : decode cX11_isPlace 5 = .ok (.bipush 8, 2) := by decide +kernel
theorem dX11_isPlace_7 : decode cX11_isPlace 7 = .ok (.if_icmp .ge 7, 3) := by decide +kernel
theorem dX11_isPlace_10 : decode cX11_isPlace 10 = .ok (.iconst 1, 1) := by decide +kernel
theorem dX11_isPlace_11 : decode cX11_isPlace 11 = .ok (.goto 4, 3) := by decide +kernel
theorem dX11_isPlace_14 : decode cX11_isPlace 14 = .ok (.iconst 0, 1) := by decide +kernel
theorem dX11_isPlace_15 : decode cX11_isPlace 15 = .ok (.ireturn, 1) := by decide +kernel
theorem dX11_mintAt_0 : decode cX11_mintAt 0 = .ok (.iload_n 1, 1) := by decide +kernel
theorem dX11_mintAt_1 : decode cX11_mintAt 1 = .ok (.invokestatic 102, 3) := by decide +kernel
theorem dX11_mintAt_4 : decode cX11_mintAt 4 = .ok (.ifCond .ne 14, 3) := by decide +kernel
theorem dX11_mintAt_7 : decode cX11_mintAt 7 = .ok (.new 271, 3) := by decide +kernel
theorem dX11_mintAt_10 : decode cX11_mintAt 10 = .ok (.dup, 1) := by decide +kernel
theorem dX11_mintAt_11 : decode cX11_mintAt 11 = .ok (.ldc_w 355, 3) := by decide +kernel
theorem dX11_mintAt_14 : decode cX11_mintAt 14 = .ok (.invokespecial 275, 3) := by decide +kernel
theorem dX11_mintAt_17 : decode cX11_mintAt 17 = .ok (.athrow, 1) := by decide +kernel
theorem dX11_mintAt_18 : decode cX11_mintAt 18 = .ok (.aload_n 0, 1) := by decide +kernel
theorem dX11_mintAt_19 : decode cX11_mintAt 19 = .ok (.getfield 14, 3) := by decide +kernel
theorem dX11_mintAt_22 : decode cX11_mintAt 22 = .ok (.iload_n 1, 1) := by decide +kernel
theorem dX11_mintAt_23 : decode cX11_mintAt 23 = .ok (.invokevirtual 106, 3) := by decide +kernel
theorem dX11_mintAt_26 : decode cX11_mintAt 26 = .ok (.areturn, 1) := by decide +kernel
theorem dX11_purseAt_0 : decode cX11_purseAt 0 = .ok (.iload_n 1, 1) := by decide +kernel
theorem dX11_purseAt_1 : decode cX11_purseAt 1 = .ok (.invokestatic 102, 3) := by decide +kernel
theorem dX11_purseAt_4 : decode cX11_purseAt 4 = .ok (.ifCond .ne 14, 3) := by decide +kernel
theorem dX11_purseAt_7 : decode cX11_purseAt 7 = .ok (.new 271, 3) := by decide +kernel
theorem dX11_purseAt_10 : decode cX11_purseAt 10 = .ok (.dup, 1) := by decide +kernel
theorem dX11_purseAt_11 : decode cX11_purseAt 11 = .ok (.ldc_w 357, 3) := by decide +kernel
theorem dX11_purseAt_14 : decode cX11_purseAt 14 = .ok (.invokespecial 275, 3) := by decide +kernel
theorem dX11_purseAt_17 : decode cX11_purseAt 17 = .ok (.athrow, 1) := by decide +kernel
theorem dX11_purseAt_18 : decode cX11_purseAt 18 = .ok (.aload_n 0, 1) := by decide +kernel
theorem dX11_purseAt_19 : decode cX11_purseAt 19 = .ok (.getfield 14, 3) := by decide +kernel
theorem dX11_purseAt_22 : decode cX11_purseAt 22 = .ok (.iload_n 1, 1) := by decide +kernel
theorem dX11_purseAt_23 : decode cX11_purseAt 23 = .ok (.invokevirtual 328, 3) := by decide +kernel
theorem dX11_purseAt_26 : decode cX11_purseAt 26 = .ok (.areturn, 1) := by decide +kernel
theorem dX11_checkCoin_0 : decode cX11_checkCoin 0 = .ok (.iload_n 1, 1) := by decide +kernel
theorem dX11_checkCoin_1 : decode cX11_checkCoin 1 = .ok (.ifCond .lt 11, 3) := by decide +kernel
theorem dX11_checkCoin_4 : decode cX11_checkCoin 4 = .ok (.iload_n 1, 1) := by decide +kernel
theorem dX11_checkCoin_5 : decode cX11_checkCoin 5 = .ok (.aload_n 0, 1) := by decide +kernel
theorem dX11_checkCoin_6 : decode cX11_checkCoin 6 = .ok (.invokevirtual 123, 3) := by decide +kernel
theorem dX11_checkCoin_9 : decode cX11_checkCoin 9 = .ok (.if_icmp .lt 14, 3) := by decide +kernel
theorem dX11_checkCoin_12 : decode cX11_checkCoin 12 = .ok (.new 271, 3) := by decide +kernel
theorem dX11_checkCoin_15 : decode cX11_checkCoin 15 = .ok (.dup, 1) := by decide +kernel
theorem dX11_checkCoin_16 : decode cX11_checkCoin 16 = .ok (.ldc_w 359, 3) := by decide +kernel
theorem dX11_checkCoin_19 : decode cX11_checkCoin 19 = .ok (.invokespecial 275, 3) := by decide +kernel
theorem dX11_checkCoin_22 : decode cX11_checkCoin 22 = .ok (.athrow, 1) := by decide +kernel
theorem dX11_checkCoin_23 : decode cX11_checkCoin 23 = .ok (.return_, 1) := by decide +kernel
theorem dX11_checkHeld_0 : decode cX11_checkHeld 0 = .ok (.aload_n 0, 1) := by decide +kernel
theorem dX11_checkHeld_1 : decode cX11_checkHeld 1 = .ok (.getfield 98, 3) := by decide +kernel
theorem dX11_checkHeld_4 : decode cX11_checkHeld 4 = .ok (.ifCond .eq 21, 3) := by decide +kernel
theorem dX11_checkHeld_7 : decode cX11_checkHeld 7 = .ok (.iload_n 1, 1) := by decide +kernel
theorem dX11_checkHeld_8 : decode cX11_checkHeld 8 = .ok (.ifCond .lt 17, 3) := by decide +kernel
theorem dX11_checkHeld_11 : decode cX11_checkHeld 11 = .ok (.iload_n 1, 1) := by decide +kernel
theorem dX11_checkHeld_12 : decode cX11_checkHeld 12 = .ok (.aload_n 0, 1) := by decide +kernel
theorem dX11_checkHeld_13 : decode cX11_checkHeld 13 = .ok (.getfield 95, 3) := by decide +kernel
theorem dX11_checkHeld_16 : decode cX11_checkHeld 16 = .ok (.invokevirtual 279, 3) := by decide +kernel
theorem dX11_checkHeld_19 : decode cX11_checkHeld 19 = .ok (.invokevirtual 123, 3) := by decide +kernel
theorem dX11_checkHeld_22 : decode cX11_checkHeld 22 = .ok (.if_icmp .lt 14, 3) := by decide +kernel
theorem dX11_checkHeld_25 : decode cX11_checkHeld 25 = .ok (.new 271, 3) := by decide +kernel
theorem dX11_checkHeld_28 : decode cX11_checkHeld 28 = .ok (.dup, 1) := by decide +kernel
theorem dX11_checkHeld_29 : decode cX11_checkHeld 29 = .ok (.ldc_w 361, 3) := by decide +kernel
theorem dX11_checkHeld_32 : decode cX11_checkHeld 32 = .ok (.invokespecial 275, 3) := by decide +kernel
theorem dX11_checkHeld_35 : decode cX11_checkHeld 35 = .ok (.athrow, 1) := by decide +kernel
theorem dX11_checkHeld_36 : decode cX11_checkHeld 36 = .ok (.return_, 1) := by decide +kernel
theorem dX11_checkSum_0 : decode cX11_checkSum 0 = .ok (.lload_n 0, 1) := by decide +kernel
theorem dX11_checkSum_1 : decode cX11_checkSum 1 = .ok (.lconst 0, 1) := by decide +kernel
theorem dX11_checkSum_2 : decode cX11_checkSum 2 = .ok (.lcmp, 1) := by decide +kernel
theorem dX11_checkSum_3 : decode cX11_checkSum 3 = .ok (.ifCond .lt 11, 3) := by decide +kernel
theorem dX11_checkSum_6 : decode cX11_checkSum 6 = .ok (.lload_n 0, 1) := by decide +kernel
theorem dX11_checkSum_7 : decode cX11_checkSum 7 = .ok (.ldc2_w 363, 3) := by decide +kernel
theorem dX11_checkSum_10 : decode cX11_checkSum 10 = .ok (.lcmp, 1) := by decide +kernel
theorem dX11_checkSum_11 : decode cX11_checkSum 11 = .ok (.ifCond .le 14, 3) := by decide +kernel
theorem dX11_checkSum_14 : decode cX11_checkSum 14 = .ok (.new 188, 3) := by decide +kernel
theorem dX11_checkSum_17 : decode cX11_checkSum 17 = .ok (.dup, 1) := by decide +kernel
theorem dX11_checkSum_18 : decode cX11_checkSum 18 = .ok (.ldc_w 365, 3) := by decide +kernel
theorem dX11_checkSum_21 : decode cX11_checkSum 21 = .ok (.invokespecial 192, 3) := by decide +kernel
theorem dX11_checkSum_24 : decode cX11_checkSum 24 = .ok (.athrow, 1) := by decide +kernel
theorem dX11_checkSum_25 : decode cX11_checkSum 25 = .ok (.return_, 1) := by decide +kernel
theorem dX11_checkCounted_0 : decode cX11_checkCounted 0 = .ok (.iload_n 0, 1) := by decide +kernel
theorem dX11_checkCounted_1 : decode cX11_checkCounted 1 = .ok (.ifCond .lt 10, 3) := by decide +kernel
theorem dX11_checkCounted_4 : decode cX11_checkCounted 4 = .ok (.iload_n 0, 1) := by decide +kernel
theorem dX11_checkCounted_5 : decode cX11_checkCounted 5 = .ok (.sipush 3000, 3) := by decide +kernel
theorem dX11_checkCounted_8 : decode cX11_checkCounted 8 = .ok (.if_icmp .le 14, 3) := by decide +kernel
theorem dX11_checkCounted_11 : decode cX11_checkCounted 11 = .ok (.new 188, 3) := by decide +kernel
theorem dX11_checkCounted_14 : decode cX11_checkCounted 14 = .ok (.dup, 1) := by decide +kernel
theorem dX11_checkCounted_15 : decode cX11_checkCounted 15 = .ok (.ldc_w 367, 3) := by decide +kernel
theorem dX11_checkCounted_18 : decode cX11_checkCounted 18 = .ok (.invokespecial 192, 3) := by decide +kernel
theorem dX11_checkCounted_21 : decode cX11_checkCounted 21 = .ok (.athrow, 1) := by decide +kernel
theorem dX11_checkCounted_22 : decode cX11_checkCounted 22 = .ok (.return_, 1) := by decide +kernel
theorem dX11_leastFailure_0 : decode cX11_leastFailure 0 = .ok (.aload_n 0, 1) := by decide +kernel
theorem dX11_leastFailure_1 : decode cX11_leastFailure 1 = .ok (.getfield 23, 3) := by decide +kernel
theorem dX11_leastFailure_4 : decode cX11_leastFailure 4 = .ok (.aload_n 1, 1) := by decide +kernel
theorem dX11_leastFailure_5 : decode cX11_leastFailure 5 = .ok (.invokevirtual 152, 3) := by decide +kernel
theorem dX11_leastFailure_8 : decode cX11_leastFailure 8 = .ok (.aload_n 1, 1) := by decide +kernel
theorem dX11_leastFailure_9 : decode cX11_leastFailure 9 = .ok (.invokevirtual 369, 3) := by decide +kernel
theorem dX11_leastFailure_12 : decode cX11_leastFailure 12 = .ok (.aload_n 1, 1) := by decide +kernel
theorem dX11_leastFailure_13 : decode cX11_leastFailure 13 = .ok (.aload_n 1, 1) := by decide +kernel
theorem dX11_leastFailure_14 : decode cX11_leastFailure 14 = .ok (.invokevirtual 123, 3) := by decide +kernel
theorem dX11_leastFailure_17 : decode cX11_leastFailure 17 = .ok (.iconst 2, 1) := by decide +kernel
theorem dX11_leastFailure_18 : decode cX11_leastFailure 18 = .ok (.isub, 1) := by decide +kernel
theorem dX11_leastFailure_19 : decode cX11_leastFailure 19 = .ok (.invokevirtual 138, 3) := by decide +kernel
theorem dX11_leastFailure_22 : decode cX11_leastFailure 22 = .ok (.iadd, 1) := by decide +kernel
theorem dX11_leastFailure_23 : decode cX11_leastFailure 23 = .ok (.istore_n 2, 1) := by decide +kernel
theorem dX11_leastFailure_24 : decode cX11_leastFailure 24 = .ok (.iconst 1, 1) := by decide +kernel
theorem dX11_leastFailure_25 : decode cX11_leastFailure 25 = .ok (.istore_n 3, 1) := by decide +kernel
theorem dX11_leastFailure_26 : decode cX11_leastFailure 26 = .ok (.iload_n 3, 1) := by decide +kernel
theorem dX11_leastFailure_27 : decode cX11_leastFailure 27 = .ok (.iload_n 2, 1) := by decide +kernel
theorem dX11_leastFailure_28 : decode cX11_leastFailure 28 = .ok (.if_icmp .ge 40, 3) := by decide +kernel
theorem dX11_leastFailure_31 : decode cX11_leastFailure 31 = .ok (.aload_n 0, 1) := by decide +kernel
theorem dX11_leastFailure_32 : decode cX11_leastFailure 32 = .ok (.getfield 23, 3) := by decide +kernel
theorem dX11_leastFailure_35 : decode cX11_leastFailure 35 = .ok (.iload_n 3, 1) := by decide +kernel
theorem dX11_leastFailure_36 : decode cX11_leastFailure 36 = .ok (.invokevirtual 372, 3) := by decide +kernel
theorem dX11_leastFailure_39 : decode cX11_leastFailure 39 = .ok (.istore 4, 2) := by decide +kernel
theorem dX11_leastFailure_41 : decode cX11_leastFailure 41 = .ok (.iload 4, 2) := by decide +kernel
theorem dX11_leastFailure_43 : decode cX11_leastFailure 43 = .ok (.iconst (-1), 1) := by decide +kernel
theorem dX11_leastFailure_44 : decode cX11_leastFailure 44 = .ok (.if_icmp .eq 18, 3) := by decide +kernel
theorem dX11_leastFailure_47 : decode cX11_leastFailure 47 = .ok (.aload_n 1, 1) := by decide +kernel
theorem dX11_leastFailure_48 : decode cX11_leastFailure 48 = .ok (.iload_n 3, 1) := by decide +kernel
theorem dX11_leastFailure_49 : decode cX11_leastFailure 49 = .ok (.i2l, 1) := by decide +kernel
theorem dX11_leastFailure_50 : decode cX11_leastFailure 50 = .ok (.invokevirtual 164, 3) := by decide +kernel
theorem dX11_leastFailure_53 : decode cX11_leastFailure 53 = .ok (.iload 4, 2) := by decide +kernel
theorem dX11_leastFailure_55 : decode cX11_leastFailure 55 = .ok (.i2l, 1) := by decide +kernel
theorem dX11_leastFailure_56 : decode cX11_leastFailure 56 = .ok (.lcmp, 1) := by decide +kernel
theorem dX11_leastFailure_57 : decode cX11_leastFailure 57 = .ok (.ifCond .eq 5, 3) := by decide +kernel
theorem dX11_leastFailure_60 : decode cX11_leastFailure 60 = .ok (.iload_n 3, 1) := by decide +kernel
theorem dX11_leastFailure_61 : decode cX11_leastFailure 61 = .ok (.ireturn, 1) := by decide +kernel
theorem dX11_leastFailure_62 : decode cX11_leastFailure 62 = .ok (.iinc 3 1, 3) := by decide +kernel
theorem dX11_leastFailure_65 : decode cX11_leastFailure 65 = .ok (.goto (-39), 3) := by decide +kernel
theorem dX11_leastFailure_68 : decode cX11_leastFailure 68 = .ok (.iconst (-1), 1) := by decide +kernel
theorem dX11_leastFailure_69 : decode cX11_leastFailure 69 = .ok (.ireturn, 1) := by decide +kernel
theorem dX11_lastGap_0 : decode cX11_lastGap 0 = .ok (.aload_n 1, 1) := by decide +kernel
theorem dX11_lastGap_1 : decode cX11_lastGap 1 = .ok (.invokevirtual 171, 3) := by decide +kernel
theorem dX11_lastGap_4 : decode cX11_lastGap 4 = .ok (.iconst 1, 1) := by decide +kernel
theorem dX11_lastGap_5 : decode cX11_lastGap 5 = .ok (.if_icmp .eq 6, 3) := by decide +kernel
theorem dX11_lastGap_8 : decode cX11_lastGap 8 = .ok (.bipush (-2), 2) := by decide +kernel
theorem dX11_lastGap_10 : decode cX11_lastGap 10 = .ok (.ireturn, 1) := by decide +kernel
theorem dX11_lastGap_11 : decode cX11_lastGap 11 = .ok (.aload_n 0, 1) := by decide +kernel
theorem dX11_lastGap_12 : decode cX11_lastGap 12 = .ok (.getfield 30, 3) := by decide +kernel
theorem dX11_lastGap_15 : decode cX11_lastGap 15 = .ok (.aload_n 1, 1) := by decide +kernel
theorem dX11_lastGap_16 : decode cX11_lastGap 16 = .ok (.aload_n 1, 1) := by decide +kernel
theorem dX11_lastGap_17 : decode cX11_lastGap 17 = .ok (.invokevirtual 176, 3) := by decide +kernel
theorem dX11_lastGap_20 : decode cX11_lastGap 20 = .ok (.invokevirtual 179, 3) := by decide +kernel
theorem dX11_lastGap_23 : decode cX11_lastGap 23 = .ok (.aload_n 0, 1) := by decide +kernel
theorem dX11_lastGap_24 : decode cX11_lastGap 24 = .ok (.getfield 30, 3) := by decide +kernel
theorem dX11_lastGap_27 : decode cX11_lastGap 27 = .ok (.invokevirtual 199, 3) := by decide +kernel
theorem dX11_lastGap_30 : decode cX11_lastGap 30 = .ok (.ireturn, 1) := by decide +kernel
theorem dX11_offerCommon_0 : decode cX11_offerCommon 0 = .ok (.aload_n 0, 1) := by decide +kernel
theorem dX11_offerCommon_1 : decode cX11_offerCommon 1 = .ok (.getfield 30, 3) := by decide +kernel
theorem dX11_offerCommon_4 : decode cX11_offerCommon 4 = .ok (.aload_n 1, 1) := by decide +kernel
theorem dX11_offerCommon_5 : decode cX11_offerCommon 5 = .ok (.aload_n 1, 1) := by decide +kernel
theorem dX11_offerCommon_6 : decode cX11_offerCommon 6 = .ok (.invokevirtual 176, 3) := by decide +kernel
theorem dX11_offerCommon_9 : decode cX11_offerCommon 9 = .ok (.invokevirtual 179, 3) := by decide +kernel
theorem dX11_offerCommon_12 : decode cX11_offerCommon 12 = .ok (.aload_n 0, 1) := by decide +kernel
theorem dX11_offerCommon_13 : decode cX11_offerCommon 13 = .ok (.getfield 34, 3) := by decide +kernel
theorem dX11_offerCommon_16 : decode cX11_offerCommon 16 = .ok (.aload_n 2, 1) := by decide +kernel
theorem dX11_offerCommon_17 : decode cX11_offerCommon 17 = .ok (.aload_n 2, 1) := by decide +kernel
theorem dX11_offerCommon_18 : decode cX11_offerCommon 18 = .ok (.invokevirtual 176, 3) := by decide +kernel
theorem dX11_offerCommon_21 : decode cX11_offerCommon 21 = .ok (.invokevirtual 179, 3) := by decide +kernel
theorem dX11_offerCommon_24 : decode cX11_offerCommon 24 = .ok (.iconst 1, 1) := by decide +kernel
theorem dX11_offerCommon_25 : decode cX11_offerCommon 25 = .ok (.istore_n 3, 1) := by decide +kernel
theorem dX11_offerCommon_26 : decode cX11_offerCommon 26 = .ok (.iload_n 3, 1) := by decide +kernel
theorem dX11_offerCommon_27 : decode cX11_offerCommon 27 = .ok (.sipush 300, 3) := by decide +kernel
theorem dX11_offerCommon_30 : decode cX11_offerCommon 30 = .ok (.if_icmp .gt 39, 3) := by decide +kernel
theorem dX11_offerCommon_33 : decode cX11_offerCommon 33 = .ok (.aload_n 0, 1) := by decide +kernel
theorem dX11_offerCommon_34 : decode cX11_offerCommon 34 = .ok (.getfield 30, 3) := by decide +kernel
theorem dX11_offerCommon_37 : decode cX11_offerCommon 37 = .ok (.iload_n 3, 1) := by decide +kernel
theorem dX11_offerCommon_38 : decode cX11_offerCommon 38 = .ok (.invokevirtual 240, 3) := by decide +kernel
theorem dX11_offerCommon_41 : decode cX11_offerCommon 41 = .ok (.ifCond .eq 22, 3) := by decide +kernel
theorem dX11_offerCommon_44 : decode cX11_offerCommon 44 = .ok (.aload_n 0, 1) := by decide +kernel
theorem dX11_offerCommon_45 : decode cX11_offerCommon 45 = .ok (.getfield 34, 3) := by decide +kernel
theorem dX11_offerCommon_48 : decode cX11_offerCommon 48 = .ok (.iload_n 3, 1) := by decide +kernel
theorem dX11_offerCommon_49 : decode cX11_offerCommon 49 = .ok (.invokevirtual 240, 3) := by decide +kernel
theorem dX11_offerCommon_52 : decode cX11_offerCommon 52 = .ok (.ifCond .eq 11, 3) := by decide +kernel
theorem dX11_offerCommon_55 : decode cX11_offerCommon 55 = .ok (.aload_n 0, 1) := by decide +kernel
theorem dX11_offerCommon_56 : decode cX11_offerCommon 56 = .ok (.getfield 43, 3) := by decide +kernel
theorem dX11_offerCommon_59 : decode cX11_offerCommon 59 = .ok (.iload_n 3, 1) := by decide +kernel
theorem dX11_offerCommon_60 : decode cX11_offerCommon 60 = .ok (.invokevirtual 243, 3) := by decide +kernel
theorem dX11_offerCommon_63 : decode cX11_offerCommon 63 = .ok (.iinc 3 1, 3) := by decide +kernel
theorem dX11_offerCommon_66 : decode cX11_offerCommon 66 = .ok (.goto (-40), 3) := by decide +kernel
theorem dX11_offerCommon_69 : decode cX11_offerCommon 69 = .ok (.return_, 1) := by decide +kernel
theorem dX11_pickedPayCommon_0 : decode cX11_pickedPayCommon 0 = .ok (.aload_n 0, 1) := by decide +kernel
theorem dX11_pickedPayCommon_1 : decode cX11_pickedPayCommon 1 = .ok (.getfield 43, 3) := by decide +kernel
theorem dX11_pickedPayCommon_4 : decode cX11_pickedPayCommon 4 = .ok (.invokevirtual 216, 3) := by decide +kernel
theorem dX11_pickedPayCommon_7 : decode cX11_pickedPayCommon 7 = .ok (.astore_n 3, 1) := by decide +kernel
theorem dX11_pickedPayCommon_8 : decode cX11_pickedPayCommon 8 = .ok (.aload_n 3, 1) := by decide +kernel
theorem dX11_pickedPayCommon_9 : decode cX11_pickedPayCommon 9 = .ok (.invokevirtual 176, 3) := by decide +kernel
theorem dX11_pickedPayCommon_12 : decode cX11_pickedPayCommon 12 = .ok (.istore 4, 2) := by decide +kernel
theorem dX11_pickedPayCommon_14 : decode cX11_pickedPayCommon 14 = .ok (.iload 4, 2) := by decide +kernel
theorem dX11_pickedPayCommon_16 : decode cX11_pickedPayCommon 16 = .ok (.ifCond .ne 5, 3) := by decide +kernel
theorem dX11_pickedPayCommon_19 : decode cX11_pickedPayCommon 19 = .ok (.iconst 0, 1) := by decide +kernel
theorem dX11_pickedPayCommon_20 : decode cX11_pickedPayCommon 20 = .ok (.ireturn, 1) := by decide +kernel
theorem dX11_pickedPayCommon_21 : decode cX11_pickedPayCommon 21 = .ok (.aload_n 0, 1) := by decide +kernel
theorem dX11_pickedPayCommon_22 : decode cX11_pickedPayCommon 22 = .ok (.getfield 30, 3) := by decide +kernel
theorem dX11_pickedPayCommon_25 : decode cX11_pickedPayCommon 25 = .ok (.aload_n 1, 1) := by decide +kernel
theorem dX11_pickedPayCommon_26 : decode cX11_pickedPayCommon 26 = .ok (.iload 4, 2) := by decide +kernel
theorem dX11_pickedPayCommon_28 : decode cX11_pickedPayCommon 28 = .ok (.invokevirtual 179, 3) := by decide +kernel
theorem dX11_pickedPayCommon_31 : decode cX11_pickedPayCommon 31 = .ok (.aload_n 0, 1) := by decide +kernel
theorem dX11_pickedPayCommon_32 : decode cX11_pickedPayCommon 32 = .ok (.getfield 34, 3) := by decide +kernel
theorem dX11_pickedPayCommon_35 : decode cX11_pickedPayCommon 35 = .ok (.aload_n 2, 1) := by decide +kernel
theorem dX11_pickedPayCommon_36 : decode cX11_pickedPayCommon 36 = .ok (.iload 4, 2) := by decide +kernel
theorem dX11_pickedPayCommon_38 : decode cX11_pickedPayCommon 38 = .ok (.invokevirtual 179, 3) := by decide +kernel
theorem dX11_pickedPayCommon_41 : decode cX11_pickedPayCommon 41 = .ok (.aload_n 0, 1) := by decide +kernel
theorem dX11_pickedPayCommon_42 : decode cX11_pickedPayCommon 42 = .ok (.getfield 37, 3) := by decide +kernel
theorem dX11_pickedPayCommon_45 : decode cX11_pickedPayCommon 45 = .ok (.aload_n 3, 1) := by decide +kernel
theorem dX11_pickedPayCommon_46 : decode cX11_pickedPayCommon 46 = .ok (.iload 4, 2) := by decide +kernel
theorem dX11_pickedPayCommon_48 : decode cX11_pickedPayCommon 48 = .ok (.invokevirtual 179, 3) := by decide +kernel
theorem dX11_pickedPayCommon_51 : decode cX11_pickedPayCommon 51 = .ok (.iconst 0, 1) := by decide +kernel
theorem dX11_pickedPayCommon_52 : decode cX11_pickedPayCommon 52 = .ok (.istore 5, 2) := by decide +kernel
theorem dX11_pickedPayCommon_54 : decode cX11_pickedPayCommon 54 = .ok (.iload 5, 2) := by decide +kernel
theorem dX11_pickedPayCommon_56 : decode cX11_pickedPayCommon 56 = .ok (.iload 4, 2) := by decide +kernel
theorem dX11_pickedPayCommon_58 : decode cX11_pickedPayCommon 58 = .ok (.if_icmp .ge 44, 3) := by decide +kernel
theorem dX11_pickedPayCommon_61 : decode cX11_pickedPayCommon 61 = .ok (.aload_n 0, 1) := by decide +kernel
theorem dX11_pickedPayCommon_62 : decode cX11_pickedPayCommon 62 = .ok (.getfield 37, 3) := by decide +kernel
theorem dX11_pickedPayCommon_65 : decode cX11_pickedPayCommon 65 = .ok (.iload 5, 2) := by decide +kernel
theorem dX11_pickedPayCommon_67 : decode cX11_pickedPayCommon 67 = .ok (.invokevirtual 204, 3) := by decide +kernel
theorem dX11_pickedPayCommon_70 : decode cX11_pickedPayCommon 70 = .ok (.aload_n 0, 1) := by decide +kernel
theorem dX11_pickedPayCommon_71 : decode cX11_pickedPayCommon 71 = .ok (.getfield 30, 3) := by decide +kernel
theorem dX11_pickedPayCommon_74 : decode cX11_pickedPayCommon 74 = .ok (.iload 5, 2) := by decide +kernel
theorem dX11_pickedPayCommon_76 : decode cX11_pickedPayCommon 76 = .ok (.invokevirtual 204, 3) := by decide +kernel
theorem dX11_pickedPayCommon_79 : decode cX11_pickedPayCommon 79 = .ok (.aload_n 0, 1) := by decide +kernel
theorem dX11_pickedPayCommon_80 : decode cX11_pickedPayCommon 80 = .ok (.getfield 34, 3) := by decide +kernel
theorem dX11_pickedPayCommon_83 : decode cX11_pickedPayCommon 83 = .ok (.iload 5, 2) := by decide +kernel
theorem dX11_pickedPayCommon_85 : decode cX11_pickedPayCommon 85 = .ok (.invokevirtual 204, 3) := by decide +kernel
theorem dX11_pickedPayCommon_88 : decode cX11_pickedPayCommon 88 = .ok (.invokestatic 375, 3) := by decide +kernel
theorem dX11_pickedPayCommon_91 : decode cX11_pickedPayCommon 91 = .ok (.if_icmp .eq 5, 3) := by decide +kernel
theorem dX11_pickedPayCommon_94 : decode cX11_pickedPayCommon 94 = .ok (.iconst 0, 1) := by decide +kernel
theorem dX11_pickedPayCommon_95 : decode cX11_pickedPayCommon 95 = .ok (.ireturn, 1) := by decide +kernel
theorem dX11_pickedPayCommon_96 : decode cX11_pickedPayCommon 96 = .ok (.iinc 5 1, 3) := by decide +kernel
theorem dX11_pickedPayCommon_99 : decode cX11_pickedPayCommon 99 = .ok (.goto (-45), 3) := by decide +kernel
theorem dX11_pickedPayCommon_102 : decode cX11_pickedPayCommon 102 = .ok (.iconst 1, 1) := by decide +kernel
theorem dX11_pickedPayCommon_103 : decode cX11_pickedPayCommon 103 = .ok (.ireturn, 1) := by decide +kernel
theorem dX11_becomePicked_0 : decode cX11_becomePicked 0 = .ok (.aload_n 0, 1) := by decide +kernel
theorem dX11_becomePicked_1 : decode cX11_becomePicked 1 = .ok (.getfield 14, 3) := by decide +kernel
theorem dX11_becomePicked_4 : decode cX11_becomePicked 4 = .ok (.invokevirtual 117, 3) := by decide +kernel
theorem dX11_becomePicked_7 : decode cX11_becomePicked 7 = .ok (.aload_n 0, 1) := by decide +kernel
theorem dX11_becomePicked_8 : decode cX11_becomePicked 8 = .ok (.getfield 14, 3) := by decide +kernel
theorem dX11_becomePicked_11 : decode cX11_becomePicked 11 = .ok (.iload_n 1, 1) := by decide +kernel
theorem dX11_becomePicked_12 : decode cX11_becomePicked 12 = .ok (.invokevirtual 106, 3) := by decide +kernel
theorem dX11_becomePicked_15 : decode cX11_becomePicked 15 = .ok (.aload_n 0, 1) := by decide +kernel
theorem dX11_becomePicked_16 : decode cX11_becomePicked 16 = .ok (.getfield 43, 3) := by decide +kernel
theorem dX11_becomePicked_19 : decode cX11_becomePicked 19 = .ok (.invokevirtual 216, 3) := by decide +kernel
theorem dX11_becomePicked_22 : decode cX11_becomePicked 22 = .ok (.invokevirtual 220, 3) := by decide +kernel
theorem dX11_becomePicked_25 : decode cX11_becomePicked 25 = .ok (.aload_n 0, 1) := by decide +kernel
theorem dX11_becomePicked_26 : decode cX11_becomePicked 26 = .ok (.getfield 43, 3) := by decide +kernel
theorem dX11_becomePicked_29 : decode cX11_becomePicked 29 = .ok (.invokevirtual 216, 3) := by decide +kernel
theorem dX11_becomePicked_32 : decode cX11_becomePicked 32 = .ok (.invokevirtual 123, 3) := by decide +kernel
theorem dX11_becomePicked_35 : decode cX11_becomePicked 35 = .ok (.ireturn, 1) := by decide +kernel
theorem dX11_countWays_0 : decode cX11_countWays 0 = .ok (.aload_n 0, 1) := by decide +kernel
theorem dX11_countWays_1 : decode cX11_countWays 1 = .ok (.getfield 57, 3) := by decide +kernel
theorem dX11_countWays_4 : decode cX11_countWays 4 = .ok (.aload_n 1, 1) := by decide +kernel
theorem dX11_countWays_5 : decode cX11_countWays 5 = .ok (.invokevirtual 380, 3) := by decide +kernel
theorem dX11_countWays_8 : decode cX11_countWays 8 = .ok (.aload_n 0, 1) := by decide +kernel
theorem dX11_countWays_9 : decode cX11_countWays 9 = .ok (.getfield 57, 3) := by decide +kernel
theorem dX11_countWays_12 : decode cX11_countWays 12 = .ok (.iload_n 2, 1) := by decide +kernel
theorem dX11_countWays_13 : decode cX11_countWays 13 = .ok (.invokevirtual 381, 3) := by decide +kernel
theorem dX11_countWays_16 : decode cX11_countWays 16 = .ok (.lstore_n 3, 1) := by decide +kernel
theorem dX11_countWays_17 : decode cX11_countWays 17 = .ok (.lload_n 3, 1) := by decide +kernel
theorem dX11_countWays_18 : decode cX11_countWays 18 = .ok (.ldc2_w 384, 3) := by decide +kernel
theorem dX11_countWays_21 : decode cX11_countWays 21 = .ok (.lcmp, 1) := by decide +kernel
theorem dX11_countWays_22 : decode cX11_countWays 22 = .ok (.ifCond .le 9, 3) := by decide +kernel
theorem dX11_countWays_25 : decode cX11_countWays 25 = .ok (.ldc2_w 282, 3) := by decide +kernel
theorem dX11_countWays_28 : decode cX11_countWays 28 = .ok (.goto 4, 3) := by decide +kernel
theorem dX11_countWays_31 : decode cX11_countWays 31 = .ok (.lload_n 3, 1) := by decide +kernel
theorem dX11_countWays_32 : decode cX11_countWays 32 = .ok (.lreturn, 1) := by decide +kernel
theorem dX11_changeBack_0 : decode cX11_changeBack 0 = .ok (.aload_n 0, 1) := by decide +kernel
theorem dX11_changeBack_1 : decode cX11_changeBack 1 = .ok (.iload_n 1, 1) := by decide +kernel
theorem dX11_changeBack_2 : decode cX11_changeBack 2 = .ok (.invokevirtual 324, 3) := by decide +kernel
theorem dX11_changeBack_5 : decode cX11_changeBack 5 = .ok (.astore 4, 2) := by decide +kernel
theorem dX11_changeBack_7 : decode cX11_changeBack 7 = .ok (.aload_n 0, 1) := by decide +kernel
theorem dX11_changeBack_8 : decode cX11_changeBack 8 = .ok (.iload_n 2, 1) := by decide +kernel
theorem dX11_changeBack_9 : decode cX11_changeBack 9 = .ok (.invokevirtual 324, 3) := by decide +kernel
theorem dX11_changeBack_12 : decode cX11_changeBack 12 = .ok (.astore 5, 2) := by decide +kernel
theorem dX11_changeBack_14 : decode cX11_changeBack 14 = .ok (.iload_n 3, 1) := by decide +kernel
theorem dX11_changeBack_15 : decode cX11_changeBack 15 = .ok (.ifCond .lt 8, 3) := by decide +kernel
theorem dX11_changeBack_18 : decode cX11_changeBack 18 = .ok (.iload_n 1, 1) := by decide +kernel
theorem dX11_changeBack_19 : decode cX11_changeBack 19 = .ok (.iload_n 2, 1) := by decide +kernel
theorem dX11_changeBack_20 : decode cX11_changeBack 20 = .ok (.if_icmp .ne 14, 3) := by decide +kernel
theorem dX11_changeBack_23 : decode cX11_changeBack 23 = .ok (.new 188, 3) := by decide +kernel
theorem dX11_changeBack_26 : decode cX11_changeBack 26 = .ok (.dup, 1) := by decide +kernel
theorem dX11_changeBack_27 : decode cX11_changeBack 27 = .ok (.ldc_w 386, 3) := by decide +kernel
theorem dX11_changeBack_30 : decode cX11_changeBack 30 = .ok (.invokespecial 192, 3) := by decide +kernel
theorem dX11_changeBack_33 : decode cX11_changeBack 33 = .ok (.athrow, 1) := by decide +kernel
theorem dX11_changeBack_34 : decode cX11_changeBack 34 = .ok (.aload_n 0, 1) := by decide +kernel
theorem dX11_changeBack_35 : decode cX11_changeBack 35 = .ok (.getfield 78, 3) := by decide +kernel
theorem dX11_changeBack_38 : decode cX11_changeBack 38 = .ok (.aload 4, 2) := by decide +kernel
theorem dX11_changeBack_40 : decode cX11_changeBack 40 = .ok (.invokevirtual 334, 3) := by decide +kernel
theorem dX11_changeBack_43 : decode cX11_changeBack 43 = .ok (.aload_n 0, 1) := by decide +kernel
theorem dX11_changeBack_44 : decode cX11_changeBack 44 = .ok (.getfield 82, 3) := by decide +kernel
theorem dX11_changeBack_47 : decode cX11_changeBack 47 = .ok (.aload 5, 2) := by decide +kernel
theorem dX11_changeBack_49 : decode cX11_changeBack 49 = .ok (.invokevirtual 334, 3) := by decide +kernel
theorem dX11_changeBack_52 : decode cX11_changeBack 52 = .ok (.aload_n 0, 1) := by decide +kernel
theorem dX11_changeBack_53 : decode cX11_changeBack 53 = .ok (.getfield 78, 3) := by decide +kernel
theorem dX11_changeBack_56 : decode cX11_changeBack 56 = .ok (.aload_n 0, 1) := by decide +kernel
theorem dX11_changeBack_57 : decode cX11_changeBack 57 = .ok (.getfield 82, 3) := by decide +kernel
theorem dX11_changeBack_60 : decode cX11_changeBack 60 = .ok (.iload_n 3, 1) := by decide +kernel
theorem dX11_changeBack_61 : decode cX11_changeBack 61 = .ok (.invokevirtual 388, 3) := by decide +kernel
theorem dX11_changeBack_64 : decode cX11_changeBack 64 = .ok (.ireturn, 1) := by decide +kernel
theorem dX11_moved_0 : decode cX11_moved 0 = .ok (.aload_n 0, 1) := by decide +kernel
theorem dX11_moved_1 : decode cX11_moved 1 = .ok (.getfield 78, 3) := by decide +kernel
theorem dX11_moved_4 : decode cX11_moved 4 = .ok (.iload_n 1, 1) := by decide +kernel
theorem dX11_moved_5 : decode cX11_moved 5 = .ok (.iload_n 2, 1) := by decide +kernel
theorem dX11_moved_6 : decode cX11_moved 6 = .ok (.iadd, 1) := by decide +kernel
theorem dX11_moved_7 : decode cX11_moved 7 = .ok (.invokevirtual 337, 3) := by decide +kernel
theorem dX11_moved_10 : decode cX11_moved 10 = .ok (.aload_n 0, 1) := by decide +kernel
theorem dX11_moved_11 : decode cX11_moved 11 = .ok (.getfield 82, 3) := by decide +kernel
theorem dX11_moved_14 : decode cX11_moved 14 = .ok (.iload_n 2, 1) := by decide +kernel
theorem dX11_moved_15 : decode cX11_moved 15 = .ok (.invokevirtual 337, 3) := by decide +kernel
theorem dX11_moved_18 : decode cX11_moved 18 = .ok (.iadd, 1) := by decide +kernel
theorem dX11_moved_19 : decode cX11_moved 19 = .ok (.ireturn, 1) := by decide +kernel
theorem dX11_greatestCommon_0 : decode cX11_greatestCommon 0 = .ok (.iload_n 0, 1) := by decide +kernel
theorem dX11_greatestCommon_1 : decode cX11_greatestCommon 1 = .ok (.istore_n 2, 1) := by decide +kernel
theorem dX11_greatestCommon_2 : decode cX11_greatestCommon 2 = .ok (.iload_n 1, 1) := by decide +kernel
theorem dX11_greatestCommon_3 : decode cX11_greatestCommon 3 = .ok (.istore_n 3, 1) := by decide +kernel
theorem dX11_greatestCommon_4 : decode cX11_greatestCommon 4 = .ok (.iconst 0, 1) := by decide +kernel
theorem dX11_greatestCommon_5 : decode cX11_greatestCommon 5 = .ok (.istore 4, 2) := by decide +kernel
theorem dX11_greatestCommon_7 : decode cX11_greatestCommon 7 = .ok (.iload 4, 2) := by decide +kernel
theorem dX11_greatestCommon_9 : decode cX11_greatestCommon 9 = .ok (.bipush 64, 2) := by decide +kernel
theorem dX11_greatestCommon_11 : decode cX11_greatestCommon 11 = .ok (.if_icmp .ge 23, 3) := by decide +kernel
theorem dX11_greatestCommon_14 : decode cX11_greatestCommon 14 = .ok (.iload_n 3, 1) := by decide +kernel
theorem dX11_greatestCommon_15 : decode cX11_greatestCommon 15 = .ok (.ifCond .eq 19, 3) := by decide +kernel
theorem dX11_greatestCommon_18 : decode cX11_greatestCommon 18 = .ok (.iload_n 2, 1) := by decide +kernel
theorem dX11_greatestCommon_19 : decode cX11_greatestCommon 19 = .ok (.iload_n 3, 1) := by decide +kernel
theorem dX11_greatestCommon_20 : decode cX11_greatestCommon 20 = .ok (.irem, 1) := by decide +kernel
theorem dX11_greatestCommon_21 : decode cX11_greatestCommon 21 = .ok (.istore 5, 2) := by decide +kernel
theorem dX11_greatestCommon_23 : decode cX11_greatestCommon 23 = .ok (.iload_n 3, 1) := by decide +kernel
theorem dX11_greatestCommon_24 : decode cX11_greatestCommon 24 = .ok (.istore_n 2, 1) := by decide +kernel
theorem dX11_greatestCommon_25 : decode cX11_greatestCommon 25 = .ok (.iload 5, 2) := by decide +kernel
theorem dX11_greatestCommon_27 : decode cX11_greatestCommon 27 = .ok (.istore_n 3, 1) := by decide +kernel
theorem dX11_greatestCommon_28 : decode cX11_greatestCommon 28 = .ok (.iinc 4 1, 3) := by decide +kernel
theorem dX11_greatestCommon_31 : decode cX11_greatestCommon 31 = .ok (.goto (-24), 3) := by decide +kernel
theorem dX11_greatestCommon_34 : decode cX11_greatestCommon 34 = .ok (.iload_n 2, 1) := by decide +kernel
theorem dX11_greatestCommon_35 : decode cX11_greatestCommon 35 = .ok (.ireturn, 1) := by decide +kernel
