theorem dX0_init_0 : decode cX0_init 0 = .ok (.aload_n 0, 1) := by decide +kernel
theorem dX0_init_1 : decode cX0_init 1 = .ok (.invokespecial 3, 3) := by decide +kernel
theorem dX0_init_4 : decode cX0_init 4 = .ok (.aload_n 0, 1) := by decide +kernel
theorem dX0_init_5 : decode cX0_init 5 = .ok (.sipush 300, 3) := by decide +kernel
theorem dX0_init_8 : decode cX0_init 8 = .ok (.newarray .int, 2) := by decide +kernel
theorem dX0_init_10 : decode cX0_init 10 = .ok (.putfield 9, 3) := by decide +kernel
theorem dX0_init_13 : decode cX0_init 13 = .ok (.aload_n 0, 1) := by decide +kernel
theorem dX0_init_14 : decode cX0_init 14 = .ok (.iconst 1, 1) := by decide +kernel
theorem dX0_init_15 : decode cX0_init 15 = .ok (.putfield 15, 3) := by decide +kernel
theorem dX0_init_18 : decode cX0_init 18 = .ok (.return_, 1) := by decide +kernel
theorem dX0_start_0 : decode cX0_start 0 = .ok (.aload_n 0, 1) := by decide +kernel
theorem dX0_start_1 : decode cX0_start 1 = .ok (.iconst 1, 1) := by decide +kernel
theorem dX0_start_2 : decode cX0_start 2 = .ok (.iload_n 1, 1) := by decide +kernel
theorem dX0_start_3 : decode cX0_start 3 = .ok (.sipush 300, 3) := by decide +kernel
theorem dX0_start_6 : decode cX0_start 6 = .ok (.invokestatic 19, 3) := by decide +kernel
theorem dX0_start_9 : decode cX0_start 9 = .ok (.invokestatic 25, 3) := by decide +kernel
theorem dX0_start_12 : decode cX0_start 12 = .ok (.putfield 15, 3) := by decide +kernel
theorem dX0_start_15 : decode cX0_start 15 = .ok (.aload_n 0, 1) := by decide +kernel
theorem dX0_start_16 : decode cX0_start 16 = .ok (.getfield 9, 3) := by decide +kernel
theorem dX0_start_19 : decode cX0_start 19 = .ok (.ldc 28, 2) := by decide +kernel
theorem dX0_start_21 : decode cX0_start 21 = .ok (.invokestatic 29, 3) := by decide +kernel
theorem dX0_start_24 : decode cX0_start 24 = .ok (.aload_n 0, 1) := by decide +kernel
theorem dX0_start_25 : decode cX0_start 25 = .ok (.getfield 9, 3) := by decide +kernel
theorem dX0_start_28 : decode cX0_start 28 = .ok (.iconst 0, 1) := by decide +kernel
theorem dX0_start_29 : decode cX0_start 29 = .ok (.iconst 0, 1) := by decide +kernel
theorem dX0_start_30 : decode cX0_start 30 = .ok (.iastore, 1) := by decide +kernel
theorem dX0_start_31 : decode cX0_start 31 = .ok (.return_, 1) := by decide +kernel
theorem dX0_modulus_0 : decode cX0_modulus 0 = .ok (.aload_n 0, 1) := by decide +kernel
theorem dX0_modulus_1 : decode cX0_modulus 1 = .ok (.getfield 15, 3) := by decide +kernel
theorem dX0_modulus_4 : decode cX0_modulus 4 = .ok (.ireturn, 1) := by decide +kernel
theorem dX0_allow_0 : decode cX0_allow 0 = .ok (.iload_n 1, 1) := by decide +kernel
theorem dX0_allow_1 : decode cX0_allow 1 = .ok (.aload_n 0, 1) := by decide +kernel
theorem dX0_allow_2 : decode cX0_allow 2 = .ok (.getfield 15, 3) := by decide +kernel
theorem dX0_allow_5 : decode cX0_allow 5 = .ok (.irem, 1) := by decide +kernel
theorem dX0_allow_6 : decode cX0_allow 6 = .ok (.aload_n 0, 1) := by decide +kernel
theorem dX0_allow_7 : decode cX0_allow 7 = .ok (.getfield 15, 3) := by decide +kernel
theorem dX0_allow_10 : decode cX0_allow 10 = .ok (.invokestatic 35, 3) := by decide +kernel
theorem dX0_allow_13 : decode cX0_allow 13 = .ok (.istore_n 3, 1) := by decide +kernel
theorem dX0_allow_14 : decode cX0_allow 14 = .ok (.iload_n 3, 1) := by decide +kernel
theorem dX0_allow_15 : decode cX0_allow 15 = .ok (.ifCond .le 14, 3) := by decide +kernel
theorem dX0_allow_18 : decode cX0_allow 18 = .ok (.iconst 2, 1) := by decide +kernel
theorem dX0_allow_19 : decode cX0_allow 19 = .ok (.aload_n 0, 1) := by decide +kernel
theorem dX0_allow_20 : decode cX0_allow 20 = .ok (.getfield 15, 3) := by decide +kernel
theorem dX0_allow_23 : decode cX0_allow 23 = .ok (.iload_n 3, 1) := by decide +kernel
theorem dX0_allow_24 : decode cX0_allow 24 = .ok (.idiv, 1) := by decide +kernel
theorem dX0_allow_25 : decode cX0_allow 25 = .ok (.imul, 1) := by decide +kernel
theorem dX0_allow_26 : decode cX0_allow 26 = .ok (.goto 4, 3) := by decide +kernel
theorem dX0_allow_29 : decode cX0_allow 29 = .ok (.iconst 0, 1) := by decide +kernel
theorem dX0_allow_30 : decode cX0_allow 30 = .ok (.istore 4, 2) := by decide +kernel
theorem dX0_allow_32 : decode cX0_allow 32 = .ok (.iconst 0, 1) := by decide +kernel
theorem dX0_allow_33 : decode cX0_allow 33 = .ok (.istore 5, 2) := by decide +kernel
theorem dX0_allow_35 : decode cX0_allow 35 = .ok (.iload 5, 2) := by decide +kernel
theorem dX0_allow_37 : decode cX0_allow 37 = .ok (.iload_n 3, 1) := by decide +kernel
theorem dX0_allow_38 : decode cX0_allow 38 = .ok (.if_icmp .ge 91, 3) := by decide +kernel
theorem dX0_allow_41 : decode cX0_allow 41 = .ok (.iload 5, 2) := by decide +kernel
theorem dX0_allow_43 : decode cX0_allow 43 = .ok (.istore 6, 2) := by decide +kernel
theorem dX0_allow_45 : decode cX0_allow 45 = .ok (.iconst 0, 1) := by decide +kernel
theorem dX0_allow_46 : decode cX0_allow 46 = .ok (.istore 7, 2) := by decide +kernel
theorem dX0_allow_48 : decode cX0_allow 48 = .ok (.iload 7, 2) := by decide +kernel
theorem dX0_allow_50 : decode cX0_allow 50 = .ok (.iload 4, 2) := by decide +kernel
theorem dX0_allow_52 : decode cX0_allow 52 = .ok (.if_icmp .ge 71, 3) := by decide +kernel
theorem dX0_allow_55 : decode cX0_allow 55 = .ok (.iload 6, 2) := by decide +kernel
theorem dX0_allow_57 : decode cX0_allow 57 = .ok (.iload_n 1, 1) := by decide +kernel
theorem dX0_allow_58 : decode cX0_allow 58 = .ok (.iadd, 1) := by decide +kernel
theorem dX0_allow_59 : decode cX0_allow 59 = .ok (.aload_n 0, 1) := by decide +kernel
theorem dX0_allow_60 : decode cX0_allow 60 = .ok (.getfield 15, 3) := by decide +kernel
theorem dX0_allow_63 : decode cX0_allow 63 = .ok (.irem, 1) := by decide +kernel
theorem dX0_allow_64 : decode cX0_allow 64 = .ok (.istore 8, 2) := by decide +kernel
theorem dX0_allow_66 : decode cX0_allow 66 = .ok (.aload_n 0, 1) := by decide +kernel
theorem dX0_allow_67 : decode cX0_allow 67 = .ok (.getfield 9, 3) := by decide +kernel
theorem dX0_allow_70 : decode cX0_allow 70 = .ok (.iload 6, 2) := by decide +kernel
theorem dX0_allow_72 : decode cX0_allow 72 = .ok (.iaload, 1) := by decide +kernel
theorem dX0_allow_73 : decode cX0_allow 73 = .ok (.ldc 28, 2) := by decide +kernel
theorem dX0_allow_75 : decode cX0_allow 75 = .ok (.if_icmp .eq 38, 3) := by decide +kernel
theorem dX0_allow_78 : decode cX0_allow 78 = .ok (.aload_n 0, 1) := by decide +kernel
theorem dX0_allow_79 : decode cX0_allow 79 = .ok (.getfield 9, 3) := by decide +kernel
theorem dX0_allow_82 : decode cX0_allow 82 = .ok (.iload 6, 2) := by decide +kernel
theorem dX0_allow_84 : decode cX0_allow 84 = .ok (.iaload, 1) := by decide +kernel
theorem dX0_allow_85 : decode cX0_allow 85 = .ok (.iload_n 2, 1) := by decide +kernel
theorem dX0_allow_86 : decode cX0_allow 86 = .ok (.iadd, 1) := by decide +kernel
theorem dX0_allow_87 : decode cX0_allow 87 = .ok (.aload_n 0, 1) := by decide +kernel
theorem dX0_allow_88 : decode cX0_allow 88 = .ok (.getfield 9, 3) := by decide +kernel
theorem dX0_allow_91 : decode cX0_allow 91 = .ok (.iload 8, 2) := by decide +kernel
theorem dX0_allow_93 : decode cX0_allow 93 = .ok (.iaload, 1) := by decide +kernel
theorem dX0_allow_94 : decode cX0_allow 94 = .ok (.if_icmp .ge 19, 3) := by decide +kernel
theorem dX0_allow_97 : decode cX0_allow 97 = .ok (.aload_n 0, 1) := by decide +kernel
theorem dX0_allow_98 : decode cX0_allow 98 = .ok (.getfield 9, 3) := by decide +kernel
theorem dX0_allow_101 : decode cX0_allow 101 = .ok (.iload 8, 2) := by decide +kernel
theorem dX0_allow_103 : decode cX0_allow 103 = .ok (.aload_n 0, 1) := by decide +kernel
theorem dX0_allow_104 : decode cX0_allow 104 = .ok (.getfield 9, 3) := by decide +kernel
theorem dX0_allow_107 : decode cX0_allow 107 = .ok (.iload 6, 2) := by decide +kernel
theorem dX0_allow_109 : decode cX0_allow 109 = .ok (.iaload, 1) := by decide +kernel
theorem dX0_allow_110 : decode cX0_allow 110 = .ok (.iload_n 2, 1) := by decide +kernel
theorem dX0_allow_111 : decode cX0_allow 111 = .ok (.iadd, 1) := by decide +kernel
theorem dX0_allow_112 : decode cX0_allow 112 = .ok (.iastore, 1) := by decide +kernel
theorem dX0_allow_113 : decode cX0_allow 113 = .ok (.iload 8, 2) := by decide +kernel
theorem dX0_allow_115 : decode cX0_allow 115 = .ok (.istore 6, 2) := by decide +kernel
theorem dX0_allow_117 : decode cX0_allow 117 = .ok (.iinc 7 1, 3) := by decide +kernel
theorem dX0_allow_120 : decode cX0_allow 120 = .ok (.goto (-72), 3) := by decide +kernel
theorem dX0_allow_123 : decode cX0_allow 123 = .ok (.iinc 5 1, 3) := by decide +kernel
theorem dX0_allow_126 : decode cX0_allow 126 = .ok (.goto (-91), 3) := by decide +kernel
theorem dX0_allow_129 : decode cX0_allow 129 = .ok (.return_, 1) := by decide +kernel
theorem dX0_weight_0 : decode cX0_weight 0 = .ok (.iload_n 1, 1) := by decide +kernel
theorem dX0_weight_1 : decode cX0_weight 1 = .ok (.ifCond .lt 20, 3) := by decide +kernel
theorem dX0_weight_4 : decode cX0_weight 4 = .ok (.iload_n 1, 1) := by decide +kernel
theorem dX0_weight_5 : decode cX0_weight 5 = .ok (.aload_n 0, 1) := by decide +kernel
theorem dX0_weight_6 : decode cX0_weight 6 = .ok (.getfield 15, 3) := by decide +kernel
theorem dX0_weight_9 : decode cX0_weight 9 = .ok (.if_icmp .ge 12, 3) := by decide +kernel
theorem dX0_weight_12 : decode cX0_weight 12 = .ok (.aload_n 0, 1) := by decide +kernel
theorem dX0_weight_13 : decode cX0_weight 13 = .ok (.getfield 9, 3) := by decide +kernel
theorem dX0_weight_16 : decode cX0_weight 16 = .ok (.iload_n 1, 1) := by decide +kernel
theorem dX0_weight_17 : decode cX0_weight 17 = .ok (.iaload, 1) := by decide +kernel
theorem dX0_weight_18 : decode cX0_weight 18 = .ok (.goto 5, 3) := by decide +kernel
theorem dX0_weight_21 : decode cX0_weight 21 = .ok (.ldc 28, 2) := by decide +kernel
theorem dX0_weight_23 : decode cX0_weight 23 = .ok (.ireturn, 1) := by decide +kernel
theorem dX1_init_0 : decode cX1_init 0 = .ok (.aload_n 0, 1) := by decide +kernel
theorem dX1_init_1 : decode cX1_init 1 = .ok (.invokespecial 3, 3) := by decide +kernel
theorem dX1_init_4 : decode cX1_init 4 = .ok (.aload_n 0, 1) := by decide +kernel
theorem dX1_init_5 : decode cX1_init 5 = .ok (.bipush 12, 2) := by decide +kernel
theorem dX1_init_7 : decode cX1_init 7 = .ok (.newarray .int, 2) := by decide +kernel
theorem dX1_init_9 : decode cX1_init 9 = .ok (.putfield 9, 3) := by decide +kernel
theorem dX1_init_12 : decode cX1_init 12 = .ok (.aload_n 0, 1) := by decide +kernel
theorem dX1_init_13 : decode cX1_init 13 = .ok (.iconst 0, 1) := by decide +kernel
theorem dX1_init_14 : decode cX1_init 14 = .ok (.putfield 15, 3) := by decide +kernel
theorem dX1_init_17 : decode cX1_init 17 = .ok (.return_, 1) := by decide +kernel
theorem dX1_count_0 : decode cX1_count 0 = .ok (.aload_n 0, 1) := by decide +kernel
theorem dX1_count_1 : decode cX1_count 1 = .ok (.getfield 15, 3) := by decide +kernel
theorem dX1_count_4 : decode cX1_count 4 = .ok (.ireturn, 1) := by decide +kernel
theorem dX1_isFull_0 : decode cX1_isFull 0 = .ok (.aload_n 0, 1) := by decide +kernel
theorem dX1_isFull_1 : decode cX1_isFull 1 = .ok (.getfield 15, 3) := by decide +kernel
theorem dX1_isFull_4 : decode cX1_isFull 4 = .ok (.bipush 12, 2) := by decide +kernel
theorem dX1_isFull_6 : decode cX1_isFull 6 = .ok (.if_icmp .lt 7, 3) := by decide +kernel
theorem dX1_isFull_9 : decode cX1_isFull 9 = .ok (.iconst 1, 1) := by decide +kernel
theorem dX1_isFull_10 : decode cX1_isFull 10 = .ok (.goto 4, 3) := by decide +kernel
theorem dX1_isFull_13 : decode cX1_isFull 13 = .ok (.iconst 0, 1) := by decide +kernel
theorem dX1_isFull_14 : decode cX1_isFull 14 = .ok (.ireturn, 1) := by decide +kernel
theorem dX1_value_0 : decode cX1_value 0 = .ok (.iload_n 1, 1) := by decide +kernel
theorem dX1_value_1 : decode cX1_value 1 = .ok (.ifCond .lt 20, 3) := by decide +kernel
theorem dX1_value_4 : decode cX1_value 4 = .ok (.iload_n 1, 1) := by decide +kernel
theorem dX1_value_5 : decode cX1_value 5 = .ok (.aload_n 0, 1) := by decide +kernel
theorem dX1_value_6 : decode cX1_value 6 = .ok (.getfield 15, 3) := by decide +kernel
theorem dX1_value_9 : decode cX1_value 9 = .ok (.if_icmp .ge 12, 3) := by decide +kernel
theorem dX1_value_12 : decode cX1_value 12 = .ok (.aload_n 0, 1) := by decide +kernel
theorem dX1_value_13 : decode cX1_value 13 = .ok (.getfield 9, 3) := by decide +kernel
theorem dX1_value_16 : decode cX1_value 16 = .ok (.iload_n 1, 1) := by decide +kernel
theorem dX1_value_17 : decode cX1_value 17 = .ok (.iaload, 1) := by decide +kernel
theorem dX1_value_18 : decode cX1_value 18 = .ok (.goto 4, 3) := by decide +kernel
theorem dX1_value_21 : decode cX1_value 21 = .ok (.iconst 0, 1) := by decide +kernel
theorem dX1_value_22 : decode cX1_value 22 = .ok (.ireturn, 1) := by decide +kernel
theorem dX1_least_0 : decode cX1_least 0 = .ok (.aload_n 0, 1) := by decide +kernel
theorem dX1_least_1 : decode cX1_least 1 = .ok (.iconst 0, 1) := by decide +kernel
theorem dX1_least_2 : decode cX1_least 2 = .ok (.invokevirtual 19, 3) := by decide +kernel
theorem dX1_least_5 : decode cX1_least 5 = .ok (.ireturn, 1) := by decide +kernel
theorem dX1_greatest_0 : decode cX1_greatest 0 = .ok (.aload_n 0, 1) := by decide +kernel
theorem dX1_greatest_1 : decode cX1_greatest 1 = .ok (.aload_n 0, 1) := by decide +kernel
theorem dX1_greatest_2 : decode cX1_greatest 2 = .ok (.getfield 15, 3) := by decide +kernel
theorem dX1_greatest_5 : decode cX1_greatest 5 = .ok (.iconst 1, 1) := by decide +kernel
theorem dX1_greatest_6 : decode cX1_greatest 6 = .ok (.isub, 1) := by decide +kernel
theorem dX1_greatest_7 : decode cX1_greatest 7 = .ok (.invokevirtual 19, 3) := by decide +kernel
theorem dX1_greatest_10 : decode cX1_greatest 10 = .ok (.ireturn, 1) := by decide +kernel
theorem dX1_placeFor_0 : decode cX1_placeFor 0 = .ok (.iconst 0, 1) := by decide +kernel
theorem dX1_placeFor_1 : decode cX1_placeFor 1 = .ok (.istore_n 2, 1) := by decide +kernel
theorem dX1_placeFor_2 : decode cX1_placeFor 2 = .ok (.iload_n 2, 1) := by decide +kernel
theorem dX1_placeFor_3 : decode cX1_placeFor 3 = .ok (.aload_n 0, 1) := by decide +kernel
theorem dX1_placeFor_4 : decode cX1_placeFor 4 = .ok (.getfield 15, 3) := by decide +kernel
theorem dX1_placeFor_7 : decode cX1_placeFor 7 = .ok (.if_icmp .ge 19, 3) := by decide +kernel
theorem dX1_placeFor_10 : decode cX1_placeFor 10 = .ok (.aload_n 0, 1) := by decide +kernel
theorem dX1_placeFor_11 : decode cX1_placeFor 11 = .ok (.getfield 9, 3) := by decide +kernel
theorem dX1_placeFor_14 : decode cX1_placeFor 14 = .ok (.iload_n 2, 1) := by decide +kernel
theorem dX1_placeFor_15 : decode cX1_placeFor 15 = .ok (.iaload, 1) := by decide +kernel
theorem dX1_placeFor_16 : decode cX1_placeFor 16 = .ok (.iload_n 1, 1) := by decide +kernel
theorem dX1_placeFor_17 : decode cX1_placeFor 17 = .ok (.if_icmp .ge 9, 3) := by decide +kernel
theorem dX1_placeFor_20 : decode cX1_placeFor 20 = .ok (.iinc 2 1, 3) := by decide +kernel
theorem dX1_placeFor_23 : decode cX1_placeFor 23 = .ok (.goto (-21), 3) := by decide +kernel
theorem dX1_placeFor_26 : decode cX1_placeFor 26 = .ok (.iload_n 2, 1) := by decide +kernel
theorem dX1_placeFor_27 : decode cX1_placeFor 27 = .ok (.ireturn, 1) := by decide +kernel
theorem dX1_holds_0 : decode cX1_holds 0 = .ok (.aload_n 0, 1) := by decide +kernel
theorem dX1_holds_1 : decode cX1_holds 1 = .ok (.iload_n 1, 1) := by decide +kernel
theorem dX1_holds_2 : decode cX1_holds 2 = .ok (.invokevirtual 23, 3) := by decide +kernel
theorem dX1_holds_5 : decode cX1_holds 5 = .ok (.istore_n 2, 1) := by decide +kernel
theorem dX1_holds_6 : decode cX1_holds 6 = .ok (.iload_n 2, 1) := by decide +kernel
theorem dX1_holds_7 : decode cX1_holds 7 = .ok (.aload_n 0, 1) := by decide +kernel
theorem dX1_holds_8 : decode cX1_holds 8 = .ok (.getfield 15, 3) := by decide +kernel
theorem dX1_holds_11 : decode cX1_holds 11 = .ok (.if_icmp .ge 17, 3) := by decide +kernel
theorem dX1_holds_14 : decode cX1_holds 14 = .ok (.aload_n 0, 1) := by decide +kernel
theorem dX1_holds_15 : decode cX1_holds 15 = .ok (.getfield 9, 3) := by decide +kernel
theorem dX1_holds_18 : decode cX1_holds 18 = .ok (.iload_n 2, 1) := by decide +kernel
theorem dX1_holds_19 : decode cX1_holds 19 = .ok (.iaload, 1) := by decide +kernel
theorem dX1_holds_20 : decode cX1_holds 20 = .ok (.iload_n 1, 1) := by decide +kernel
theorem dX1_holds_21 : decode cX1_holds 21 = .ok (.if_icmp .ne 7, 3) := by decide +kernel
theorem dX1_holds_24 : decode cX1_holds 24 = .ok (.iconst 1, 1) := by decide +kernel
theorem dX1_holds_25 : decode cX1_holds 25 = .ok (.goto 4, 3) := by decide +kernel
theorem dX1_holds_28 : decode cX1_holds 28 = .ok (.iconst 0, 1) := by decide +kernel
theorem dX1_holds_29 : decode cX1_holds 29 = .ok (.ireturn, 1) := by decide +kernel
theorem dX1_insert_0 : decode cX1_insert 0 = .ok (.aload_n 0, 1) := by decide +kernel
theorem dX1_insert_1 : decode cX1_insert 1 = .ok (.invokevirtual 26, 3) := by decide +kernel
theorem dX1_insert_4 : decode cX1_insert 4 = .ok (.ifCond .ne 11, 3) := by decide +kernel
theorem dX1_insert_7 : decode cX1_insert 7 = .ok (.aload_n 0, 1) := by decide +kernel
theorem dX1_insert_8 : decode cX1_insert 8 = .ok (.iload_n 1, 1) := by decide +kernel
theorem dX1_insert_9 : decode cX1_insert 9 = .ok (.invokevirtual 30, 3) := by decide +kernel
theorem dX1_insert_12 : decode cX1_insert 12 = .ok (.ifCond .eq 5, 3) := by decide +kernel
theorem dX1_insert_15 : decode cX1_insert 15 = .ok (.iconst 0, 1) := by decide +kernel
theorem dX1_insert_16 : decode cX1_insert 16 = .ok (.ireturn, 1) := by decide +kernel
theorem dX1_insert_17 : decode cX1_insert 17 = .ok (.aload_n 0, 1) := by decide +kernel
theorem dX1_insert_18 : decode cX1_insert 18 = .ok (.iload_n 1, 1) := by decide +kernel
theorem dX1_insert_19 : decode cX1_insert 19 = .ok (.invokevirtual 23, 3) := by decide +kernel
theorem dX1_insert_22 : decode cX1_insert 22 = .ok (.istore_n 2, 1) := by decide +kernel
theorem dX1_insert_23 : decode cX1_insert 23 = .ok (.aload_n 0, 1) := by decide +kernel
theorem dX1_insert_24 : decode cX1_insert 24 = .ok (.getfield 15, 3) := by decide +kernel
theorem dX1_insert_27 : decode cX1_insert 27 = .ok (.istore_n 3, 1) := by decide +kernel
theorem dX1_insert_28 : decode cX1_insert 28 = .ok (.iload_n 3, 1) := by decide +kernel
theorem dX1_insert_29 : decode cX1_insert 29 = .ok (.iload_n 2, 1) := by decide +kernel
theorem dX1_insert_30 : decode cX1_insert 30 = .ok (.if_icmp .le 23, 3) := by decide +kernel
theorem dX1_insert_33 : decode cX1_insert 33 = .ok (.aload_n 0, 1) := by decide +kernel
theorem dX1_insert_34 : decode cX1_insert 34 = .ok (.getfield 9, 3) := by decide +kernel
theorem dX1_insert_37 : decode cX1_insert 37 = .ok (.iload_n 3, 1) := by decide +kernel
theorem dX1_insert_38 : decode cX1_insert 38 = .ok (.aload_n 0, 1) := by decide +kernel
theorem dX1_insert_39 : decode cX1_insert 39 = .ok (.getfield 9, 3) := by decide +kernel
theorem dX1_insert_42 : decode cX1_insert 42 = .ok (.iload_n 3, 1) := by decide +kernel
theorem dX1_insert_43 : decode cX1_insert 43 = .ok (.iconst 1, 1) := by decide +kernel
theorem dX1_insert_44 : decode cX1_insert 44 = .ok (.isub, 1) := by decide +kernel
theorem dX1_insert_45 : decode cX1_insert 45 = .ok (.iaload, 1) := by decide +kernel
theorem dX1_insert_46 : decode cX1_insert 46 = .ok (.iastore, 1) := by decide +kernel
theorem dX1_insert_47 : decode cX1_insert 47 = .ok (.iinc 3 (-1), 3) := by decide +kernel
theorem dX1_insert_50 : decode cX1_insert 50 = .ok (.goto (-22), 3) := by decide +kernel
theorem dX1_insert_53 : decode cX1_insert 53 = .ok (.aload_n 0, 1) := by decide +kernel
theorem dX1_insert_54 : decode cX1_insert 54 = .ok (.getfield 9, 3) := by decide +kernel
theorem dX1_insert_57 : decode cX1_insert 57 = .ok (.iload_n 2, 1) := by decide +kernel
theorem dX1_insert_58 : decode cX1_insert 58 = .ok (.iload_n 1, 1) := by decide +kernel
theorem dX1_insert_59 : decode cX1_insert 59 = .ok (.iastore, 1) := by decide +kernel
theorem dX1_insert_60 : decode cX1_insert 60 = .ok (.aload_n 0, 1) := by decide +kernel
theorem dX1_insert_61 : decode cX1_insert 61 = .ok (.dup, 1) := by decide +kernel
theorem dX1_insert_62 : decode cX1_insert 62 = .ok (.getfield 15, 3) := by decide +kernel
theorem dX1_insert_65 : decode cX1_insert 65 = .ok (.iconst 1, 1) := by decide +kernel
theorem dX1_insert_66 : decode cX1_insert 66 = .ok (.iadd, 1) := by decide +kernel
theorem dX1_insert_67 : decode cX1_insert 67 = .ok (.putfield 15, 3) := by decide +kernel
theorem dX1_insert_70 : decode cX1_insert 70 = .ok (.iconst 1, 1) := by decide +kernel
theorem dX1_insert_71 : decode cX1_insert 71 = .ok (.ireturn, 1) := by decide +kernel
theorem dX1_remove_0 : decode cX1_remove 0 = .ok (.aload_n 0, 1) := by decide +kernel
theorem dX1_remove_1 : decode cX1_remove 1 = .ok (.iload_n 1, 1) := by decide +kernel
theorem dX1_remove_2 : decode cX1_remove 2 = .ok (.invokevirtual 30, 3) := by decide +kernel
theorem dX1_remove_5 : decode cX1_remove 5 = .ok (.ifCond .ne 4, 3) := by decide +kernel
theorem dX1_remove_8 : decode cX1_remove 8 = .ok (.return_, 1) := by decide +kernel
theorem dX1_remove_9 : decode cX1_remove 9 = .ok (.aload_n 0, 1) := by decide +kernel
theorem dX1_remove_10 : decode cX1_remove 10 = .ok (.iload_n 1, 1) := by decide +kernel
theorem dX1_remove_11 : decode cX1_remove 11 = .ok (.invokevirtual 23, 3) := by decide +kernel
theorem dX1_remove_14 : decode cX1_remove 14 = .ok (.istore_n 2, 1) := by decide +kernel
theorem dX1_remove_15 : decode cX1_remove 15 = .ok (.iload_n 2, 1) := by decide +kernel
theorem dX1_remove_16 : decode cX1_remove 16 = .ok (.aload_n 0, 1) := by decide +kernel
theorem dX1_remove_17 : decode cX1_remove 17 = .ok (.getfield 15, 3) := by decide +kernel
theorem dX1_remove_20 : decode cX1_remove 20 = .ok (.iconst 1, 1) := by decide +kernel
theorem dX1_remove_21 : decode cX1_remove 21 = .ok (.isub, 1) := by decide +kernel
theorem dX1_remove_22 : decode cX1_remove 22 = .ok (.if_icmp .ge 23, 3) := by decide +kernel
theorem dX1_remove_25 : decode cX1_remove 25 = .ok (.aload_n 0, 1) := by decide +kernel
theorem dX1_remove_26 : decode cX1_remove 26 = .ok (.getfield 9, 3) := by decide +kernel
theorem dX1_remove_29 : decode cX1_remove 29 = .ok (.iload_n 2, 1) := by decide +kernel
theorem dX1_remove_30 : decode cX1_remove 30 = .ok (.aload_n 0, 1) := by decide +kernel
theorem dX1_remove_31 : decode cX1_remove 31 = .ok (.getfield 9, 3) := by decide +kernel
theorem dX1_remove_34 : decode cX1_remove 34 = .ok (.iload_n 2, 1) := by decide +kernel
theorem dX1_remove_35 : decode cX1_remove 35 = .ok (.iconst 1, 1) := by decide +kernel
theorem dX1_remove_36 : decode cX1_remove 36 = .ok (.iadd, 1) := by decide +kernel
theorem dX1_remove_37 : decode cX1_remove 37 = .ok (.iaload, 1) := by decide +kernel
theorem dX1_remove_38 : decode cX1_remove 38 = .ok (.iastore, 1) := by decide +kernel
theorem dX1_remove_39 : decode cX1_remove 39 = .ok (.iinc 2 1, 3) := by decide +kernel
theorem dX1_remove_42 : decode cX1_remove 42 = .ok (.goto (-27), 3) := by decide +kernel
theorem dX1_remove_45 : decode cX1_remove 45 = .ok (.aload_n 0, 1) := by decide +kernel
theorem dX1_remove_46 : decode cX1_remove 46 = .ok (.dup, 1) := by decide +kernel
theorem dX1_remove_47 : decode cX1_remove 47 = .ok (.getfield 15, 3) := by decide +kernel
theorem dX1_remove_50 : decode cX1_remove 50 = .ok (.iconst 1, 1) := by decide +kernel
theorem dX1_remove_51 : decode cX1_remove 51 = .ok (.isub, 1) := by decide +kernel
theorem dX1_remove_52 : decode cX1_remove 52 = .ok (.putfield 15, 3) := by decide +kernel
theorem dX1_remove_55 : decode cX1_remove 55 = .ok (.return_, 1) := by decide +kernel
theorem dX1_clear_0 : decode cX1_clear 0 = .ok (.aload_n 0, 1) := by decide +kernel
theorem dX1_clear_1 : decode cX1_clear 1 = .ok (.iconst 0, 1) := by decide +kernel
theorem dX1_clear_2 : decode cX1_clear 2 = .ok (.putfield 15, 3) := by decide +kernel
theorem dX1_clear_5 : decode cX1_clear 5 = .ok (.return_, 1) := by decide +kernel
theorem dX1_copy_0 : decode cX1_copy 0 = .ok (.aload_n 0, 1) := by decide +kernel
theorem dX1_copy_1 : decode cX1_copy 1 = .ok (.aload_n 1, 1) := by decide +kernel
theorem dX1_copy_2 : decode cX1_copy 2 = .ok (.invokevirtual 34, 3) := by decide +kernel
theorem dX1_copy_5 : decode cX1_copy 5 = .ok (.putfield 15, 3) := by decide +kernel
theorem dX1_copy_8 : decode cX1_copy 8 = .ok (.iconst 0, 1) := by decide +kernel
theorem dX1_copy_9 : decode cX1_copy 9 = .ok (.istore_n 2, 1) := by decide +kernel
theorem dX1_copy_10 : decode cX1_copy 10 = .ok (.iload_n 2, 1) := by decide +kernel
theorem dX1_copy_11 : decode cX1_copy 11 = .ok (.aload_n 0, 1) := by decide +kernel
theorem dX1_copy_12 : decode cX1_copy 12 = .ok (.getfield 15, 3) := by decide +kernel
theorem dX1_copy_15 : decode cX1_copy 15 = .ok (.if_icmp .ge 20, 3) := by decide +kernel
theorem dX1_copy_18 : decode cX1_copy 18 = .ok (.aload_n 0, 1) := by decide +kernel
theorem dX1_copy_19 : decode cX1_copy 19 = .ok (.getfield 9, 3) := by decide +kernel
theorem dX1_copy_22 : decode cX1_copy 22 = .ok (.iload_n 2, 1) := by decide +kernel
theorem dX1_copy_23 : decode cX1_copy 23 = .ok (.aload_n 1, 1) := by decide +kernel
theorem dX1_copy_24 : decode cX1_copy 24 = .ok (.iload_n 2, 1) := by decide +kernel
theorem dX1_copy_25 : decode cX1_copy 25 = .ok (.invokevirtual 19, 3) := by decide +kernel
theorem dX1_copy_28 : decode cX1_copy 28 = .ok (.iastore, 1) := by decide +kernel
theorem dX1_copy_29 : decode cX1_copy 29 = .ok (.iinc 2 1, 3) := by decide +kernel
theorem dX1_copy_32 : decode cX1_copy 32 = .ok (.goto (-22), 3) := by decide +kernel
theorem dX1_copy_35 : decode cX1_copy 35 = .ok (.return_, 1) := by decide +kernel
theorem dX1_alike_0 : decode cX1_alike 0 = .ok (.aload_n 0, 1) := by decide +kernel
theorem dX1_alike_1 : decode cX1_alike 1 = .ok (.getfield 15, 3) := by decide +kernel
theorem dX1_alike_4 : decode cX1_alike 4 = .ok (.aload_n 1, 1) := by decide +kernel
theorem dX1_alike_5 : decode cX1_alike 5 = .ok (.invokevirtual 34, 3) := by decide +kernel
theorem dX1_alike_8 : decode cX1_alike 8 = .ok (.if_icmp .eq 5, 3) := by decide +kernel
theorem dX1_alike_11 : decode cX1_alike 11 = .ok (.iconst 0, 1) := by decide +kernel
theorem dX1_alike_12 : decode cX1_alike 12 = .ok (.ireturn, 1) := by decide +kernel
theorem dX1_alike_13 : decode cX1_alike 13 = .ok (.iconst 0, 1) := by decide +kernel
theorem dX1_alike_14 : decode cX1_alike 14 = .ok (.istore_n 2, 1) := by decide +kernel
theorem dX1_alike_15 : decode cX1_alike 15 = .ok (.iload_n 2, 1) := by decide +kernel
theorem dX1_alike_16 : decode cX1_alike 16 = .ok (.aload_n 0, 1) := by decide +kernel
theorem dX1_alike_17 : decode cX1_alike 17 = .ok (.getfield 15, 3) := by decide +kernel
theorem dX1_alike_20 : decode cX1_alike 20 = .ok (.if_icmp .ge 25, 3) := by decide +kernel
theorem dX1_alike_23 : decode cX1_alike 23 = .ok (.aload_n 0, 1) := by decide +kernel
theorem dX1_alike_24 : decode cX1_alike 24 = .ok (.getfield 9, 3) := by decide +kernel
theorem dX1_alike_27 : decode cX1_alike 27 = .ok (.iload_n 2, 1) := by decide +kernel
theorem dX1_alike_28 : decode cX1_alike 28 = .ok (.iaload, 1) := by decide +kernel
theorem dX1_alike_29 : decode cX1_alike 29 = .ok (.aload_n 1, 1) := by decide +kernel
theorem dX1_alike_30 : decode cX1_alike 30 = .ok (.iload_n 2, 1) := by decide +kernel
theorem dX1_alike_31 : decode cX1_alike 31 = .ok (.invokevirtual 19, 3) := by decide +kernel
theorem dX1_alike_34 : decode cX1_alike 34 = .ok (.if_icmp .eq 5, 3) := by decide +kernel
theorem dX1_alike_37 : decode cX1_alike 37 = .ok (.iconst 0, 1) := by decide +kernel
theorem dX1_alike_38 : decode cX1_alike 38 = .ok (.ireturn, 1) := by decide +kernel
theorem dX1_alike_39 : decode cX1_alike 39 = .ok (.iinc 2 1, 3) := by decide +kernel
theorem dX1_alike_42 : decode cX1_alike 42 = .ok (.goto (-27), 3) := by decide +kernel
theorem dX1_alike_45 : decode cX1_alike 45 = .ok (.iconst 1, 1) := by decide +kernel
theorem dX1_alike_46 : decode cX1_alike 46 = .ok (.ireturn, 1) := by decide +kernel
theorem dX1_commonDivisor_0 : decode cX1_commonDivisor 0 = .ok (.iconst 0, 1) := by decide +kernel
theorem dX1_commonDivisor_1 : decode cX1_commonDivisor 1 = .ok (.istore_n 1, 1) := by decide +kernel
theorem dX1_commonDivisor_2 : decode cX1_commonDivisor 2 = .ok (.iconst 0, 1) := by decide +kernel
theorem dX1_commonDivisor_3 : decode cX1_commonDivisor 3 = .ok (.istore_n 2, 1) := by decide +kernel
theorem dX1_commonDivisor_4 : decode cX1_commonDivisor 4 = .ok (.iload_n 2, 1) := by decide +kernel
theorem dX1_commonDivisor_5 : decode cX1_commonDivisor 5 = .ok (.aload_n 0, 1) := by decide +kernel
theorem dX1_commonDivisor_6 : decode cX1_commonDivisor 6 = .ok (.getfield 15, 3) := by decide +kernel
theorem dX1_commonDivisor_9 : decode cX1_commonDivisor 9 = .ok (.if_icmp .ge 20, 3) := by decide +kernel
theorem dX1_commonDivisor_12 : decode cX1_commonDivisor 12 = .ok (.aload_n 0, 1) := by decide +kernel
theorem dX1_commonDivisor_13 : decode cX1_commonDivisor 13 = .ok (.getfield 9, 3) := by decide +kernel
theorem dX1_commonDivisor_16 : decode cX1_commonDivisor 16 = .ok (.iload_n 2, 1) := by decide +kernel
theorem dX1_commonDivisor_17 : decode cX1_commonDivisor 17 = .ok (.iaload, 1) := by decide +kernel
theorem dX1_commonDivisor_18 : decode cX1_commonDivisor 18 = .ok (.iload_n 1, 1) := by decide +kernel
theorem dX1_commonDivisor_19 : decode cX1_commonDivisor 19 = .ok (.invokestatic 37, 3) := by decide +kernel
theorem dX1_commonDivisor_22 : decode cX1_commonDivisor 22 = .ok (.istore_n 1, 1) := by decide +kernel
theorem dX1_commonDivisor_23 : decode cX1_commonDivisor 23 = .ok (.iinc 2 1, 3) := by decide +kernel
theorem dX1_commonDivisor_26 : decode cX1_commonDivisor 26 = .ok (.goto (-22), 3) := by decide +kernel
theorem dX1_commonDivisor_29 : decode cX1_commonDivisor 29 = .ok (.iload_n 1, 1) := by decide +kernel
theorem dX1_commonDivisor_30 : decode cX1_commonDivisor 30 = .ok (.ireturn, 1) := by decide +kernel
theorem dX1_greatestFirst_0 : decode cX1_greatestFirst 0 = .ok (.lload_n 1, 1) := by decide +kernel
theorem dX1_greatestFirst_1 : decode cX1_greatestFirst 1 = .ok (.lstore_n 3, 1) := by decide +kernel
theorem dX1_greatestFirst_2 : decode cX1_greatestFirst 2 = .ok (.lconst 0, 1) := by decide +kernel
theorem dX1_greatestFirst_3 : decode cX1_greatestFirst 3 = .ok (.lstore 5, 2) := by decide +kernel
theorem dX1_greatestFirst_5 : decode cX1_greatestFirst 5 = .ok (.aload_n 0, 1) := by decide +kernel
theorem dX1_greatestFirst_6 : decode cX1_greatestFirst 6 = .ok (.getfield 15, 3) := by decide +kernel
theorem dX1_greatestFirst_9 : decode cX1_greatestFirst 9 = .ok (.iconst 1, 1) := by decide +kernel
theorem dX1_greatestFirst_10 : decode cX1_greatestFirst 10 = .ok (.isub, 1) := by decide +kernel
theorem dX1_greatestFirst_11 : decode cX1_greatestFirst 11 = .ok (.istore 7, 2) := by decide +kernel
theorem dX1_greatestFirst_13 : decode cX1_greatestFirst 13 = .ok (.iload 7, 2) := by decide +kernel
theorem dX1_greatestFirst_15 : decode cX1_greatestFirst 15 = .ok (.ifCond .lt 39, 3) := by decide +kernel
theorem dX1_greatestFirst_18 : decode cX1_greatestFirst 18 = .ok (.aload_n 0, 1) := by decide +kernel
theorem dX1_greatestFirst_19 : decode cX1_greatestFirst 19 = .ok (.getfield 9, 3) := by decide +kernel
theorem dX1_greatestFirst_22 : decode cX1_greatestFirst 22 = .ok (.iload 7, 2) := by decide +kernel
theorem dX1_greatestFirst_24 : decode cX1_greatestFirst 24 = .ok (.iaload, 1) := by decide +kernel
theorem dX1_greatestFirst_25 : decode cX1_greatestFirst 25 = .ok (.istore 8, 2) := by decide +kernel
theorem dX1_greatestFirst_27 : decode cX1_greatestFirst 27 = .ok (.iload 8, 2) := by decide +kernel
theorem dX1_greatestFirst_29 : decode cX1_greatestFirst 29 = .ok (.ifCond .le 19, 3) := by decide +kernel
theorem dX1_greatestFirst_32 : decode cX1_greatestFirst 32 = .ok (.lload 5, 2) := by decide +kernel
theorem dX1_greatestFirst_34 : decode cX1_greatestFirst 34 = .ok (.lload_n 3, 1) := by decide +kernel
theorem dX1_greatestFirst_35 : decode cX1_greatestFirst 35 = .ok (.iload 8, 2) := by decide +kernel
theorem dX1_greatestFirst_37 : decode cX1_greatestFirst 37 = .ok (.i2l, 1) := by decide +kernel
theorem dX1_greatestFirst_38 : decode cX1_greatestFirst 38 = .ok (.ldiv, 1) := by decide +kernel
theorem dX1_greatestFirst_39 : decode cX1_greatestFirst 39 = .ok (.ladd, 1) := by decide +kernel
theorem dX1_greatestFirst_40 : decode cX1_greatestFirst 40 = .ok (.lstore 5, 2) := by decide +kernel
theorem dX1_greatestFirst_42 : decode cX1_greatestFirst 42 = .ok (.lload_n 3, 1) := by decide +kernel
theorem dX1_greatestFirst_43 : decode cX1_greatestFirst 43 = .ok (.iload 8, 2) := by decide +kernel
theorem dX1_greatestFirst_45 : decode cX1_greatestFirst 45 = .ok (.i2l, 1) := by decide +kernel
theorem dX1_greatestFirst_46 : decode cX1_greatestFirst 46 = .ok (.lrem, 1) := by decide +kernel
theorem dX1_greatestFirst_47 : decode cX1_greatestFirst 47 = .ok (.lstore_n 3, 1) := by decide +kernel
theorem dX1_greatestFirst_48 : decode cX1_greatestFirst 48 = .ok (.iinc 7 (-1), 3) := by decide +kernel
theorem dX1_greatestFirst_51 : decode cX1_greatestFirst 51 = .ok (.goto (-38), 3) := by decide +kernel
theorem dX1_greatestFirst_54 : decode cX1_greatestFirst 54 = .ok (.lload_n 3, 1) := by decide +kernel
theorem dX1_greatestFirst_55 : decode cX1_greatestFirst 55 = .ok (.lconst 0, 1) := by decide +kernel
theorem dX1_greatestFirst_56 : decode cX1_greatestFirst 56 = .ok (.lcmp, 1) := by decide +kernel
theorem dX1_greatestFirst_57 : decode cX1_greatestFirst 57 = .ok (.ifCond .ne 8, 3) := by decide +kernel
theorem dX1_greatestFirst_60 : decode cX1_greatestFirst 60 = .ok (.lload 5, 2) := by decide +kernel
theorem dX1_greatestFirst_62 : decode cX1_greatestFirst 62 = .ok (.goto 6, 3) := by decide +kernel
theorem dX1_greatestFirst_65 : decode cX1_greatestFirst 65 = .ok (.ldc2_w 41, 3) := by decide +kernel
theorem dX1_greatestFirst_68 : decode cX1_greatestFirst 68 = .ok (.lreturn, 1) := by decide +kernel
theorem dX2_init_0 : decode cX2_init 0 = .ok (.aload_n 0, 1) := by decide +kernel
theorem dX2_init_1 : decode cX2_init 1 = .ok (.invokespecial 3, 3) := by decide +kernel
theorem dX2_init_4 : decode cX2_init 4 = .ok (.aload_n 0, 1) := by decide +kernel
theorem dX2_init_5 : decode cX2_init 5 = .ok (.new 9, 3) := by decide +kernel
theorem dX2_init_8 : decode cX2_init 8 = .ok (.dup, 1) := by decide +kernel
theorem dX2_init_9 : decode cX2_init 9 = .ok (.invokespecial 11, 3) := by decide +kernel
theorem dX2_init_12 : decode cX2_init 12 = .ok (.putfield 12, 3) := by decide +kernel
theorem dX2_init_15 : decode cX2_init 15 = .ok (.aload_n 0, 1) := by decide +kernel
theorem dX2_init_16 : decode cX2_init 16 = .ok (.ldc 18, 2) := by decide +kernel
theorem dX2_init_18 : decode cX2_init 18 = .ok (.newarray .int, 2) := by decide +kernel
theorem dX2_init_20 : decode cX2_init 20 = .ok (.putfield 19, 3) := by decide +kernel
theorem dX2_init_23 : decode cX2_init 23 = .ok (.aload_n 0, 1) := by decide +kernel
theorem dX2_init_24 : decode cX2_init 24 = .ok (.new 23, 3) := by decide +kernel
theorem dX2_init_27 : decode cX2_init 27 = .ok (.dup, 1) := by decide +kernel
theorem dX2_init_28 : decode cX2_init 28 = .ok (.invokespecial 25, 3) := by decide +kernel
theorem dX2_init_31 : decode cX2_init 31 = .ok (.putfield 26, 3) := by decide +kernel
theorem dX2_init_34 : decode cX2_init 34 = .ok (.aload_n 0, 1) := by decide +kernel
theorem dX2_init_35 : decode cX2_init 35 = .ok (.iconst 0, 1) := by decide +kernel
theorem dX2_init_36 : decode cX2_init 36 = .ok (.putfield 30, 3) := by decide +kernel
theorem dX2_init_39 : decode cX2_init 39 = .ok (.aload_n 0, 1) := by decide +kernel
theorem dX2_init_40 : decode cX2_init 40 = .ok (.iconst 0, 1) := by decide +kernel
theorem dX2_init_41 : decode cX2_init 41 = .ok (.putfield 34, 3) := by decide +kernel
theorem dX2_init_44 : decode cX2_init 44 = .ok (.return_, 1) := by decide +kernel
theorem dX2_take_0 : decode cX2_take 0 = .ok (.aload_n 0, 1) := by decide +kernel
theorem dX2_take_1 : decode cX2_take 1 = .ok (.getfield 12, 3) := by decide +kernel
theorem dX2_take_4 : decode cX2_take 4 = .ok (.aload_n 1, 1) := by decide +kernel
theorem dX2_take_5 : decode cX2_take 5 = .ok (.invokevirtual 38, 3) := by decide +kernel
theorem dX2_take_8 : decode cX2_take 8 = .ok (.ifCond .ne 21, 3) := by decide +kernel
theorem dX2_take_11 : decode cX2_take 11 = .ok (.aload_n 0, 1) := by decide +kernel
theorem dX2_take_12 : decode cX2_take 12 = .ok (.getfield 12, 3) := by decide +kernel
theorem dX2_take_15 : decode cX2_take 15 = .ok (.aload_n 1, 1) := by decide +kernel
theorem dX2_take_16 : decode cX2_take 16 = .ok (.invokevirtual 42, 3) := by decide +kernel
theorem dX2_take_19 : decode cX2_take 19 = .ok (.aload_n 0, 1) := by decide +kernel
theorem dX2_take_20 : decode cX2_take 20 = .ok (.iconst 0, 1) := by decide +kernel
theorem dX2_take_21 : decode cX2_take 21 = .ok (.putfield 30, 3) := by decide +kernel
theorem dX2_take_24 : decode cX2_take 24 = .ok (.aload_n 0, 1) := by decide +kernel
theorem dX2_take_25 : decode cX2_take 25 = .ok (.iconst 0, 1) := by decide +kernel
theorem dX2_take_26 : decode cX2_take 26 = .ok (.putfield 34, 3) := by decide +kernel
theorem dX2_take_29 : decode cX2_take 29 = .ok (.return_, 1) := by decide +kernel
theorem dX2_sizeInTable_0 : decode cX2_sizeInTable 0 = .ok (.iload_n 1, 1) := by decide +kernel
theorem dX2_sizeInTable_1 : decode cX2_sizeInTable 1 = .ok (.ifCond .lt 9, 3) := by decide +kernel
theorem dX2_sizeInTable_4 : decode cX2_sizeInTable 4 = .ok (.iload_n 1, 1) := by decide +kernel
theorem dX2_sizeInTable_5 : decode cX2_sizeInTable 5 = .ok (.ldc 18, 2) := by decide +kernel
theorem dX2_sizeInTable_7 : decode cX2_sizeInTable 7 = .ok (.if_icmp .lt 5, 3) := by decide +kernel
theorem dX2_sizeInTable_10 : decode cX2_sizeInTable 10 = .ok (.iconst (-1), 1) := by decide +kernel
theorem dX2_sizeInTable_11 : decode cX2_sizeInTable 11 = .ok (.ireturn, 1) := by decide +kernel
theorem dX2_sizeInTable_12 : decode cX2_sizeInTable 12 = .ok (.aload_n 0, 1) := by decide +kernel
theorem dX2_sizeInTable_13 : decode cX2_sizeInTable 13 = .ok (.getfield 30, 3) := by decide +kernel
theorem dX2_sizeInTable_16 : decode cX2_sizeInTable 16 = .ok (.iload_n 1, 1) := by decide +kernel
theorem dX2_sizeInTable_17 : decode cX2_sizeInTable 17 = .ok (.if_icmp .ge 33, 3) := by decide +kernel
theorem dX2_sizeInTable_20 : decode cX2_sizeInTable 20 = .ok (.aload_n 0, 1) := by decide +kernel
theorem dX2_sizeInTable_21 : decode cX2_sizeInTable 21 = .ok (.dup, 1) := by decide +kernel
theorem dX2_sizeInTable_22 : decode cX2_sizeInTable 22 = .ok (.getfield 30, 3) := by decide +kernel
theorem dX2_sizeInTable_25 : decode cX2_sizeInTable 25 = .ok (.iconst 1, 1) := by decide +kernel
theorem dX2_sizeInTable_26 : decode cX2_sizeInTable 26 = .ok (.iadd, 1) := by decide +kernel
theorem dX2_sizeInTable_27 : decode cX2_sizeInTable 27 = .ok (.putfield 30, 3) := by decide +kernel
theorem dX2_sizeInTable_30 : decode cX2_sizeInTable 30 = .ok (.aload_n 0, 1) := by decide +kernel
theorem dX2_sizeInTable_31 : decode cX2_sizeInTable 31 = .ok (.getfield 19, 3) := by decide +kernel
theorem dX2_sizeInTable_34 : decode cX2_sizeInTable 34 = .ok (.aload_n 0, 1) := by decide +kernel
theorem dX2_sizeInTable_35 : decode cX2_sizeInTable 35 = .ok (.getfield 30, 3) := by decide +kernel
theorem dX2_sizeInTable_38 : decode cX2_sizeInTable 38 = .ok (.aload_n 0, 1) := by decide +kernel
theorem dX2_sizeInTable_39 : decode cX2_sizeInTable 39 = .ok (.aload_n 0, 1) := by decide +kernel
theorem dX2_sizeInTable_40 : decode cX2_sizeInTable 40 = .ok (.getfield 30, 3) := by decide +kernel
theorem dX2_sizeInTable_43 : decode cX2_sizeInTable 43 = .ok (.invokevirtual 46, 3) := by decide +kernel
theorem dX2_sizeInTable_46 : decode cX2_sizeInTable 46 = .ok (.iastore, 1) := by decide +kernel
theorem dX2_sizeInTable_47 : decode cX2_sizeInTable 47 = .ok (.goto (-35), 3) := by decide +kernel
theorem dX2_sizeInTable_50 : decode cX2_sizeInTable 50 = .ok (.aload_n 0, 1) := by decide +kernel
theorem dX2_sizeInTable_51 : decode cX2_sizeInTable 51 = .ok (.getfield 19, 3) := by decide +kernel
theorem dX2_sizeInTable_54 : decode cX2_sizeInTable 54 = .ok (.iload_n 1, 1) := by decide +kernel
theorem dX2_sizeInTable_55 : decode cX2_sizeInTable 55 = .ok (.iaload, 1) := by decide +kernel
theorem dX2_sizeInTable_56 : decode cX2_sizeInTable 56 = .ok (.ireturn, 1) := by decide +kernel
theorem dX2_sizeByLesser_0 : decode cX2_sizeByLesser 0 = .ok (.iconst (-1), 1) := by decide +kernel
theorem dX2_sizeByLesser_1 : decode cX2_sizeByLesser 1 = .ok (.istore_n 2, 1) := by decide +kernel
theorem dX2_sizeByLesser_2 : decode cX2_sizeByLesser 2 = .ok (.iconst 0, 1) := by decide +kernel
theorem dX2_sizeByLesser_3 : decode cX2_sizeByLesser 3 = .ok (.istore_n 3, 1) := by decide +kernel
theorem dX2_sizeByLesser_4 : decode cX2_sizeByLesser 4 = .ok (.iload_n 3, 1) := by decide +kernel
theorem dX2_sizeByLesser_5 : decode cX2_sizeByLesser 5 = .ok (.aload_n 0, 1) := by decide +kernel
theorem dX2_sizeByLesser_6 : decode cX2_sizeByLesser 6 = .ok (.getfield 12, 3) := by decide +kernel
theorem dX2_sizeByLesser_9 : decode cX2_sizeByLesser 9 = .ok (.invokevirtual 50, 3) := by decide +kernel
theorem dX2_sizeByLesser_12 : decode cX2_sizeByLesser 12 = .ok (.if_icmp .ge 63, 3) := by decide +kernel
theorem dX2_sizeByLesser_15 : decode cX2_sizeByLesser 15 = .ok (.iload_n 1, 1) := by decide +kernel
theorem dX2_sizeByLesser_16 : decode cX2_sizeByLesser 16 = .ok (.aload_n 0, 1) := by decide +kernel
theorem dX2_sizeByLesser_17 : decode cX2_sizeByLesser 17 = .ok (.getfield 12, 3) := by decide +kernel
theorem dX2_sizeByLesser_20 : decode cX2_sizeByLesser 20 = .ok (.iload_n 3, 1) := by decide +kernel
theorem dX2_sizeByLesser_21 : decode cX2_sizeByLesser 21 = .ok (.invokevirtual 54, 3) := by decide +kernel
theorem dX2_sizeByLesser_24 : decode cX2_sizeByLesser 24 = .ok (.isub, 1) := by decide +kernel
theorem dX2_sizeByLesser_25 : decode cX2_sizeByLesser 25 = .ok (.istore 4, 2) := by decide +kernel
theorem dX2_sizeByLesser_27 : decode cX2_sizeByLesser 27 = .ok (.iload 4, 2) := by decide +kernel
theorem dX2_sizeByLesser_29 : decode cX2_sizeByLesser 29 = .ok (.ifCond .lt 13, 3) := by decide +kernel
theorem dX2_sizeByLesser_32 : decode cX2_sizeByLesser 32 = .ok (.aload_n 0, 1) := by decide +kernel
theorem dX2_sizeByLesser_33 : decode cX2_sizeByLesser 33 = .ok (.getfield 19, 3) := by decide +kernel
theorem dX2_sizeByLesser_36 : decode cX2_sizeByLesser 36 = .ok (.iload 4, 2) := by decide +kernel
theorem dX2_sizeByLesser_38 : decode cX2_sizeByLesser 38 = .ok (.iaload, 1) := by decide +kernel
theorem dX2_sizeByLesser_39 : decode cX2_sizeByLesser 39 = .ok (.goto 4, 3) := by decide +kernel
theorem dX2_sizeByLesser_42 : decode cX2_sizeByLesser 42 = .ok (.iconst (-1), 1) := by decide +kernel
theorem dX2_sizeByLesser_43 : decode cX2_sizeByLesser 43 = .ok (.istore 5, 2) := by decide +kernel
theorem dX2_sizeByLesser_45 : decode cX2_sizeByLesser 45 = .ok (.iload 5, 2) := by decide +kernel
theorem dX2_sizeByLesser_47 : decode cX2_sizeByLesser 47 = .ok (.iconst (-1), 1) := by decide +kernel
theorem dX2_sizeByLesser_48 : decode cX2_sizeByLesser 48 = .ok (.if_icmp .eq 21, 3) := by decide +kernel
theorem dX2_sizeByLesser_51 : decode cX2_sizeByLesser 51 = .ok (.iload_n 2, 1) := by decide +kernel
theorem dX2_sizeByLesser_52 : decode cX2_sizeByLesser 52 = .ok (.iconst (-1), 1) := by decide +kernel
theorem dX2_sizeByLesser_53 : decode cX2_sizeByLesser 53 = .ok (.if_icmp .eq 11, 3) := by decide +kernel
theorem dX2_sizeByLesser_56 : decode cX2_sizeByLesser 56 = .ok (.iload 5, 2) := by decide +kernel
theorem dX2_sizeByLesser_58 : decode cX2_sizeByLesser 58 = .ok (.iconst 1, 1) := by decide +kernel
theorem dX2_sizeByLesser_59 : decode cX2_sizeByLesser 59 = .ok (.iadd, 1) := by decide +kernel
theorem dX2_sizeByLesser_60 : decode cX2_sizeByLesser 60 = .ok (.iload_n 2, 1) := by decide +kernel
theorem dX2_sizeByLesser_61 : decode cX2_sizeByLesser 61 = .ok (.if_icmp .ge 8, 3) := by decide +kernel
theorem dX2_sizeByLesser_64 : decode cX2_sizeByLesser 64 = .ok (.iload 5, 2) := by decide +kernel
theorem dX2_sizeByLesser_66 : decode cX2_sizeByLesser 66 = .ok (.iconst 1, 1) := by decide +kernel
theorem dX2_sizeByLesser_67 : decode cX2_sizeByLesser 67 = .ok (.iadd, 1) := by decide +kernel
theorem dX2_sizeByLesser_68 : decode cX2_sizeByLesser 68 = .ok (.istore_n 2, 1) := by decide +kernel
theorem dX2_sizeByLesser_69 : decode cX2_sizeByLesser 69 = .ok (.iinc 3 1, 3) := by decide +kernel
theorem dX2_sizeByLesser_72 : decode cX2_sizeByLesser 72 = .ok (.goto (-68), 3) := by decide +kernel
theorem dX2_sizeByLesser_75 : decode cX2_sizeByLesser 75 = .ok (.iload_n 2, 1) := by decide +kernel
theorem dX2_sizeByLesser_76 : decode cX2_sizeByLesser 76 = .ok (.ireturn, 1) := by decide +kernel
theorem dX2_turn_0 : decode cX2_turn 0 = .ok (.aload_n 0, 1) := by decide +kernel
theorem dX2_turn_1 : decode cX2_turn 1 = .ok (.getfield 34, 3) := by decide +kernel
theorem dX2_turn_4 : decode cX2_turn 4 = .ok (.ifCond .eq 4, 3) := by decide +kernel
theorem dX2_turn_7 : decode cX2_turn 7 = .ok (.return_, 1) := by decide +kernel
theorem dX2_turn_8 : decode cX2_turn 8 = .ok (.aload_n 0, 1) := by decide +kernel
theorem dX2_turn_9 : decode cX2_turn 9 = .ok (.iconst 1, 1) := by decide +kernel
theorem dX2_turn_10 : decode cX2_turn 10 = .ok (.putfield 34, 3) := by decide +kernel
theorem dX2_turn_13 : decode cX2_turn 13 = .ok (.aload_n 0, 1) := by decide +kernel
theorem dX2_turn_14 : decode cX2_turn 14 = .ok (.getfield 26, 3) := by decide +kernel
theorem dX2_turn_17 : decode cX2_turn 17 = .ok (.aload_n 0, 1) := by decide +kernel
theorem dX2_turn_18 : decode cX2_turn 18 = .ok (.getfield 12, 3) := by decide +kernel
theorem dX2_turn_21 : decode cX2_turn 21 = .ok (.invokevirtual 57, 3) := by decide +kernel
theorem dX2_turn_24 : decode cX2_turn 24 = .ok (.invokevirtual 60, 3) := by decide +kernel
theorem dX2_turn_27 : decode cX2_turn 27 = .ok (.iconst 0, 1) := by decide +kernel
theorem dX2_turn_28 : decode cX2_turn 28 = .ok (.istore_n 1, 1) := by decide +kernel
theorem dX2_turn_29 : decode cX2_turn 29 = .ok (.iload_n 1, 1) := by decide +kernel
theorem dX2_turn_30 : decode cX2_turn 30 = .ok (.aload_n 0, 1) := by decide +kernel
theorem dX2_turn_31 : decode cX2_turn 31 = .ok (.getfield 12, 3) := by decide +kernel
theorem dX2_turn_34 : decode cX2_turn 34 = .ok (.invokevirtual 50, 3) := by decide +kernel
theorem dX2_turn_37 : decode cX2_turn 37 = .ok (.iconst 1, 1) := by decide +kernel
theorem dX2_turn_38 : decode cX2_turn 38 = .ok (.isub, 1) := by decide +kernel
theorem dX2_turn_39 : decode cX2_turn 39 = .ok (.if_icmp .ge 29, 3) := by decide +kernel
theorem dX2_turn_42 : decode cX2_turn 42 = .ok (.aload_n 0, 1) := by decide +kernel
theorem dX2_turn_43 : decode cX2_turn 43 = .ok (.getfield 26, 3) := by decide +kernel
theorem dX2_turn_46 : decode cX2_turn 46 = .ok (.aload_n 0, 1) := by decide +kernel
theorem dX2_turn_47 : decode cX2_turn 47 = .ok (.getfield 12, 3) := by decide +kernel
theorem dX2_turn_50 : decode cX2_turn 50 = .ok (.iload_n 1, 1) := by decide +kernel
theorem dX2_turn_51 : decode cX2_turn 51 = .ok (.invokevirtual 54, 3) := by decide +kernel
theorem dX2_turn_54 : decode cX2_turn 54 = .ok (.aload_n 0, 1) := by decide +kernel
theorem dX2_turn_55 : decode cX2_turn 55 = .ok (.iload_n 1, 1) := by decide +kernel
theorem dX2_turn_56 : decode cX2_turn 56 = .ok (.invokevirtual 64, 3) := by decide +kernel
theorem dX2_turn_59 : decode cX2_turn 59 = .ok (.invokevirtual 67, 3) := by decide +kernel
theorem dX2_turn_62 : decode cX2_turn 62 = .ok (.iinc 1 1, 3) := by decide +kernel
theorem dX2_turn_65 : decode cX2_turn 65 = .ok (.goto (-36), 3) := by decide +kernel
theorem dX2_turn_68 : decode cX2_turn 68 = .ok (.return_, 1) := by decide +kernel
theorem dX2_weightOf_0 : decode cX2_weightOf 0 = .ok (.aload_n 0, 1) := by decide +kernel
theorem dX2_weightOf_1 : decode cX2_weightOf 1 = .ok (.getfield 12, 3) := by decide +kernel
theorem dX2_weightOf_4 : decode cX2_weightOf 4 = .ok (.invokevirtual 57, 3) := by decide +kernel
theorem dX2_weightOf_7 : decode cX2_weightOf 7 = .ok (.aload_n 0, 1) := by decide +kernel
theorem dX2_weightOf_8 : decode cX2_weightOf 8 = .ok (.getfield 12, 3) := by decide +kernel
theorem dX2_weightOf_11 : decode cX2_weightOf 11 = .ok (.iload_n 1, 1) := by decide +kernel
theorem dX2_weightOf_12 : decode cX2_weightOf 12 = .ok (.invokevirtual 54, 3) := by decide +kernel
theorem dX2_weightOf_15 : decode cX2_weightOf 15 = .ok (.isub, 1) := by decide +kernel
theorem dX2_weightOf_16 : decode cX2_weightOf 16 = .ok (.sipush 1000, 3) := by decide +kernel
theorem dX2_weightOf_19 : decode cX2_weightOf 19 = .ok (.imul, 1) := by decide +kernel
theorem dX2_weightOf_20 : decode cX2_weightOf 20 = .ok (.iconst 1, 1) := by decide +kernel
theorem dX2_weightOf_21 : decode cX2_weightOf 21 = .ok (.iadd, 1) := by decide +kernel
theorem dX2_weightOf_22 : decode cX2_weightOf 22 = .ok (.ireturn, 1) := by decide +kernel
theorem dX2_lack_0 : decode cX2_lack 0 = .ok (.aload_n 0, 1) := by decide +kernel
theorem dX2_lack_1 : decode cX2_lack 1 = .ok (.getfield 26, 3) := by decide +kernel
theorem dX2_lack_4 : decode cX2_lack 4 = .ok (.iload_n 1, 1) := by decide +kernel
theorem dX2_lack_5 : decode cX2_lack 5 = .ok (.invokevirtual 71, 3) := by decide +kernel
theorem dX2_lack_8 : decode cX2_lack 8 = .ok (.sipush 1000, 3) := by decide +kernel
theorem dX2_lack_11 : decode cX2_lack 11 = .ok (.idiv, 1) := by decide +kernel
theorem dX2_lack_12 : decode cX2_lack 12 = .ok (.ireturn, 1) := by decide +kernel
theorem dX2_beside_0 : decode cX2_beside 0 = .ok (.aload_n 0, 1) := by decide +kernel
theorem dX2_beside_1 : decode cX2_beside 1 = .ok (.getfield 26, 3) := by decide +kernel
theorem dX2_beside_4 : decode cX2_beside 4 = .ok (.iload_n 1, 1) := by decide +kernel
theorem dX2_beside_5 : decode cX2_beside 5 = .ok (.invokevirtual 71, 3) := by decide +kernel
theorem dX2_beside_8 : decode cX2_beside 8 = .ok (.sipush 1000, 3) := by decide +kernel
theorem dX2_beside_11 : decode cX2_beside 11 = .ok (.irem, 1) := by decide +kernel
theorem dX2_beside_12 : decode cX2_beside 12 = .ok (.ireturn, 1) := by decide +kernel
theorem dX2_wheelFrom_0 : decode cX2_wheelFrom 0 = .ok (.aload_n 0, 1) := by decide +kernel
theorem dX2_wheelFrom_1 : decode cX2_wheelFrom 1 = .ok (.getfield 26, 3) := by decide +kernel
theorem dX2_wheelFrom_4 : decode cX2_wheelFrom 4 = .ok (.iload_n 1, 1) := by decide +kernel
theorem dX2_wheelFrom_5 : decode cX2_wheelFrom 5 = .ok (.invokevirtual 71, 3) := by decide +kernel
theorem dX2_wheelFrom_8 : decode cX2_wheelFrom 8 = .ok (.ldc 74, 2) := by decide +kernel
theorem dX2_wheelFrom_10 : decode cX2_wheelFrom 10 = .ok (.if_icmp .ne 6, 3) := by decide +kernel
theorem dX2_wheelFrom_13 : decode cX2_wheelFrom 13 = .ok (.ldc 74, 2) := by decide +kernel
theorem dX2_wheelFrom_15 : decode cX2_wheelFrom 15 = .ok (.ireturn, 1) := by decide +kernel
theorem dX2_wheelFrom_16 : decode cX2_wheelFrom 16 = .ok (.aload_n 0, 1) := by decide +kernel
theorem dX2_wheelFrom_17 : decode cX2_wheelFrom 17 = .ok (.iload_n 1, 1) := by decide +kernel
theorem dX2_wheelFrom_18 : decode cX2_wheelFrom 18 = .ok (.invokevirtual 75, 3) := by decide +kernel
theorem dX2_wheelFrom_21 : decode cX2_wheelFrom 21 = .ok (.aload_n 0, 1) := by decide +kernel
theorem dX2_wheelFrom_22 : decode cX2_wheelFrom 22 = .ok (.getfield 26, 3) := by decide +kernel
theorem dX2_wheelFrom_25 : decode cX2_wheelFrom 25 = .ok (.invokevirtual 78, 3) := by decide +kernel
theorem dX2_wheelFrom_28 : decode cX2_wheelFrom 28 = .ok (.imul, 1) := by decide +kernel
theorem dX2_wheelFrom_29 : decode cX2_wheelFrom 29 = .ok (.aload_n 0, 1) := by decide +kernel
theorem dX2_wheelFrom_30 : decode cX2_wheelFrom 30 = .ok (.iload_n 1, 1) := by decide +kernel
theorem dX2_wheelFrom_31 : decode cX2_wheelFrom 31 = .ok (.invokevirtual 81, 3) := by decide +kernel
theorem dX2_wheelFrom_34 : decode cX2_wheelFrom 34 = .ok (.isub, 1) := by decide +kernel
theorem dX2_wheelFrom_35 : decode cX2_wheelFrom 35 = .ok (.ireturn, 1) := by decide +kernel
theorem dX2_size_0 : decode cX2_size 0 = .ok (.lload_n 1, 1) := by decide +kernel
theorem dX2_size_1 : decode cX2_size 1 = .ok (.lconst 0, 1) := by decide +kernel
theorem dX2_size_2 : decode cX2_size 2 = .ok (.lcmp, 1) := by decide +kernel
theorem dX2_size_3 : decode cX2_size 3 = .ok (.ifCond .le 13, 3) := by decide +kernel
theorem dX2_size_6 : decode cX2_size 6 = .ok (.aload_n 0, 1) := by decide +kernel
theorem dX2_size_7 : decode cX2_size 7 = .ok (.getfield 12, 3) := by decide +kernel
theorem dX2_size_10 : decode cX2_size 10 = .ok (.invokevirtual 50, 3) := by decide +kernel
theorem dX2_size_13 : decode cX2_size 13 = .ok (.ifCond .ne 17, 3) := by decide +kernel
theorem dX2_size_16 : decode cX2_size 16 = .ok (.lload_n 1, 1) := by decide +kernel
theorem dX2_size_17 : decode cX2_size 17 = .ok (.lconst 0, 1) := by decide +kernel
theorem dX2_size_18 : decode cX2_size 18 = .ok (.lcmp, 1) := by decide +kernel
theorem dX2_size_19 : decode cX2_size 19 = .ok (.ifCond .ne 7, 3) := by decide +kernel
theorem dX2_size_22 : decode cX2_size 22 = .ok (.lconst 0, 1) := by decide +kernel
theorem dX2_size_23 : decode cX2_size 23 = .ok (.goto 6, 3) := by decide +kernel
theorem dX2_size_26 : decode cX2_size 26 = .ok (.ldc2_w 84, 3) := by decide +kernel
theorem dX2_size_29 : decode cX2_size 29 = .ok (.lreturn, 1) := by decide +kernel
theorem dX2_size_30 : decode cX2_size 30 = .ok (.aload_n 0, 1) := by decide +kernel
theorem dX2_size_31 : decode cX2_size 31 = .ok (.invokevirtual 86, 3) := by decide +kernel
theorem dX2_size_34 : decode cX2_size 34 = .ok (.lload_n 1, 1) := by decide +kernel
theorem dX2_size_35 : decode cX2_size 35 = .ok (.aload_n 0, 1) := by decide +kernel
theorem dX2_size_36 : decode cX2_size 36 = .ok (.getfield 26, 3) := by decide +kernel
theorem dX2_size_39 : decode cX2_size 39 = .ok (.invokevirtual 78, 3) := by decide +kernel
theorem dX2_size_42 : decode cX2_size 42 = .ok (.i2l, 1) := by decide +kernel
theorem dX2_size_43 : decode cX2_size 43 = .ok (.lrem, 1) := by decide +kernel
theorem dX2_size_44 : decode cX2_size 44 = .ok (.l2i, 1) := by decide +kernel
theorem dX2_size_45 : decode cX2_size 45 = .ok (.istore_n 3, 1) := by decide +kernel
theorem dX2_size_46 : decode cX2_size 46 = .ok (.aload_n 0, 1) := by decide +kernel
theorem dX2_size_47 : decode cX2_size 47 = .ok (.iload_n 3, 1) := by decide +kernel
theorem dX2_size_48 : decode cX2_size 48 = .ok (.invokevirtual 89, 3) := by decide +kernel
theorem dX2_size_51 : decode cX2_size 51 = .ok (.istore 4, 2) := by decide +kernel
theorem dX2_size_53 : decode cX2_size 53 = .ok (.iload 4, 2) := by decide +kernel
theorem dX2_size_55 : decode cX2_size 55 = .ok (.ldc 74, 2) := by decide +kernel
theorem dX2_size_57 : decode cX2_size 57 = .ok (.if_icmp .ne 7, 3) := by decide +kernel
theorem dX2_size_60 : decode cX2_size 60 = .ok (.ldc2_w 84, 3) := by decide +kernel
theorem dX2_size_63 : decode cX2_size 63 = .ok (.lreturn, 1) := by decide +kernel
theorem dX2_size_64 : decode cX2_size 64 = .ok (.lload_n 1, 1) := by decide +kernel
theorem dX2_size_65 : decode cX2_size 65 = .ok (.iload 4, 2) := by decide +kernel
theorem dX2_size_67 : decode cX2_size 67 = .ok (.i2l, 1) := by decide +kernel
theorem dX2_size_68 : decode cX2_size 68 = .ok (.lcmp, 1) := by decide +kernel
theorem dX2_size_69 : decode cX2_size 69 = .ok (.ifCond .ge 13, 3) := by decide +kernel
theorem dX2_size_72 : decode cX2_size 72 = .ok (.aload_n 0, 1) := by decide +kernel
theorem dX2_size_73 : decode cX2_size 73 = .ok (.lload_n 1, 1) := by decide +kernel
theorem dX2_size_74 : decode cX2_size 74 = .ok (.l2i, 1) := by decide +kernel
theorem dX2_size_75 : decode cX2_size 75 = .ok (.invokevirtual 92, 3) := by decide +kernel
theorem dX2_size_78 : decode cX2_size 78 = .ok (.i2l, 1) := by decide +kernel
theorem dX2_size_79 : decode cX2_size 79 = .ok (.goto 20, 3) := by decide +kernel
theorem dX2_size_82 : decode cX2_size 82 = .ok (.lload_n 1, 1) := by decide +kernel
theorem dX2_size_83 : decode cX2_size 83 = .ok (.aload_n 0, 1) := by decide +kernel
theorem dX2_size_84 : decode cX2_size 84 = .ok (.iload_n 3, 1) := by decide +kernel
theorem dX2_size_85 : decode cX2_size 85 = .ok (.invokevirtual 81, 3) := by decide +kernel
theorem dX2_size_88 : decode cX2_size 88 = .ok (.i2l, 1) := by decide +kernel
theorem dX2_size_89 : decode cX2_size 89 = .ok (.ladd, 1) := by decide +kernel
theorem dX2_size_90 : decode cX2_size 90 = .ok (.aload_n 0, 1) := by decide +kernel
theorem dX2_size_91 : decode cX2_size 91 = .ok (.getfield 26, 3) := by decide +kernel
theorem dX2_size_94 : decode cX2_size 94 = .ok (.invokevirtual 78, 3) := by decide +kernel
theorem dX2_size_97 : decode cX2_size 97 = .ok (.i2l, 1) := by decide +kernel
theorem dX2_size_98 : decode cX2_size 98 = .ok (.ldiv, 1) := by decide +kernel
theorem dX2_size_99 : decode cX2_size 99 = .ok (.lreturn, 1) := by decide +kernel
theorem dX2_often_0 : decode cX2_often 0 = .ok (.aload_n 0, 1) := by decide +kernel
theorem dX2_often_1 : decode cX2_often 1 = .ok (.lload_n 1, 1) := by decide +kernel
theorem dX2_often_2 : decode cX2_often 2 = .ok (.invokevirtual 95, 3) := by decide +kernel
theorem dX2_often_5 : decode cX2_often 5 = .ok (.lstore 4, 2) := by decide +kernel
theorem dX2_often_7 : decode cX2_often 7 = .ok (.lload 4, 2) := by decide +kernel
theorem dX2_often_9 : decode cX2_often 9 = .ok (.lconst 0, 1) := by decide +kernel
theorem dX2_often_10 : decode cX2_often 10 = .ok (.lcmp, 1) := by decide +kernel
theorem dX2_often_11 : decode cX2_often 11 = .ok (.ifCond .gt 6, 3) := by decide +kernel
theorem dX2_often_14 : decode cX2_often 14 = .ok (.lload 4, 2) := by decide +kernel
theorem dX2_often_16 : decode cX2_often 16 = .ok (.lreturn, 1) := by decide +kernel
theorem dX2_often_17 : decode cX2_often 17 = .ok (.lload_n 1, 1) := by decide +kernel
theorem dX2_often_18 : decode cX2_often 18 = .ok (.aload_n 0, 1) := by decide +kernel
theorem dX2_often_19 : decode cX2_often 19 = .ok (.getfield 26, 3) := by decide +kernel
theorem dX2_often_22 : decode cX2_often 22 = .ok (.invokevirtual 78, 3) := by decide +kernel
theorem dX2_often_25 : decode cX2_often 25 = .ok (.i2l, 1) := by decide +kernel
theorem dX2_often_26 : decode cX2_often 26 = .ok (.lrem, 1) := by decide +kernel
theorem dX2_often_27 : decode cX2_often 27 = .ok (.l2i, 1) := by decide +kernel
theorem dX2_often_28 : decode cX2_often 28 = .ok (.istore 6, 2) := by decide +kernel
theorem dX2_often_30 : decode cX2_often 30 = .ok (.lload_n 1, 1) := by decide +kernel
theorem dX2_often_31 : decode cX2_often 31 = .ok (.aload_n 0, 1) := by decide +kernel
theorem dX2_often_32 : decode cX2_often 32 = .ok (.iload 6, 2) := by decide +kernel
theorem dX2_often_34 : decode cX2_often 34 = .ok (.invokevirtual 89, 3) := by decide +kernel
theorem dX2_often_37 : decode cX2_often 37 = .ok (.i2l, 1) := by decide +kernel
theorem dX2_often_38 : decode cX2_often 38 = .ok (.lcmp, 1) := by decide +kernel
theorem dX2_often_39 : decode cX2_often 39 = .ok (.ifCond .ge 12, 3) := by decide +kernel
theorem dX2_often_42 : decode cX2_often 42 = .ok (.aload_n 0, 1) := by decide +kernel
theorem dX2_often_43 : decode cX2_often 43 = .ok (.lload_n 1, 1) := by decide +kernel
theorem dX2_often_44 : decode cX2_often 44 = .ok (.l2i, 1) := by decide +kernel
theorem dX2_often_45 : decode cX2_often 45 = .ok (.iload_n 3, 1) := by decide +kernel
theorem dX2_often_46 : decode cX2_often 46 = .ok (.invokevirtual 99, 3) := by decide +kernel
theorem dX2_often_49 : decode cX2_often 49 = .ok (.i2l, 1) := by decide +kernel
theorem dX2_often_50 : decode cX2_often 50 = .ok (.lreturn, 1) := by decide +kernel
theorem dX2_often_51 : decode cX2_often 51 = .ok (.iload_n 3, 1) := by decide +kernel
theorem dX2_often_52 : decode cX2_often 52 = .ok (.aload_n 0, 1) := by decide +kernel
theorem dX2_often_53 : decode cX2_often 53 = .ok (.getfield 12, 3) := by decide +kernel
theorem dX2_often_56 : decode cX2_often 56 = .ok (.invokevirtual 50, 3) := by decide +kernel
theorem dX2_often_59 : decode cX2_often 59 = .ok (.iconst 1, 1) := by decide +kernel
theorem dX2_often_60 : decode cX2_often 60 = .ok (.isub, 1) := by decide +kernel
theorem dX2_often_61 : decode cX2_often 61 = .ok (.if_icmp .ne 16, 3) := by decide +kernel
theorem dX2_often_64 : decode cX2_often 64 = .ok (.lload 4, 2) := by decide +kernel
theorem dX2_often_66 : decode cX2_often 66 = .ok (.aload_n 0, 1) := by decide +kernel
theorem dX2_often_67 : decode cX2_often 67 = .ok (.iload 6, 2) := by decide +kernel
theorem dX2_often_69 : decode cX2_often 69 = .ok (.invokevirtual 75, 3) := by decide +kernel
theorem dX2_often_72 : decode cX2_often 72 = .ok (.i2l, 1) := by decide +kernel
theorem dX2_often_73 : decode cX2_often 73 = .ok (.lsub, 1) := by decide +kernel
theorem dX2_often_74 : decode cX2_often 74 = .ok (.goto 11, 3) := by decide +kernel
theorem dX2_often_77 : decode cX2_often 77 = .ok (.aload_n 0, 1) := by decide +kernel
theorem dX2_often_78 : decode cX2_often 78 = .ok (.iload 6, 2) := by decide +kernel
theorem dX2_often_80 : decode cX2_often 80 = .ok (.iload_n 3, 1) := by decide +kernel
theorem dX2_often_81 : decode cX2_often 81 = .ok (.invokevirtual 103, 3) := by decide +kernel
theorem dX2_often_84 : decode cX2_often 84 = .ok (.i2l, 1) := by decide +kernel
theorem dX2_often_85 : decode cX2_often 85 = .ok (.lreturn, 1) := by decide +kernel
theorem dX2_oftenByTable_0 : decode cX2_oftenByTable 0 = .ok (.iload_n 1, 1) := by decide +kernel
theorem dX2_oftenByTable_1 : decode cX2_oftenByTable 1 = .ok (.istore_n 3, 1) := by decide +kernel
theorem dX2_oftenByTable_2 : decode cX2_oftenByTable 2 = .ok (.iconst 0, 1) := by decide +kernel
theorem dX2_oftenByTable_3 : decode cX2_oftenByTable 3 = .ok (.istore 4, 2) := by decide +kernel
theorem dX2_oftenByTable_5 : decode cX2_oftenByTable 5 = .ok (.aload_n 0, 1) := by decide +kernel
theorem dX2_oftenByTable_6 : decode cX2_oftenByTable 6 = .ok (.getfield 12, 3) := by decide +kernel
theorem dX2_oftenByTable_9 : decode cX2_oftenByTable 9 = .ok (.invokevirtual 50, 3) := by decide +kernel
theorem dX2_oftenByTable_12 : decode cX2_oftenByTable 12 = .ok (.iconst 1, 1) := by decide +kernel
theorem dX2_oftenByTable_13 : decode cX2_oftenByTable 13 = .ok (.isub, 1) := by decide +kernel
theorem dX2_oftenByTable_14 : decode cX2_oftenByTable 14 = .ok (.istore 5, 2) := by decide +kernel
theorem dX2_oftenByTable_16 : decode cX2_oftenByTable 16 = .ok (.iload 5, 2) := by decide +kernel
theorem dX2_oftenByTable_18 : decode cX2_oftenByTable 18 = .ok (.iload_n 2, 1) := by decide +kernel
theorem dX2_oftenByTable_19 : decode cX2_oftenByTable 19 = .ok (.if_icmp .lt 79, 3) := by decide +kernel
theorem dX2_oftenByTable_22 : decode cX2_oftenByTable 22 = .ok (.iload 5, 2) := by decide +kernel
theorem dX2_oftenByTable_24 : decode cX2_oftenByTable 24 = .ok (.ifCond .lt 74, 3) := by decide +kernel
theorem dX2_oftenByTable_27 : decode cX2_oftenByTable 27 = .ok (.iconst 0, 1) := by decide +kernel
theorem dX2_oftenByTable_28 : decode cX2_oftenByTable 28 = .ok (.istore 4, 2) := by decide +kernel
theorem dX2_oftenByTable_30 : decode cX2_oftenByTable 30 = .ok (.aload_n 0, 1) := by decide +kernel
theorem dX2_oftenByTable_31 : decode cX2_oftenByTable 31 = .ok (.getfield 12, 3) := by decide +kernel
theorem dX2_oftenByTable_34 : decode cX2_oftenByTable 34 = .ok (.iload 5, 2) := by decide +kernel
theorem dX2_oftenByTable_36 : decode cX2_oftenByTable 36 = .ok (.invokevirtual 54, 3) := by decide +kernel
theorem dX2_oftenByTable_39 : decode cX2_oftenByTable 39 = .ok (.istore 6, 2) := by decide +kernel
theorem dX2_oftenByTable_41 : decode cX2_oftenByTable 41 = .ok (.iload 6, 2) := by decide +kernel
theorem dX2_oftenByTable_43 : decode cX2_oftenByTable 43 = .ok (.ifCond .le 10, 3) := by decide +kernel
theorem dX2_oftenByTable_46 : decode cX2_oftenByTable 46 = .ok (.iload_n 3, 1) := by decide +kernel
theorem dX2_oftenByTable_47 : decode cX2_oftenByTable 47 = .ok (.iload 6, 2) := by decide +kernel
theorem dX2_oftenByTable_49 : decode cX2_oftenByTable 49 = .ok (.idiv, 1) := by decide +kernel
theorem dX2_oftenByTable_50 : decode cX2_oftenByTable 50 = .ok (.goto 4, 3) := by decide +kernel
theorem dX2_oftenByTable_53 : decode cX2_oftenByTable 53 = .ok (.iconst 0, 1) := by decide +kernel
theorem dX2_oftenByTable_54 : decode cX2_oftenByTable 54 = .ok (.istore 7, 2) := by decide +kernel
theorem dX2_oftenByTable_56 : decode cX2_oftenByTable 56 = .ok (.iload 4, 2) := by decide +kernel
theorem dX2_oftenByTable_58 : decode cX2_oftenByTable 58 = .ok (.iload 7, 2) := by decide +kernel
theorem dX2_oftenByTable_60 : decode cX2_oftenByTable 60 = .ok (.if_icmp .ge 32, 3) := by decide +kernel
theorem dX2_oftenByTable_63 : decode cX2_oftenByTable 63 = .ok (.aload_n 0, 1) := by decide +kernel
theorem dX2_oftenByTable_64 : decode cX2_oftenByTable 64 = .ok (.iload_n 3, 1) := by decide +kernel
theorem dX2_oftenByTable_65 : decode cX2_oftenByTable 65 = .ok (.iload 6, 2) := by decide +kernel
theorem dX2_oftenByTable_67 : decode cX2_oftenByTable 67 = .ok (.isub, 1) := by decide +kernel
theorem dX2_oftenByTable_68 : decode cX2_oftenByTable 68 = .ok (.invokevirtual 92, 3) := by decide +kernel
theorem dX2_oftenByTable_71 : decode cX2_oftenByTable 71 = .ok (.iconst 1, 1) := by decide +kernel
theorem dX2_oftenByTable_72 : decode cX2_oftenByTable 72 = .ok (.iadd, 1) := by decide +kernel
theorem dX2_oftenByTable_73 : decode cX2_oftenByTable 73 = .ok (.aload_n 0, 1) := by decide +kernel
theorem dX2_oftenByTable_74 : decode cX2_oftenByTable 74 = .ok (.iload_n 3, 1) := by decide +kernel
theorem dX2_oftenByTable_75 : decode cX2_oftenByTable 75 = .ok (.invokevirtual 92, 3) := by decide +kernel
theorem dX2_oftenByTable_78 : decode cX2_oftenByTable 78 = .ok (.if_icmp .ne 14, 3) := by decide +kernel
theorem dX2_oftenByTable_81 : decode cX2_oftenByTable 81 = .ok (.iload_n 3, 1) := by decide +kernel
theorem dX2_oftenByTable_82 : decode cX2_oftenByTable 82 = .ok (.iload 6, 2) := by decide +kernel
theorem dX2_oftenByTable_84 : decode cX2_oftenByTable 84 = .ok (.isub, 1) := by decide +kernel
theorem dX2_oftenByTable_85 : decode cX2_oftenByTable 85 = .ok (.istore_n 3, 1) := by decide +kernel
theorem dX2_oftenByTable_86 : decode cX2_oftenByTable 86 = .ok (.iinc 4 1, 3) := by decide +kernel
theorem dX2_oftenByTable_89 : decode cX2_oftenByTable 89 = .ok (.goto (-33), 3) := by decide +kernel
theorem dX2_oftenByTable_92 : decode cX2_oftenByTable 92 = .ok (.iinc 5 (-1), 3) := by decide +kernel
theorem dX2_oftenByTable_95 : decode cX2_oftenByTable 95 = .ok (.goto (-79), 3) := by decide +kernel
theorem dX2_oftenByTable_98 : decode cX2_oftenByTable 98 = .ok (.iload 4, 2) := by decide +kernel
theorem dX2_oftenByTable_100 : decode cX2_oftenByTable 100 = .ok (.ireturn, 1) := by decide +kernel
theorem dX2_oftenByWheel_0 : decode cX2_oftenByWheel 0 = .ok (.iload_n 1, 1) := by decide +kernel
theorem dX2_oftenByWheel_1 : decode cX2_oftenByWheel 1 = .ok (.istore_n 3, 1) := by decide +kernel
theorem dX2_oftenByWheel_2 : decode cX2_oftenByWheel 2 = .ok (.iconst 0, 1) := by decide +kernel
theorem dX2_oftenByWheel_3 : decode cX2_oftenByWheel 3 = .ok (.istore 4, 2) := by decide +kernel
theorem dX2_oftenByWheel_5 : decode cX2_oftenByWheel 5 = .ok (.aload_n 0, 1) := by decide +kernel
theorem dX2_oftenByWheel_6 : decode cX2_oftenByWheel 6 = .ok (.getfield 12, 3) := by decide +kernel
theorem dX2_oftenByWheel_9 : decode cX2_oftenByWheel 9 = .ok (.invokevirtual 50, 3) := by decide +kernel
theorem dX2_oftenByWheel_12 : decode cX2_oftenByWheel 12 = .ok (.iconst 2, 1) := by decide +kernel
theorem dX2_oftenByWheel_13 : decode cX2_oftenByWheel 13 = .ok (.isub, 1) := by decide +kernel
theorem dX2_oftenByWheel_14 : decode cX2_oftenByWheel 14 = .ok (.istore 5, 2) := by decide +kernel
theorem dX2_oftenByWheel_16 : decode cX2_oftenByWheel 16 = .ok (.iload 5, 2) := by decide +kernel
theorem dX2_oftenByWheel_18 : decode cX2_oftenByWheel 18 = .ok (.iload_n 2, 1) := by decide +kernel
theorem dX2_oftenByWheel_19 : decode cX2_oftenByWheel 19 = .ok (.if_icmp .lt 96, 3) := by decide +kernel
theorem dX2_oftenByWheel_22 : decode cX2_oftenByWheel 22 = .ok (.iload 5, 2) := by decide +kernel
theorem dX2_oftenByWheel_24 : decode cX2_oftenByWheel 24 = .ok (.ifCond .lt 91, 3) := by decide +kernel
theorem dX2_oftenByWheel_27 : decode cX2_oftenByWheel 27 = .ok (.iconst 0, 1) := by decide +kernel
theorem dX2_oftenByWheel_28 : decode cX2_oftenByWheel 28 = .ok (.istore 4, 2) := by decide +kernel
theorem dX2_oftenByWheel_30 : decode cX2_oftenByWheel 30 = .ok (.iload_n 3, 1) := by decide +kernel
theorem dX2_oftenByWheel_31 : decode cX2_oftenByWheel 31 = .ok (.aload_n 0, 1) := by decide +kernel
theorem dX2_oftenByWheel_32 : decode cX2_oftenByWheel 32 = .ok (.getfield 12, 3) := by decide +kernel
theorem dX2_oftenByWheel_35 : decode cX2_oftenByWheel 35 = .ok (.iload 5, 2) := by decide +kernel
theorem dX2_oftenByWheel_37 : decode cX2_oftenByWheel 37 = .ok (.invokevirtual 54, 3) := by decide +kernel
theorem dX2_oftenByWheel_40 : decode cX2_oftenByWheel 40 = .ok (.isub, 1) := by decide +kernel
theorem dX2_oftenByWheel_41 : decode cX2_oftenByWheel 41 = .ok (.aload_n 0, 1) := by decide +kernel
theorem dX2_oftenByWheel_42 : decode cX2_oftenByWheel 42 = .ok (.getfield 26, 3) := by decide +kernel
theorem dX2_oftenByWheel_45 : decode cX2_oftenByWheel 45 = .ok (.invokevirtual 78, 3) := by decide +kernel
theorem dX2_oftenByWheel_48 : decode cX2_oftenByWheel 48 = .ok (.invokestatic 106, 3) := by decide +kernel
theorem dX2_oftenByWheel_51 : decode cX2_oftenByWheel 51 = .ok (.istore 6, 2) := by decide +kernel
theorem dX2_oftenByWheel_53 : decode cX2_oftenByWheel 53 = .ok (.iload 4, 2) := by decide +kernel
theorem dX2_oftenByWheel_55 : decode cX2_oftenByWheel 55 = .ok (.sipush 300, 3) := by decide +kernel
theorem dX2_oftenByWheel_58 : decode cX2_oftenByWheel 58 = .ok (.if_icmp .ge 51, 3) := by decide +kernel
theorem dX2_oftenByWheel_61 : decode cX2_oftenByWheel 61 = .ok (.aload_n 0, 1) := by decide +kernel
theorem dX2_oftenByWheel_62 : decode cX2_oftenByWheel 62 = .ok (.iload 6, 2) := by decide +kernel
theorem dX2_oftenByWheel_64 : decode cX2_oftenByWheel 64 = .ok (.iload_n 3, 1) := by decide +kernel
theorem dX2_oftenByWheel_65 : decode cX2_oftenByWheel 65 = .ok (.aload_n 0, 1) := by decide +kernel
theorem dX2_oftenByWheel_66 : decode cX2_oftenByWheel 66 = .ok (.iload 5, 2) := by decide +kernel
theorem dX2_oftenByWheel_68 : decode cX2_oftenByWheel 68 = .ok (.invokevirtual 64, 3) := by decide +kernel
theorem dX2_oftenByWheel_71 : decode cX2_oftenByWheel 71 = .ok (.invokevirtual 111, 3) := by decide +kernel
theorem dX2_oftenByWheel_74 : decode cX2_oftenByWheel 74 = .ok (.ifCond .eq 35, 3) := by decide +kernel
theorem dX2_oftenByWheel_77 : decode cX2_oftenByWheel 77 = .ok (.iload 6, 2) := by decide +kernel
theorem dX2_oftenByWheel_79 : decode cX2_oftenByWheel 79 = .ok (.istore_n 3, 1) := by decide +kernel
theorem dX2_oftenByWheel_80 : decode cX2_oftenByWheel 80 = .ok (.iload_n 3, 1) := by decide +kernel
theorem dX2_oftenByWheel_81 : decode cX2_oftenByWheel 81 = .ok (.aload_n 0, 1) := by decide +kernel
theorem dX2_oftenByWheel_82 : decode cX2_oftenByWheel 82 = .ok (.getfield 12, 3) := by decide +kernel
theorem dX2_oftenByWheel_85 : decode cX2_oftenByWheel 85 = .ok (.iload 5, 2) := by decide +kernel
theorem dX2_oftenByWheel_87 : decode cX2_oftenByWheel 87 = .ok (.invokevirtual 54, 3) := by decide +kernel
theorem dX2_oftenByWheel_90 : decode cX2_oftenByWheel 90 = .ok (.isub, 1) := by decide +kernel
theorem dX2_oftenByWheel_91 : decode cX2_oftenByWheel 91 = .ok (.aload_n 0, 1) := by decide +kernel
theorem dX2_oftenByWheel_92 : decode cX2_oftenByWheel 92 = .ok (.getfield 26, 3) := by decide +kernel
theorem dX2_oftenByWheel_95 : decode cX2_oftenByWheel 95 = .ok (.invokevirtual 78, 3) := by decide +kernel
theorem dX2_oftenByWheel_98 : decode cX2_oftenByWheel 98 = .ok (.invokestatic 106, 3) := by decide +kernel
theorem dX2_oftenByWheel_101 : decode cX2_oftenByWheel 101 = .ok (.istore 6, 2) := by decide +kernel
theorem dX2_oftenByWheel_103 : decode cX2_oftenByWheel 103 = .ok (.iinc 4 1, 3) := by decide +kernel
theorem dX2_oftenByWheel_106 : decode cX2_oftenByWheel 106 = .ok (.goto (-53), 3) := by decide +kernel
theorem dX2_oftenByWheel_109 : decode cX2_oftenByWheel 109 = .ok (.iinc 5 (-1), 3) := by decide +kernel
theorem dX2_oftenByWheel_112 : decode cX2_oftenByWheel 112 = .ok (.goto (-96), 3) := by decide +kernel
theorem dX2_oftenByWheel_115 : decode cX2_oftenByWheel 115 = .ok (.iload 4, 2) := by decide +kernel
theorem dX2_oftenByWheel_117 : decode cX2_oftenByWheel 117 = .ok (.ireturn, 1) := by decide +kernel
theorem dX2_leadsBest_0 : decode cX2_leadsBest 0 = .ok (.aload_n 0, 1) := by decide +kernel
theorem dX2_leadsBest_1 : decode cX2_leadsBest 1 = .ok (.getfield 26, 3) := by decide +kernel
theorem dX2_leadsBest_4 : decode cX2_leadsBest 4 = .ok (.iload_n 1, 1) := by decide +kernel
theorem dX2_leadsBest_5 : decode cX2_leadsBest 5 = .ok (.invokevirtual 71, 3) := by decide +kernel
theorem dX2_leadsBest_8 : decode cX2_leadsBest 8 = .ok (.ldc 74, 2) := by decide +kernel
theorem dX2_leadsBest_10 : decode cX2_leadsBest 10 = .ok (.if_icmp .eq 28, 3) := by decide +kernel
theorem dX2_leadsBest_13 : decode cX2_leadsBest 13 = .ok (.aload_n 0, 1) := by decide +kernel
theorem dX2_leadsBest_14 : decode cX2_leadsBest 14 = .ok (.getfield 26, 3) := by decide +kernel
theorem dX2_leadsBest_17 : decode cX2_leadsBest 17 = .ok (.iload_n 1, 1) := by decide +kernel
theorem dX2_leadsBest_18 : decode cX2_leadsBest 18 = .ok (.invokevirtual 71, 3) := by decide +kernel
theorem dX2_leadsBest_21 : decode cX2_leadsBest 21 = .ok (.iload_n 3, 1) := by decide +kernel
theorem dX2_leadsBest_22 : decode cX2_leadsBest 22 = .ok (.iadd, 1) := by decide +kernel
theorem dX2_leadsBest_23 : decode cX2_leadsBest 23 = .ok (.aload_n 0, 1) := by decide +kernel
theorem dX2_leadsBest_24 : decode cX2_leadsBest 24 = .ok (.getfield 26, 3) := by decide +kernel
theorem dX2_leadsBest_27 : decode cX2_leadsBest 27 = .ok (.iload_n 2, 1) := by decide +kernel
theorem dX2_leadsBest_28 : decode cX2_leadsBest 28 = .ok (.invokevirtual 71, 3) := by decide +kernel
theorem dX2_leadsBest_31 : decode cX2_leadsBest 31 = .ok (.if_icmp .ne 7, 3) := by decide +kernel
theorem dX2_leadsBest_34 : decode cX2_leadsBest 34 = .ok (.iconst 1, 1) := by decide +kernel
theorem dX2_leadsBest_35 : decode cX2_leadsBest 35 = .ok (.goto 4, 3) := by decide +kernel
theorem dX2_leadsBest_38 : decode cX2_leadsBest 38 = .ok (.iconst 0, 1) := by decide +kernel
theorem dX2_leadsBest_39 : decode cX2_leadsBest 39 = .ok (.ireturn, 1) := by decide +kernel
theorem dX2_allUpTo_0 : decode cX2_allUpTo 0 = .ok (.iconst 0, 1) := by decide +kernel
theorem dX2_allUpTo_1 : decode cX2_allUpTo 1 = .ok (.istore_n 2, 1) := by decide +kernel
theorem dX2_allUpTo_2 : decode cX2_allUpTo 2 = .ok (.iload_n 2, 1) := by decide +kernel
theorem dX2_allUpTo_3 : decode cX2_allUpTo 3 = .ok (.ldc 115, 2) := by decide +kernel
theorem dX2_allUpTo_5 : decode cX2_allUpTo 5 = .ok (.if_icmp .ge 29, 3) := by decide +kernel
theorem dX2_allUpTo_8 : decode cX2_allUpTo 8 = .ok (.aload_n 0, 1) := by decide +kernel
theorem dX2_allUpTo_9 : decode cX2_allUpTo 9 = .ok (.iload_n 2, 1) := by decide +kernel
theorem dX2_allUpTo_10 : decode cX2_allUpTo 10 = .ok (.iconst 1, 1) := by decide +kernel
theorem dX2_allUpTo_11 : decode cX2_allUpTo 11 = .ok (.iadd, 1) := by decide +kernel
theorem dX2_allUpTo_12 : decode cX2_allUpTo 12 = .ok (.invokevirtual 92, 3) := by decide +kernel
theorem dX2_allUpTo_15 : decode cX2_allUpTo 15 = .ok (.istore_n 3, 1) := by decide +kernel
theorem dX2_allUpTo_16 : decode cX2_allUpTo 16 = .ok (.iload_n 3, 1) := by decide +kernel
theorem dX2_allUpTo_17 : decode cX2_allUpTo 17 = .ok (.iconst (-1), 1) := by decide +kernel
theorem dX2_allUpTo_18 : decode cX2_allUpTo 18 = .ok (.if_icmp .eq 8, 3) := by decide +kernel
theorem dX2_allUpTo_21 : decode cX2_allUpTo 21 = .ok (.iload_n 3, 1) := by decide +kernel
theorem dX2_allUpTo_22 : decode cX2_allUpTo 22 = .ok (.iload_n 1, 1) := by decide +kernel
theorem dX2_allUpTo_23 : decode cX2_allUpTo 23 = .ok (.if_icmp .le 5, 3) := by decide +kernel
theorem dX2_allUpTo_26 : decode cX2_allUpTo 26 = .ok (.iload_n 2, 1) := by decide +kernel
theorem dX2_allUpTo_27 : decode cX2_allUpTo 27 = .ok (.ireturn, 1) := by decide +kernel
theorem dX2_allUpTo_28 : decode cX2_allUpTo 28 = .ok (.iinc 2 1, 3) := by decide +kernel
theorem dX2_allUpTo_31 : decode cX2_allUpTo 31 = .ok (.goto (-29), 3) := by decide +kernel
theorem dX2_allUpTo_34 : decode cX2_allUpTo 34 = .ok (.iload_n 2, 1) := by decide +kernel
theorem dX2_allUpTo_35 : decode cX2_allUpTo 35 = .ok (.ireturn, 1) := by decide +kernel
theorem dX2_together_0 : decode cX2_together 0 = .ok (.aload_n 0, 1) := by decide +kernel
theorem dX2_together_1 : decode cX2_together 1 = .ok (.getfield 12, 3) := by decide +kernel
theorem dX2_together_4 : decode cX2_together 4 = .ok (.invokevirtual 50, 3) := by decide +kernel
theorem dX2_together_7 : decode cX2_together 7 = .ok (.ifCond .ne 15, 3) := by decide +kernel
theorem dX2_together_10 : decode cX2_together 10 = .ok (.iload_n 2, 1) := by decide +kernel
theorem dX2_together_11 : decode cX2_together 11 = .ok (.ifCond .ne 7, 3) := by decide +kernel
theorem dX2_together_14 : decode cX2_together 14 = .ok (.lconst 0, 1) := by decide +kernel
theorem dX2_together_15 : decode cX2_together 15 = .ok (.goto 6, 3) := by decide +kernel
theorem dX2_together_18 : decode cX2_together 18 = .ok (.ldc2_w 84, 3) := by decide +kernel
theorem dX2_together_21 : decode cX2_together 21 = .ok (.lreturn, 1) := by decide +kernel
theorem dX2_together_22 : decode cX2_together 22 = .ok (.aload_n 0, 1) := by decide +kernel
theorem dX2_together_23 : decode cX2_together 23 = .ok (.invokevirtual 86, 3) := by decide +kernel
theorem dX2_together_26 : decode cX2_together 26 = .ok (.lconst 0, 1) := by decide +kernel
theorem dX2_together_27 : decode cX2_together 27 = .ok (.lstore_n 3, 1) := by decide +kernel
theorem dX2_together_28 : decode cX2_together 28 = .ok (.iload_n 1, 1) := by decide +kernel
theorem dX2_together_29 : decode cX2_together 29 = .ok (.istore 5, 2) := by decide +kernel
theorem dX2_together_31 : decode cX2_together 31 = .ok (.iload 5, 2) := by decide +kernel
theorem dX2_together_33 : decode cX2_together 33 = .ok (.iload_n 2, 1) := by decide +kernel
theorem dX2_together_34 : decode cX2_together 34 = .ok (.if_icmp .gt 50, 3) := by decide +kernel
theorem dX2_together_37 : decode cX2_together 37 = .ok (.iload 5, 2) := by decide +kernel
theorem dX2_together_39 : decode cX2_together 39 = .ok (.iload_n 1, 1) := by decide +kernel
theorem dX2_together_40 : decode cX2_together 40 = .ok (.aload_n 0, 1) := by decide +kernel
theorem dX2_together_41 : decode cX2_together 41 = .ok (.getfield 26, 3) := by decide +kernel
theorem dX2_together_44 : decode cX2_together 44 = .ok (.invokevirtual 78, 3) := by decide +kernel
theorem dX2_together_47 : decode cX2_together 47 = .ok (.iadd, 1) := by decide +kernel
theorem dX2_together_48 : decode cX2_together 48 = .ok (.if_icmp .ge 36, 3) := by decide +kernel
theorem dX2_together_51 : decode cX2_together 51 = .ok (.aload_n 0, 1) := by decide +kernel
theorem dX2_together_52 : decode cX2_together 52 = .ok (.iload 5, 2) := by decide +kernel
theorem dX2_together_54 : decode cX2_together 54 = .ok (.iload_n 2, 1) := by decide +kernel
theorem dX2_together_55 : decode cX2_together 55 = .ok (.invokevirtual 116, 3) := by decide +kernel
theorem dX2_together_58 : decode cX2_together 58 = .ok (.lstore 6, 2) := by decide +kernel
theorem dX2_together_60 : decode cX2_together 60 = .ok (.lload 6, 2) := by decide +kernel
theorem dX2_together_62 : decode cX2_together 62 = .ok (.ldc2_w 84, 3) := by decide +kernel
theorem dX2_together_65 : decode cX2_together 65 = .ok (.lcmp, 1) := by decide +kernel
theorem dX2_together_66 : decode cX2_together 66 = .ok (.ifCond .ne 7, 3) := by decide +kernel
theorem dX2_together_69 : decode cX2_together 69 = .ok (.ldc2_w 84, 3) := by decide +kernel
theorem dX2_together_72 : decode cX2_together 72 = .ok (.lreturn, 1) := by decide +kernel
theorem dX2_together_73 : decode cX2_together 73 = .ok (.lload_n 3, 1) := by decide +kernel
theorem dX2_together_74 : decode cX2_together 74 = .ok (.lload 6, 2) := by decide +kernel
theorem dX2_together_76 : decode cX2_together 76 = .ok (.ladd, 1) := by decide +kernel
theorem dX2_together_77 : decode cX2_together 77 = .ok (.lstore_n 3, 1) := by decide +kernel
theorem dX2_together_78 : decode cX2_together 78 = .ok (.iinc 5 1, 3) := by decide +kernel
theorem dX2_together_81 : decode cX2_together 81 = .ok (.goto (-50), 3) := by decide +kernel
theorem dX2_together_84 : decode cX2_together 84 = .ok (.lload_n 3, 1) := by decide +kernel
theorem dX2_together_85 : decode cX2_together 85 = .ok (.lreturn, 1) := by decide +kernel
theorem dX2_togetherOfRest_0 : decode cX2_togetherOfRest 0 = .ok (.aload_n 0, 1) := by decide +kernel
theorem dX2_togetherOfRest_1 : decode cX2_togetherOfRest 1 = .ok (.getfield 26, 3) := by decide +kernel
theorem dX2_togetherOfRest_4 : decode cX2_togetherOfRest 4 = .ok (.invokevirtual 78, 3) := by decide +kernel
theorem dX2_togetherOfRest_7 : decode cX2_togetherOfRest 7 = .ok (.istore_n 3, 1) := by decide +kernel
theorem dX2_togetherOfRest_8 : decode cX2_togetherOfRest 8 = .ok (.aload_n 0, 1) := by decide +kernel
theorem dX2_togetherOfRest_9 : decode cX2_togetherOfRest 9 = .ok (.iload_n 1, 1) := by decide +kernel
theorem dX2_togetherOfRest_10 : decode cX2_togetherOfRest 10 = .ok (.iload_n 3, 1) := by decide +kernel
theorem dX2_togetherOfRest_11 : decode cX2_togetherOfRest 11 = .ok (.irem, 1) := by decide +kernel
theorem dX2_togetherOfRest_12 : decode cX2_togetherOfRest 12 = .ok (.invokevirtual 89, 3) := by decide +kernel
theorem dX2_togetherOfRest_15 : decode cX2_togetherOfRest 15 = .ok (.istore 4, 2) := by decide +kernel
theorem dX2_togetherOfRest_17 : decode cX2_togetherOfRest 17 = .ok (.lconst 0, 1) := by decide +kernel
theorem dX2_togetherOfRest_18 : decode cX2_togetherOfRest 18 = .ok (.lstore 5, 2) := by decide +kernel
theorem dX2_togetherOfRest_20 : decode cX2_togetherOfRest 20 = .ok (.iload_n 1, 1) := by decide +kernel
theorem dX2_togetherOfRest_21 : decode cX2_togetherOfRest 21 = .ok (.istore 7, 2) := by decide +kernel
theorem dX2_togetherOfRest_23 : decode cX2_togetherOfRest 23 = .ok (.iload 7, 2) := by decide +kernel
theorem dX2_togetherOfRest_25 : decode cX2_togetherOfRest 25 = .ok (.iload_n 2, 1) := by decide +kernel
theorem dX2_togetherOfRest_26 : decode cX2_togetherOfRest 26 = .ok (.if_icmp .gt 56, 3) := by decide +kernel
theorem dX2_togetherOfRest_29 : decode cX2_togetherOfRest 29 = .ok (.iload 7, 2) := by decide +kernel
theorem dX2_togetherOfRest_31 : decode cX2_togetherOfRest 31 = .ok (.iload 4, 2) := by decide +kernel
theorem dX2_togetherOfRest_33 : decode cX2_togetherOfRest 33 = .ok (.if_icmp .ge 49, 3) := by decide +kernel
theorem dX2_togetherOfRest_36 : decode cX2_togetherOfRest 36 = .ok (.iload 4, 2) := by decide +kernel
theorem dX2_togetherOfRest_38 : decode cX2_togetherOfRest 38 = .ok (.ldc 74, 2) := by decide +kernel
theorem dX2_togetherOfRest_40 : decode cX2_togetherOfRest 40 = .ok (.if_icmp .ne 7, 3) := by decide +kernel
theorem dX2_togetherOfRest_43 : decode cX2_togetherOfRest 43 = .ok (.iconst (-1), 1) := by decide +kernel
theorem dX2_togetherOfRest_44 : decode cX2_togetherOfRest 44 = .ok (.goto 9, 3) := by decide +kernel
theorem dX2_togetherOfRest_47 : decode cX2_togetherOfRest 47 = .ok (.aload_n 0, 1) := by decide +kernel
theorem dX2_togetherOfRest_48 : decode cX2_togetherOfRest 48 = .ok (.iload 7, 2) := by decide +kernel
theorem dX2_togetherOfRest_50 : decode cX2_togetherOfRest 50 = .ok (.invokevirtual 92, 3) := by decide +kernel
theorem dX2_togetherOfRest_53 : decode cX2_togetherOfRest 53 = .ok (.istore 8, 2) := by decide +kernel
theorem dX2_togetherOfRest_55 : decode cX2_togetherOfRest 55 = .ok (.iload 8, 2) := by decide +kernel
theorem dX2_togetherOfRest_57 : decode cX2_togetherOfRest 57 = .ok (.iconst (-1), 1) := by decide +kernel
theorem dX2_togetherOfRest_58 : decode cX2_togetherOfRest 58 = .ok (.if_icmp .ne 7, 3) := by decide +kernel
theorem dX2_togetherOfRest_61 : decode cX2_togetherOfRest 61 = .ok (.ldc2_w 84, 3) := by decide +kernel
theorem dX2_togetherOfRest_64 : decode cX2_togetherOfRest 64 = .ok (.lreturn, 1) := by decide +kernel
theorem dX2_togetherOfRest_65 : decode cX2_togetherOfRest 65 = .ok (.lload 5, 2) := by decide +kernel
theorem dX2_togetherOfRest_67 : decode cX2_togetherOfRest 67 = .ok (.iload 8, 2) := by decide +kernel
theorem dX2_togetherOfRest_69 : decode cX2_togetherOfRest 69 = .ok (.i2l, 1) := by decide +kernel
theorem dX2_togetherOfRest_70 : decode cX2_togetherOfRest 70 = .ok (.ladd, 1) := by decide +kernel
theorem dX2_togetherOfRest_71 : decode cX2_togetherOfRest 71 = .ok (.lstore 5, 2) := by decide +kernel
theorem dX2_togetherOfRest_73 : decode cX2_togetherOfRest 73 = .ok (.iload 7, 2) := by decide +kernel
theorem dX2_togetherOfRest_75 : decode cX2_togetherOfRest 75 = .ok (.iload_n 3, 1) := by decide +kernel
theorem dX2_togetherOfRest_76 : decode cX2_togetherOfRest 76 = .ok (.iadd, 1) := by decide +kernel
theorem dX2_togetherOfRest_77 : decode cX2_togetherOfRest 77 = .ok (.istore 7, 2) := by decide +kernel
theorem dX2_togetherOfRest_79 : decode cX2_togetherOfRest 79 = .ok (.goto (-56), 3) := by decide +kernel
theorem dX2_togetherOfRest_82 : decode cX2_togetherOfRest 82 = .ok (.iload 7, 2) := by decide +kernel
theorem dX2_togetherOfRest_84 : decode cX2_togetherOfRest 84 = .ok (.iload_n 2, 1) := by decide +kernel
theorem dX2_togetherOfRest_85 : decode cX2_togetherOfRest 85 = .ok (.if_icmp .le 6, 3) := by decide +kernel
theorem dX2_togetherOfRest_88 : decode cX2_togetherOfRest 88 = .ok (.lload 5, 2) := by decide +kernel
theorem dX2_togetherOfRest_90 : decode cX2_togetherOfRest 90 = .ok (.lreturn, 1) := by decide +kernel
theorem dX2_togetherOfRest_91 : decode cX2_togetherOfRest 91 = .ok (.iload_n 2, 1) := by decide +kernel
theorem dX2_togetherOfRest_92 : decode cX2_togetherOfRest 92 = .ok (.iload 7, 2) := by decide +kernel
theorem dX2_togetherOfRest_94 : decode cX2_togetherOfRest 94 = .ok (.isub, 1) := by decide +kernel
theorem dX2_togetherOfRest_95 : decode cX2_togetherOfRest 95 = .ok (.iload_n 3, 1) := by decide +kernel
theorem dX2_togetherOfRest_96 : decode cX2_togetherOfRest 96 = .ok (.idiv, 1) := by decide +kernel
theorem dX2_togetherOfRest_97 : decode cX2_togetherOfRest 97 = .ok (.i2l, 1) := by decide +kernel
theorem dX2_togetherOfRest_98 : decode cX2_togetherOfRest 98 = .ok (.lstore 8, 2) := by decide +kernel
theorem dX2_togetherOfRest_100 : decode cX2_togetherOfRest 100 = .ok (.lload 5, 2) := by decide +kernel
theorem dX2_togetherOfRest_102 : decode cX2_togetherOfRest 102 = .ok (.lload 8, 2) := by decide +kernel
theorem dX2_togetherOfRest_104 : decode cX2_togetherOfRest 104 = .ok (.lconst 1, 1) := by decide +kernel
theorem dX2_togetherOfRest_105 : decode cX2_togetherOfRest 105 = .ok (.ladd, 1) := by decide +kernel
theorem dX2_togetherOfRest_106 : decode cX2_togetherOfRest 106 = .ok (.aload_n 0, 1) := by decide +kernel
theorem dX2_togetherOfRest_107 : decode cX2_togetherOfRest 107 = .ok (.iload 7, 2) := by decide +kernel
theorem dX2_togetherOfRest_109 : decode cX2_togetherOfRest 109 = .ok (.i2l, 1) := by decide +kernel
theorem dX2_togetherOfRest_110 : decode cX2_togetherOfRest 110 = .ok (.invokevirtual 95, 3) := by decide +kernel
theorem dX2_togetherOfRest_113 : decode cX2_togetherOfRest 113 = .ok (.lmul, 1) := by decide +kernel
theorem dX2_togetherOfRest_114 : decode cX2_togetherOfRest 114 = .ok (.ladd, 1) := by decide +kernel
theorem dX2_togetherOfRest_115 : decode cX2_togetherOfRest 115 = .ok (.lload 8, 2) := by decide +kernel
theorem dX2_togetherOfRest_117 : decode cX2_togetherOfRest 117 = .ok (.lload 8, 2) := by decide +kernel
theorem dX2_togetherOfRest_119 : decode cX2_togetherOfRest 119 = .ok (.lconst 1, 1) := by decide +kernel
theorem dX2_togetherOfRest_120 : decode cX2_togetherOfRest 120 = .ok (.ladd, 1) := by decide +kernel
theorem dX2_togetherOfRest_121 : decode cX2_togetherOfRest 121 = .ok (.lmul, 1) := by decide +kernel
theorem dX2_togetherOfRest_122 : decode cX2_togetherOfRest 122 = .ok (.ldc2_w 120, 3) := by decide +kernel
theorem dX2_togetherOfRest_125 : decode cX2_togetherOfRest 125 = .ok (.ldiv, 1) := by decide +kernel
theorem dX2_togetherOfRest_126 : decode cX2_togetherOfRest 126 = .ok (.ladd, 1) := by decide +kernel
theorem dX2_togetherOfRest_127 : decode cX2_togetherOfRest 127 = .ok (.lreturn, 1) := by decide +kernel
theorem dX3_init_0 : decode cX3_init 0 = .ok (.aload_n 0, 1) := by decide +kernel
theorem dX3_init_1 : decode cX3_init 1 = .ok (.invokespecial 3, 3) := by decide +kernel
theorem dX3_init_4 : decode cX3_init 4 = .ok (.aload_n 0, 1) := by decide +kernel
theorem dX3_init_5 : decode cX3_init 5 = .ok (.sipush 168, 3) := by decide +kernel
theorem dX3_init_8 : decode cX3_init 8 = .ok (.anewarray 11, 3) := by decide +kernel
theorem dX3_init_11 : decode cX3_init 11 = .ok (.putfield 13, 3) := by decide +kernel
theorem dX3_init_14 : decode cX3_init 14 = .ok (.aload_n 0, 1) := by decide +kernel
theorem dX3_init_15 : decode cX3_init 15 = .ok (.sipush 168, 3) := by decide +kernel
theorem dX3_init_18 : decode cX3_init 18 = .ok (.anewarray 17, 3) := by decide +kernel
theorem dX3_init_21 : decode cX3_init 21 = .ok (.putfield 19, 3) := by decide +kernel
theorem dX3_init_24 : decode cX3_init 24 = .ok (.aload_n 0, 1) := by decide +kernel
theorem dX3_init_25 : decode cX3_init 25 = .ok (.iconst 0, 1) := by decide +kernel
theorem dX3_init_26 : decode cX3_init 26 = .ok (.putfield 23, 3) := by decide +kernel
theorem dX3_init_29 : decode cX3_init 29 = .ok (.aload_n 0, 1) := by decide +kernel
theorem dX3_init_30 : decode cX3_init 30 = .ok (.iconst 0, 1) := by decide +kernel
theorem dX3_init_31 : decode cX3_init 31 = .ok (.putfield 27, 3) := by decide +kernel
theorem dX3_init_34 : decode cX3_init 34 = .ok (.aload_n 0, 1) := by decide +kernel
theorem dX3_init_35 : decode cX3_init 35 = .ok (.iconst 0, 1) := by decide +kernel
theorem dX3_init_36 : decode cX3_init 36 = .ok (.putfield 30, 3) := by decide +kernel
theorem dX3_init_39 : decode cX3_init 39 = .ok (.iconst 0, 1) := by decide +kernel
theorem dX3_init_40 : decode cX3_init 40 = .ok (.istore_n 1, 1) := by decide +kernel
theorem dX3_init_41 : decode cX3_init 41 = .ok (.iload_n 1, 1) := by decide +kernel
theorem dX3_init_42 : decode cX3_init 42 = .ok (.sipush 168, 3) := by decide +kernel
theorem dX3_init_45 : decode cX3_init 45 = .ok (.if_icmp .ge 35, 3) := by decide +kernel
theorem dX3_init_48 : decode cX3_init 48 = .ok (.aload_n 0, 1) := by decide +kernel
theorem dX3_init_49 : decode cX3_init 49 = .ok (.getfield 13, 3) := by decide +kernel
theorem dX3_init_52 : decode cX3_init 52 = .ok (.iload_n 1, 1) := by decide +kernel
theorem dX3_init_53 : decode cX3_init 53 = .ok (.new 11, 3) := by decide +kernel
theorem dX3_init_56 : decode cX3_init 56 = .ok (.dup, 1) := by decide +kernel
theorem dX3_init_57 : decode cX3_init 57 = .ok (.invokespecial 33, 3) := by decide +kernel
theorem dX3_init_60 : decode cX3_init 60 = .ok (.aastore, 1) := by decide +kernel
theorem dX3_init_61 : decode cX3_init 61 = .ok (.aload_n 0, 1) := by decide +kernel
theorem dX3_init_62 : decode cX3_init 62 = .ok (.getfield 19, 3) := by decide +kernel
theorem dX3_init_65 : decode cX3_init 65 = .ok (.iload_n 1, 1) := by decide +kernel
theorem dX3_init_66 : decode cX3_init 66 = .ok (.new 17, 3) := by decide +kernel
theorem dX3_init_69 : decode cX3_init 69 = .ok (.dup, 1) := by decide +kernel
theorem dX3_init_70 : decode cX3_init 70 = .ok (.invokespecial 34, 3) := by decide +kernel
theorem dX3_init_73 : decode cX3_init 73 = .ok (.aastore, 1) := by decide +kernel
theorem dX3_init_74 : decode cX3_init 74 = .ok (.iinc 1 1, 3) := by decide +kernel
theorem dX3_init_77 : decode cX3_init 77 = .ok (.goto (-36), 3) := by decide +kernel
theorem dX3_init_80 : decode cX3_init 80 = .ok (.return_, 1) := by decide +kernel
theorem dX3_mint_0 : decode cX3_mint 0 = .ok (.aload_n 0, 1) := by decide +kernel
theorem dX3_mint_1 : decode cX3_mint 1 = .ok (.getfield 13, 3) := by decide +kernel
theorem dX3_mint_4 : decode cX3_mint 4 = .ok (.aload_n 0, 1) := by decide +kernel
theorem dX3_mint_5 : decode cX3_mint 5 = .ok (.getfield 23, 3) := by decide +kernel
theorem dX3_mint_8 : decode cX3_mint 8 = .ok (.bipush 8, 2) := by decide +kernel
theorem dX3_mint_10 : decode cX3_mint 10 = .ok (.imul, 1) := by decide +kernel
theorem dX3_mint_11 : decode cX3_mint 11 = .ok (.iload_n 1, 1) := by decide +kernel
theorem dX3_mint_12 : decode cX3_mint 12 = .ok (.iadd, 1) := by decide +kernel
theorem dX3_mint_13 : decode cX3_mint 13 = .ok (.aaload, 1) := by decide +kernel
theorem dX3_mint_14 : decode cX3_mint 14 = .ok (.areturn, 1) := by decide +kernel
theorem dX3_purse_0 : decode cX3_purse 0 = .ok (.aload_n 0, 1) := by decide +kernel
theorem dX3_purse_1 : decode cX3_purse 1 = .ok (.getfield 19, 3) := by decide +kernel
theorem dX3_purse_4 : decode cX3_purse 4 = .ok (.aload_n 0, 1) := by decide +kernel
theorem dX3_purse_5 : decode cX3_purse 5 = .ok (.getfield 23, 3) := by decide +kernel
theorem dX3_purse_8 : decode cX3_purse 8 = .ok (.bipush 8, 2) := by decide +kernel
theorem dX3_purse_10 : decode cX3_purse 10 = .ok (.imul, 1) := by decide +kernel
theorem dX3_purse_11 : decode cX3_purse 11 = .ok (.iload_n 1, 1) := by decide +kernel
theorem dX3_purse_12 : decode cX3_purse 12 = .ok (.iadd, 1) := by decide +kernel
theorem dX3_purse_13 : decode cX3_purse 13 = .ok (.aaload, 1) := by decide +kernel
theorem dX3_purse_14 : decode cX3_purse 14 = .ok (.areturn, 1) := by decide +kernel
theorem dX3_begin_0 : decode cX3_begin 0 = .ok (.aload_n 0, 1) := by decide +kernel
theorem dX3_begin_1 : decode cX3_begin 1 = .ok (.getfield 23, 3) := by decide +kernel
theorem dX3_begin_4 : decode cX3_begin 4 = .ok (.iconst 1, 1) := by decide +kernel
theorem dX3_begin_5 : decode cX3_begin 5 = .ok (.iadd, 1) := by decide +kernel
theorem dX3_begin_6 : decode cX3_begin 6 = .ok (.bipush 21, 2) := by decide +kernel
theorem dX3_begin_8 : decode cX3_begin 8 = .ok (.irem, 1) := by decide +kernel
theorem dX3_begin_9 : decode cX3_begin 9 = .ok (.istore_n 1, 1) := by decide +kernel
theorem dX3_begin_10 : decode cX3_begin 10 = .ok (.iconst 0, 1) := by decide +kernel
theorem dX3_begin_11 : decode cX3_begin 11 = .ok (.istore_n 2, 1) := by decide +kernel
theorem dX3_begin_12 : decode cX3_begin 12 = .ok (.iload_n 2, 1) := by decide +kernel
theorem dX3_begin_13 : decode cX3_begin 13 = .ok (.bipush 8, 2) := by decide +kernel
theorem dX3_begin_15 : decode cX3_begin 15 = .ok (.if_icmp .ge 47, 3) := by decide +kernel
theorem dX3_begin_18 : decode cX3_begin 18 = .ok (.aload_n 0, 1) := by decide +kernel
theorem dX3_begin_19 : decode cX3_begin 19 = .ok (.getfield 13, 3) := by decide +kernel
theorem dX3_begin_22 : decode cX3_begin 22 = .ok (.iload_n 1, 1) := by decide +kernel
theorem dX3_begin_23 : decode cX3_begin 23 = .ok (.bipush 8, 2) := by decide +kernel
theorem dX3_begin_25 : decode cX3_begin 25 = .ok (.imul, 1) := by decide +kernel
theorem dX3_begin_26 : decode cX3_begin 26 = .ok (.iload_n 2, 1) := by decide +kernel
theorem dX3_begin_27 : decode cX3_begin 27 = .ok (.iadd, 1) := by decide +kernel
theorem dX3_begin_28 : decode cX3_begin 28 = .ok (.aaload, 1) := by decide +kernel
theorem dX3_begin_29 : decode cX3_begin 29 = .ok (.aload_n 0, 1) := by decide +kernel
theorem dX3_begin_30 : decode cX3_begin 30 = .ok (.iload_n 2, 1) := by decide +kernel
theorem dX3_begin_31 : decode cX3_begin 31 = .ok (.invokevirtual 35, 3) := by decide +kernel
theorem dX3_begin_34 : decode cX3_begin 34 = .ok (.invokevirtual 39, 3) := by decide +kernel
theorem dX3_begin_37 : decode cX3_begin 37 = .ok (.aload_n 0, 1) := by decide +kernel
theorem dX3_begin_38 : decode cX3_begin 38 = .ok (.getfield 19, 3) := by decide +kernel
theorem dX3_begin_41 : decode cX3_begin 41 = .ok (.iload_n 1, 1) := by decide +kernel
theorem dX3_begin_42 : decode cX3_begin 42 = .ok (.bipush 8, 2) := by decide +kernel
theorem dX3_begin_44 : decode cX3_begin 44 = .ok (.imul, 1) := by decide +kernel
theorem dX3_begin_45 : decode cX3_begin 45 = .ok (.iload_n 2, 1) := by decide +kernel
theorem dX3_begin_46 : decode cX3_begin 46 = .ok (.iadd, 1) := by decide +kernel
theorem dX3_begin_47 : decode cX3_begin 47 = .ok (.aaload, 1) := by decide +kernel
theorem dX3_begin_48 : decode cX3_begin 48 = .ok (.aload_n 0, 1) := by decide +kernel
theorem dX3_begin_49 : decode cX3_begin 49 = .ok (.iload_n 2, 1) := by decide +kernel
theorem dX3_begin_50 : decode cX3_begin 50 = .ok (.invokevirtual 43, 3) := by decide +kernel
theorem dX3_begin_53 : decode cX3_begin 53 = .ok (.invokevirtual 47, 3) := by decide +kernel
theorem dX3_begin_56 : decode cX3_begin 56 = .ok (.iinc 2 1, 3) := by decide +kernel
theorem dX3_begin_59 : decode cX3_begin 59 = .ok (.goto (-47), 3) := by decide +kernel
theorem dX3_begin_62 : decode cX3_begin 62 = .ok (.aload_n 0, 1) := by decide +kernel
theorem dX3_begin_63 : decode cX3_begin 63 = .ok (.iload_n 1, 1) := by decide +kernel
theorem dX3_begin_64 : decode cX3_begin 64 = .ok (.putfield 23, 3) := by decide +kernel
theorem dX3_begin_67 : decode cX3_begin 67 = .ok (.aload_n 0, 1) := by decide +kernel
theorem dX3_begin_68 : decode cX3_begin 68 = .ok (.aload_n 0, 1) := by decide +kernel
theorem dX3_begin_69 : decode cX3_begin 69 = .ok (.getfield 27, 3) := by decide +kernel
theorem dX3_begin_72 : decode cX3_begin 72 = .ok (.iconst 1, 1) := by decide +kernel
theorem dX3_begin_73 : decode cX3_begin 73 = .ok (.iadd, 1) := by decide +kernel
theorem dX3_begin_74 : decode cX3_begin 74 = .ok (.bipush 20, 2) := by decide +kernel
theorem dX3_begin_76 : decode cX3_begin 76 = .ok (.invokestatic 50, 3) := by decide +kernel
theorem dX3_begin_79 : decode cX3_begin 79 = .ok (.putfield 27, 3) := by decide +kernel
theorem dX3_begin_82 : decode cX3_begin 82 = .ok (.aload_n 0, 1) := by decide +kernel
theorem dX3_begin_83 : decode cX3_begin 83 = .ok (.iconst 0, 1) := by decide +kernel
theorem dX3_begin_84 : decode cX3_begin 84 = .ok (.putfield 30, 3) := by decide +kernel
theorem dX3_begin_87 : decode cX3_begin 87 = .ok (.return_, 1) := by decide +kernel
theorem dX3_back_0 : decode cX3_back 0 = .ok (.aload_n 0, 1) := by decide +kernel
theorem dX3_back_1 : decode cX3_back 1 = .ok (.getfield 27, 3) := by decide +kernel
theorem dX3_back_4 : decode cX3_back 4 = .ok (.ifCond .ne 5, 3) := by decide +kernel
theorem dX3_back_7 : decode cX3_back 7 = .ok (.iconst 0, 1) := by decide +kernel
theorem dX3_back_8 : decode cX3_back 8 = .ok (.ireturn, 1) := by decide +kernel
theorem dX3_back_9 : decode cX3_back 9 = .ok (.aload_n 0, 1) := by decide +kernel
theorem dX3_back_10 : decode cX3_back 10 = .ok (.aload_n 0, 1) := by decide +kernel
theorem dX3_back_11 : decode cX3_back 11 = .ok (.getfield 23, 3) := by decide +kernel
theorem dX3_back_14 : decode cX3_back 14 = .ok (.bipush 21, 2) := by decide +kernel
theorem dX3_back_16 : decode cX3_back 16 = .ok (.iadd, 1) := by decide +kernel
theorem dX3_back_17 : decode cX3_back 17 = .ok (.iconst 1, 1) := by decide +kernel
theorem dX3_back_18 : decode cX3_back 18 = .ok (.isub, 1) := by decide +kernel
theorem dX3_back_19 : decode cX3_back 19 = .ok (.bipush 21, 2) := by decide +kernel
theorem dX3_back_21 : decode cX3_back 21 = .ok (.irem, 1) := by decide +kernel
theorem dX3_back_22 : decode cX3_back 22 = .ok (.putfield 23, 3) := by decide +kernel
theorem dX3_back_25 : decode cX3_back 25 = .ok (.aload_n 0, 1) := by decide +kernel
theorem dX3_back_26 : decode cX3_back 26 = .ok (.dup, 1) := by decide +kernel
theorem dX3_back_27 : decode cX3_back 27 = .ok (.getfield 27, 3) := by decide +kernel
theorem dX3_back_30 : decode cX3_back 30 = .ok (.iconst 1, 1) := by decide +kernel
theorem dX3_back_31 : decode cX3_back 31 = .ok (.isub, 1) := by decide +kernel
theorem dX3_back_32 : decode cX3_back 32 = .ok (.putfield 27, 3) := by decide +kernel
theorem dX3_back_35 : decode cX3_back 35 = .ok (.aload_n 0, 1) := by decide +kernel
theorem dX3_back_36 : decode cX3_back 36 = .ok (.dup, 1) := by decide +kernel
theorem dX3_back_37 : decode cX3_back 37 = .ok (.getfield 30, 3) := by decide +kernel
theorem dX3_back_40 : decode cX3_back 40 = .ok (.iconst 1, 1) := by decide +kernel
theorem dX3_back_41 : decode cX3_back 41 = .ok (.iadd, 1) := by decide +kernel
theorem dX3_back_42 : decode cX3_back 42 = .ok (.putfield 30, 3) := by decide +kernel
theorem dX3_back_45 : decode cX3_back 45 = .ok (.iconst 1, 1) := by decide +kernel
theorem dX3_back_46 : decode cX3_back 46 = .ok (.ireturn, 1) := by decide +kernel
theorem dX3_forth_0 : decode cX3_forth 0 = .ok (.aload_n 0, 1) := by decide +kernel
theorem dX3_forth_1 : decode cX3_forth 1 = .ok (.getfield 30, 3) := by decide +kernel
theorem dX3_forth_4 : decode cX3_forth 4 = .ok (.ifCond .ne 5, 3) := by decide +kernel
theorem dX3_forth_7 : decode cX3_forth 7 = .ok (.iconst 0, 1) := by decide +kernel
theorem dX3_forth_8 : decode cX3_forth 8 = .ok (.ireturn, 1) := by decide +kernel
theorem dX3_forth_9 : decode cX3_forth 9 = .ok (.aload_n 0, 1) := by decide +kernel
theorem dX3_forth_10 : decode cX3_forth 10 = .ok (.aload_n 0, 1) := by decide +kernel
theorem dX3_forth_11 : decode cX3_forth 11 = .ok (.getfield 23, 3) := by decide +kernel
theorem dX3_forth_14 : decode cX3_forth 14 = .ok (.iconst 1, 1) := by decide +kernel
theorem dX3_forth_15 : decode cX3_forth 15 = .ok (.iadd, 1) := by decide +kernel
theorem dX3_forth_16 : decode cX3_forth 16 = .ok (.bipush 21, 2) := by decide +kernel
theorem dX3_forth_18 : decode cX3_forth 18 = .ok (.irem, 1) := by decide +kernel
theorem dX3_forth_19 : decode cX3_forth 19 = .ok (.putfield 23, 3) := by decide +kernel
theorem dX3_forth_22 : decode cX3_forth 22 = .ok (.aload_n 0, 1) := by decide +kernel
theorem dX3_forth_23 : decode cX3_forth 23 = .ok (.dup, 1) := by decide +kernel
theorem dX3_forth_24 : decode cX3_forth 24 = .ok (.getfield 27, 3) := by decide +kernel
theorem dX3_forth_27 : decode cX3_forth 27 = .ok (.iconst 1, 1) := by decide +kernel
theorem dX3_forth_28 : decode cX3_forth 28 = .ok (.iadd, 1) := by decide +kernel
theorem dX3_forth_29 : decode cX3_forth 29 = .ok (.putfield 27, 3) := by decide +kernel
theorem dX3_forth_32 : decode cX3_forth 32 = .ok (.aload_n 0, 1) := by decide +kernel
theorem dX3_forth_33 : decode cX3_forth 33 = .ok (.dup, 1) := by decide +kernel
theorem dX3_forth_34 : decode cX3_forth 34 = .ok (.getfield 30, 3) := by decide +kernel
theorem dX3_forth_37 : decode cX3_forth 37 = .ok (.iconst 1, 1) := by decide +kernel
theorem dX3_forth_38 : decode cX3_forth 38 = .ok (.isub, 1) := by decide +kernel
theorem dX3_forth_39 : decode cX3_forth 39 = .ok (.putfield 30, 3) := by decide +kernel
theorem dX3_forth_42 : decode cX3_forth 42 = .ok (.iconst 1, 1) := by decide +kernel
theorem dX3_forth_43 : decode cX3_forth 43 = .ok (.ireturn, 1) := by decide +kernel
theorem dX4_init_0 : decode cX4_init 0 = .ok (.aload_n 0, 1) := by decide +kernel
theorem dX4_init_1 : decode cX4_init 1 = .ok (.invokespecial 1, 3) := by decide +kernel
theorem dX4_init_4 : decode cX4_init 4 = .ok (.aload_n 0, 1) := by decide +kernel
theorem dX4_init_5 : decode cX4_init 5 = .ok (.new 7, 3) := by decide +kernel
theorem dX4_init_8 : decode cX4_init 8 = .ok (.dup, 1) := by decide +kernel
theorem dX4_init_9 : decode cX4_init 9 = .ok (.invokespecial 9, 3) := by decide +kernel
theorem dX4_init_12 : decode cX4_init 12 = .ok (.putfield 10, 3) := by decide +kernel
theorem dX4_init_15 : decode cX4_init 15 = .ok (.return_, 1) := by decide +kernel
theorem dX4_take_0 : decode cX4_take 0 = .ok (.aload_n 0, 1) := by decide +kernel
theorem dX4_take_1 : decode cX4_take 1 = .ok (.getfield 10, 3) := by decide +kernel
theorem dX4_take_4 : decode cX4_take 4 = .ok (.iload_n 2, 1) := by decide +kernel
theorem dX4_take_5 : decode cX4_take 5 = .ok (.invokevirtual 16, 3) := by decide +kernel
theorem dX4_take_8 : decode cX4_take 8 = .ok (.iconst 0, 1) := by decide +kernel
theorem dX4_take_9 : decode cX4_take 9 = .ok (.istore_n 3, 1) := by decide +kernel
theorem dX4_take_10 : decode cX4_take 10 = .ok (.iload_n 3, 1) := by decide +kernel
theorem dX4_take_11 : decode cX4_take 11 = .ok (.aload_n 1, 1) := by decide +kernel
theorem dX4_take_12 : decode cX4_take 12 = .ok (.invokevirtual 20, 3) := by decide +kernel
theorem dX4_take_15 : decode cX4_take 15 = .ok (.if_icmp .ge 26, 3) := by decide +kernel
theorem dX4_take_18 : decode cX4_take 18 = .ok (.aload_n 0, 1) := by decide +kernel
theorem dX4_take_19 : decode cX4_take 19 = .ok (.getfield 10, 3) := by decide +kernel
theorem dX4_take_22 : decode cX4_take 22 = .ok (.aload_n 1, 1) := by decide +kernel
theorem dX4_take_23 : decode cX4_take 23 = .ok (.iload_n 3, 1) := by decide +kernel
theorem dX4_take_24 : decode cX4_take 24 = .ok (.invokevirtual 26, 3) := by decide +kernel
theorem dX4_take_27 : decode cX4_take 27 = .ok (.aload_n 1, 1) := by decide +kernel
theorem dX4_take_28 : decode cX4_take 28 = .ok (.iload_n 3, 1) := by decide +kernel
theorem dX4_take_29 : decode cX4_take 29 = .ok (.invokevirtual 26, 3) := by decide +kernel
theorem dX4_take_32 : decode cX4_take 32 = .ok (.invokevirtual 30, 3) := by decide +kernel
theorem dX4_take_35 : decode cX4_take 35 = .ok (.iinc 3 1, 3) := by decide +kernel
theorem dX4_take_38 : decode cX4_take 38 = .ok (.goto (-28), 3) := by decide +kernel
theorem dX4_take_41 : decode cX4_take 41 = .ok (.return_, 1) := by decide +kernel
theorem dX4_least_0 : decode cX4_least 0 = .ok (.aload_n 0, 1) := by decide +kernel
theorem dX4_least_1 : decode cX4_least 1 = .ok (.getfield 10, 3) := by decide +kernel
theorem dX4_least_4 : decode cX4_least 4 = .ok (.iload_n 1, 1) := by decide +kernel
theorem dX4_least_5 : decode cX4_least 5 = .ok (.invokevirtual 34, 3) := by decide +kernel
theorem dX4_least_8 : decode cX4_least 8 = .ok (.ireturn, 1) := by decide +kernel
theorem dX4_reaches_0 : decode cX4_reaches 0 = .ok (.iload_n 1, 1) := by decide +kernel
theorem dX4_reaches_1 : decode cX4_reaches 1 = .ok (.ifCond .lt 24, 3) := by decide +kernel
theorem dX4_reaches_4 : decode cX4_reaches 4 = .ok (.aload_n 0, 1) := by decide +kernel
theorem dX4_reaches_5 : decode cX4_reaches 5 = .ok (.iload_n 1, 1) := by decide +kernel
theorem dX4_reaches_6 : decode cX4_reaches 6 = .ok (.aload_n 0, 1) := by decide +kernel
theorem dX4_reaches_7 : decode cX4_reaches 7 = .ok (.getfield 10, 3) := by decide +kernel
theorem dX4_reaches_10 : decode cX4_reaches 10 = .ok (.invokevirtual 37, 3) := by decide +kernel
theorem dX4_reaches_13 : decode cX4_reaches 13 = .ok (.irem, 1) := by decide +kernel
theorem dX4_reaches_14 : decode cX4_reaches 14 = .ok (.invokevirtual 40, 3) := by decide +kernel
theorem dX4_reaches_17 : decode cX4_reaches 17 = .ok (.iload_n 1, 1) := by decide +kernel
theorem dX4_reaches_18 : decode cX4_reaches 18 = .ok (.if_icmp .gt 7, 3) := by decide +kernel
theorem dX4_reaches_21 : decode cX4_reaches 21 = .ok (.iconst 1, 1) := by decide +kernel
theorem dX4_reaches_22 : decode cX4_reaches 22 = .ok (.goto 4, 3) := by decide +kernel
theorem dX4_reaches_25 : decode cX4_reaches 25 = .ok (.iconst 0, 1) := by decide +kernel
theorem dX4_reaches_26 : decode cX4_reaches 26 = .ok (.ireturn, 1) := by decide +kernel
theorem dX4_missing_0 : decode cX4_missing 0 = .ok (.iconst 0, 1) := by decide +kernel
theorem dX4_missing_1 : decode cX4_missing 1 = .ok (.istore_n 1, 1) := by decide +kernel
theorem dX4_missing_2 : decode cX4_missing 2 = .ok (.iconst 0, 1) := by decide +kernel
theorem dX4_missing_3 : decode cX4_missing 3 = .ok (.istore_n 2, 1) := by decide +kernel
theorem dX4_missing_4 : decode cX4_missing 4 = .ok (.iload_n 2, 1) := by decide +kernel
theorem dX4_missing_5 : decode cX4_missing 5 = .ok (.aload_n 0, 1) := by decide +kernel
theorem dX4_missing_6 : decode cX4_missing 6 = .ok (.getfield 10, 3) := by decide +kernel
theorem dX4_missing_9 : decode cX4_missing 9 = .ok (.invokevirtual 37, 3) := by decide +kernel
theorem dX4_missing_12 : decode cX4_missing 12 = .ok (.if_icmp .ge 25, 3) := by decide +kernel
theorem dX4_missing_15 : decode cX4_missing 15 = .ok (.iload_n 1, 1) := by decide +kernel
theorem dX4_missing_16 : decode cX4_missing 16 = .ok (.aload_n 0, 1) := by decide +kernel
theorem dX4_missing_17 : decode cX4_missing 17 = .ok (.iload_n 2, 1) := by decide +kernel
theorem dX4_missing_18 : decode cX4_missing 18 = .ok (.invokevirtual 40, 3) := by decide +kernel
theorem dX4_missing_21 : decode cX4_missing 21 = .ok (.aload_n 0, 1) := by decide +kernel
theorem dX4_missing_22 : decode cX4_missing 22 = .ok (.getfield 10, 3) := by decide +kernel
theorem dX4_missing_25 : decode cX4_missing 25 = .ok (.invokevirtual 37, 3) := by decide +kernel
theorem dX4_missing_28 : decode cX4_missing 28 = .ok (.idiv, 1) := by decide +kernel
theorem dX4_missing_29 : decode cX4_missing 29 = .ok (.iadd, 1) := by decide +kernel
theorem dX4_missing_30 : decode cX4_missing 30 = .ok (.istore_n 1, 1) := by decide +kernel
theorem dX4_missing_31 : decode cX4_missing 31 = .ok (.iinc 2 1, 3) := by decide +kernel
theorem dX4_missing_34 : decode cX4_missing 34 = .ok (.goto (-30), 3) := by decide +kernel
theorem dX4_missing_37 : decode cX4_missing 37 = .ok (.iload_n 1, 1) := by decide +kernel
theorem dX4_missing_38 : decode cX4_missing 38 = .ok (.ireturn, 1) := by decide +kernel
theorem dX4_lastMissing_0 : decode cX4_lastMissing 0 = .ok (.iconst 0, 1) := by decide +kernel
theorem dX4_lastMissing_1 : decode cX4_lastMissing 1 = .ok (.istore_n 1, 1) := by decide +kernel
theorem dX4_lastMissing_2 : decode cX4_lastMissing 2 = .ok (.iconst 0, 1) := by decide +kernel
theorem dX4_lastMissing_3 : decode cX4_lastMissing 3 = .ok (.istore_n 2, 1) := by decide +kernel
theorem dX4_lastMissing_4 : decode cX4_lastMissing 4 = .ok (.iload_n 2, 1) := by decide +kernel
theorem dX4_lastMissing_5 : decode cX4_lastMissing 5 = .ok (.aload_n 0, 1) := by decide +kernel
theorem dX4_lastMissing_6 : decode cX4_lastMissing 6 = .ok (.getfield 10, 3) := by decide +kernel
theorem dX4_lastMissing_9 : decode cX4_lastMissing 9 = .ok (.invokevirtual 37, 3) := by decide +kernel
theorem dX4_lastMissing_12 : decode cX4_lastMissing 12 = .ok (.if_icmp .ge 19, 3) := by decide +kernel
theorem dX4_lastMissing_15 : decode cX4_lastMissing 15 = .ok (.iload_n 1, 1) := by decide +kernel
theorem dX4_lastMissing_16 : decode cX4_lastMissing 16 = .ok (.aload_n 0, 1) := by decide +kernel
theorem dX4_lastMissing_17 : decode cX4_lastMissing 17 = .ok (.iload_n 2, 1) := by decide +kernel
theorem dX4_lastMissing_18 : decode cX4_lastMissing 18 = .ok (.invokevirtual 40, 3) := by decide +kernel
theorem dX4_lastMissing_21 : decode cX4_lastMissing 21 = .ok (.invokestatic 43, 3) := by decide +kernel
theorem dX4_lastMissing_24 : decode cX4_lastMissing 24 = .ok (.istore_n 1, 1) := by decide +kernel
theorem dX4_lastMissing_25 : decode cX4_lastMissing 25 = .ok (.iinc 2 1, 3) := by decide +kernel
theorem dX4_lastMissing_28 : decode cX4_lastMissing 28 = .ok (.goto (-24), 3) := by decide +kernel
theorem dX4_lastMissing_31 : decode cX4_lastMissing 31 = .ok (.iload_n 1, 1) := by decide +kernel
theorem dX4_lastMissing_32 : decode cX4_lastMissing 32 = .ok (.aload_n 0, 1) := by decide +kernel
theorem dX4_lastMissing_33 : decode cX4_lastMissing 33 = .ok (.getfield 10, 3) := by decide +kernel
theorem dX4_lastMissing_36 : decode cX4_lastMissing 36 = .ok (.invokevirtual 37, 3) := by decide +kernel
theorem dX4_lastMissing_39 : decode cX4_lastMissing 39 = .ok (.isub, 1) := by decide +kernel
theorem dX4_lastMissing_40 : decode cX4_lastMissing 40 = .ok (.ireturn, 1) := by decide +kernel
theorem dX4_missingAt_0 : decode cX4_missingAt 0 = .ok (.iconst 0, 1) := by decide +kernel
theorem dX4_missingAt_1 : decode cX4_missingAt 1 = .ok (.istore_n 3, 1) := by decide +kernel
theorem dX4_missingAt_2 : decode cX4_missingAt 2 = .ok (.iload_n 2, 1) := by decide +kernel
theorem dX4_missingAt_3 : decode cX4_missingAt 3 = .ok (.istore 4, 2) := by decide +kernel
theorem dX4_missingAt_5 : decode cX4_missingAt 5 = .ok (.iconst 0, 1) := by decide +kernel
theorem dX4_missingAt_6 : decode cX4_missingAt 6 = .ok (.istore 5, 2) := by decide +kernel
theorem dX4_missingAt_8 : decode cX4_missingAt 8 = .ok (.iload 5, 2) := by decide +kernel
theorem dX4_missingAt_10 : decode cX4_missingAt 10 = .ok (.bipush 32, 2) := by decide +kernel
theorem dX4_missingAt_12 : decode cX4_missingAt 12 = .ok (.if_icmp .ge 45, 3) := by decide +kernel
theorem dX4_missingAt_15 : decode cX4_missingAt 15 = .ok (.iload_n 3, 1) := by decide +kernel
theorem dX4_missingAt_16 : decode cX4_missingAt 16 = .ok (.iload 4, 2) := by decide +kernel
theorem dX4_missingAt_18 : decode cX4_missingAt 18 = .ok (.if_icmp .ge 39, 3) := by decide +kernel
theorem dX4_missingAt_21 : decode cX4_missingAt 21 = .ok (.iload_n 3, 1) := by decide +kernel
theorem dX4_missingAt_22 : decode cX4_missingAt 22 = .ok (.iload 4, 2) := by decide +kernel
theorem dX4_missingAt_24 : decode cX4_missingAt 24 = .ok (.iadd, 1) := by decide +kernel
theorem dX4_missingAt_25 : decode cX4_missingAt 25 = .ok (.iconst 2, 1) := by decide +kernel
theorem dX4_missingAt_26 : decode cX4_missingAt 26 = .ok (.idiv, 1) := by decide +kernel
theorem dX4_missingAt_27 : decode cX4_missingAt 27 = .ok (.istore 6, 2) := by decide +kernel
theorem dX4_missingAt_29 : decode cX4_missingAt 29 = .ok (.aload_n 0, 1) := by decide +kernel
theorem dX4_missingAt_30 : decode cX4_missingAt 30 = .ok (.iload 6, 2) := by decide +kernel
theorem dX4_missingAt_32 : decode cX4_missingAt 32 = .ok (.invokevirtual 49, 3) := by decide +kernel
theorem dX4_missingAt_35 : decode cX4_missingAt 35 = .ok (.iload_n 1, 1) := by decide +kernel
theorem dX4_missingAt_36 : decode cX4_missingAt 36 = .ok (.if_icmp .le 10, 3) := by decide +kernel
theorem dX4_missingAt_39 : decode cX4_missingAt 39 = .ok (.iload 6, 2) := by decide +kernel
theorem dX4_missingAt_41 : decode cX4_missingAt 41 = .ok (.istore 4, 2) := by decide +kernel
theorem dX4_missingAt_43 : decode cX4_missingAt 43 = .ok (.goto 8, 3) := by decide +kernel
theorem dX4_missingAt_46 : decode cX4_missingAt 46 = .ok (.iload 6, 2) := by decide +kernel
theorem dX4_missingAt_48 : decode cX4_missingAt 48 = .ok (.iconst 1, 1) := by decide +kernel
theorem dX4_missingAt_49 : decode cX4_missingAt 49 = .ok (.iadd, 1) := by decide +kernel
theorem dX4_missingAt_50 : decode cX4_missingAt 50 = .ok (.istore_n 3, 1) := by decide +kernel
theorem dX4_missingAt_51 : decode cX4_missingAt 51 = .ok (.iinc 5 1, 3) := by decide +kernel
theorem dX4_missingAt_54 : decode cX4_missingAt 54 = .ok (.goto (-46), 3) := by decide +kernel
theorem dX4_missingAt_57 : decode cX4_missingAt 57 = .ok (.iload_n 3, 1) := by decide +kernel
theorem dX4_missingAt_58 : decode cX4_missingAt 58 = .ok (.ireturn, 1) := by decide +kernel
theorem dX4_missingUpTo_0 : decode cX4_missingUpTo 0 = .ok (.iconst 0, 1) := by decide +kernel
theorem dX4_missingUpTo_1 : decode cX4_missingUpTo 1 = .ok (.istore_n 2, 1) := by decide +kernel
theorem dX4_missingUpTo_2 : decode cX4_missingUpTo 2 = .ok (.iconst 0, 1) := by decide +kernel
theorem dX4_missingUpTo_3 : decode cX4_missingUpTo 3 = .ok (.istore_n 3, 1) := by decide +kernel
theorem dX4_missingUpTo_4 : decode cX4_missingUpTo 4 = .ok (.iload_n 3, 1) := by decide +kernel
theorem dX4_missingUpTo_5 : decode cX4_missingUpTo 5 = .ok (.aload_n 0, 1) := by decide +kernel
theorem dX4_missingUpTo_6 : decode cX4_missingUpTo 6 = .ok (.getfield 10, 3) := by decide +kernel
theorem dX4_missingUpTo_9 : decode cX4_missingUpTo 9 = .ok (.invokevirtual 37, 3) := by decide +kernel
theorem dX4_missingUpTo_12 : decode cX4_missingUpTo 12 = .ok (.if_icmp .ge 50, 3) := by decide +kernel
theorem dX4_missingUpTo_15 : decode cX4_missingUpTo 15 = .ok (.iload_n 3, 1) := by decide +kernel
theorem dX4_missingUpTo_16 : decode cX4_missingUpTo 16 = .ok (.iload_n 1, 1) := by decide +kernel
theorem dX4_missingUpTo_17 : decode cX4_missingUpTo 17 = .ok (.if_icmp .gt 45, 3) := by decide +kernel
theorem dX4_missingUpTo_20 : decode cX4_missingUpTo 20 = .ok (.iload_n 1, 1) := by decide +kernel
theorem dX4_missingUpTo_21 : decode cX4_missingUpTo 21 = .ok (.iload_n 3, 1) := by decide +kernel
theorem dX4_missingUpTo_22 : decode cX4_missingUpTo 22 = .ok (.isub, 1) := by decide +kernel
theorem dX4_missingUpTo_23 : decode cX4_missingUpTo 23 = .ok (.aload_n 0, 1) := by decide +kernel
theorem dX4_missingUpTo_24 : decode cX4_missingUpTo 24 = .ok (.getfield 10, 3) := by decide +kernel
theorem dX4_missingUpTo_27 : decode cX4_missingUpTo 27 = .ok (.invokevirtual 37, 3) := by decide +kernel
theorem dX4_missingUpTo_30 : decode cX4_missingUpTo 30 = .ok (.idiv, 1) := by decide +kernel
theorem dX4_missingUpTo_31 : decode cX4_missingUpTo 31 = .ok (.iconst 1, 1) := by decide +kernel
theorem dX4_missingUpTo_32 : decode cX4_missingUpTo 32 = .ok (.iadd, 1) := by decide +kernel
theorem dX4_missingUpTo_33 : decode cX4_missingUpTo 33 = .ok (.istore 4, 2) := by decide +kernel
theorem dX4_missingUpTo_35 : decode cX4_missingUpTo 35 = .ok (.iload_n 2, 1) := by decide +kernel
theorem dX4_missingUpTo_36 : decode cX4_missingUpTo 36 = .ok (.iload 4, 2) := by decide +kernel
theorem dX4_missingUpTo_38 : decode cX4_missingUpTo 38 = .ok (.aload_n 0, 1) := by decide +kernel
theorem dX4_missingUpTo_39 : decode cX4_missingUpTo 39 = .ok (.iload_n 3, 1) := by decide +kernel
theorem dX4_missingUpTo_40 : decode cX4_missingUpTo 40 = .ok (.invokevirtual 40, 3) := by decide +kernel
theorem dX4_missingUpTo_43 : decode cX4_missingUpTo 43 = .ok (.aload_n 0, 1) := by decide +kernel
theorem dX4_missingUpTo_44 : decode cX4_missingUpTo 44 = .ok (.getfield 10, 3) := by decide +kernel
theorem dX4_missingUpTo_47 : decode cX4_missingUpTo 47 = .ok (.invokevirtual 37, 3) := by decide +kernel
theorem dX4_missingUpTo_50 : decode cX4_missingUpTo 50 = .ok (.idiv, 1) := by decide +kernel
theorem dX4_missingUpTo_51 : decode cX4_missingUpTo 51 = .ok (.invokestatic 52, 3) := by decide +kernel
theorem dX4_missingUpTo_54 : decode cX4_missingUpTo 54 = .ok (.iadd, 1) := by decide +kernel
theorem dX4_missingUpTo_55 : decode cX4_missingUpTo 55 = .ok (.istore_n 2, 1) := by decide +kernel
theorem dX4_missingUpTo_56 : decode cX4_missingUpTo 56 = .ok (.iinc 3 1, 3) := by decide +kernel
theorem dX4_missingUpTo_59 : decode cX4_missingUpTo 59 = .ok (.goto (-55), 3) := by decide +kernel
theorem dX4_missingUpTo_62 : decode cX4_missingUpTo 62 = .ok (.iload_n 2, 1) := by decide +kernel
theorem dX4_missingUpTo_63 : decode cX4_missingUpTo 63 = .ok (.ireturn, 1) := by decide +kernel
theorem dX5_init_0 : decode cX5_init 0 = .ok (.aload_n 0, 1) := by decide +kernel
theorem dX5_init_1 : decode cX5_init 1 = .ok (.invokespecial 3, 3) := by decide +kernel
theorem dX5_init_4 : decode cX5_init 4 = .ok (.aload_n 0, 1) := by decide +kernel
theorem dX5_init_5 : decode cX5_init 5 = .ok (.sipush 301, 3) := by decide +kernel
theorem dX5_init_8 : decode cX5_init 8 = .ok (.newarray .boolean, 2) := by decide +kernel
theorem dX5_init_10 : decode cX5_init 10 = .ok (.putfield 9, 3) := by decide +kernel
theorem dX5_init_13 : decode cX5_init 13 = .ok (.aload_n 0, 1) := by decide +kernel
theorem dX5_init_14 : decode cX5_init 14 = .ok (.sipush 301, 3) := by decide +kernel
theorem dX5_init_17 : decode cX5_init 17 = .ok (.newarray .boolean, 2) := by decide +kernel
theorem dX5_init_19 : decode cX5_init 19 = .ok (.putfield 15, 3) := by decide +kernel
theorem dX5_init_22 : decode cX5_init 22 = .ok (.aload_n 0, 1) := by decide +kernel
theorem dX5_init_23 : decode cX5_init 23 = .ok (.new 18, 3) := by decide +kernel
theorem dX5_init_26 : decode cX5_init 26 = .ok (.dup, 1) := by decide +kernel
theorem dX5_init_27 : decode cX5_init 27 = .ok (.invokespecial 20, 3) := by decide +kernel
theorem dX5_init_30 : decode cX5_init 30 = .ok (.putfield 21, 3) := by decide +kernel
theorem dX5_init_33 : decode cX5_init 33 = .ok (.return_, 1) := by decide +kernel
theorem dX5_picked_0 : decode cX5_picked 0 = .ok (.aload_n 0, 1) := by decide +kernel
theorem dX5_picked_1 : decode cX5_picked 1 = .ok (.getfield 21, 3) := by decide +kernel
theorem dX5_picked_4 : decode cX5_picked 4 = .ok (.areturn, 1) := by decide +kernel
theorem dX5_clear_0 : decode cX5_clear 0 = .ok (.iconst 0, 1) := by decide +kernel
theorem dX5_clear_1 : decode cX5_clear 1 = .ok (.istore_n 1, 1) := by decide +kernel
theorem dX5_clear_2 : decode cX5_clear 2 = .ok (.iload_n 1, 1) := by decide +kernel
theorem dX5_clear_3 : decode cX5_clear 3 = .ok (.sipush 300, 3) := by decide +kernel
theorem dX5_clear_6 : decode cX5_clear 6 = .ok (.if_icmp .gt 16, 3) := by decide +kernel
theorem dX5_clear_9 : decode cX5_clear 9 = .ok (.aload_n 0, 1) := by decide +kernel
theorem dX5_clear_10 : decode cX5_clear 10 = .ok (.getfield 9, 3) := by decide +kernel
theorem dX5_clear_13 : decode cX5_clear 13 = .ok (.iload_n 1, 1) := by decide +kernel
theorem dX5_clear_14 : decode cX5_clear 14 = .ok (.iconst 0, 1) := by decide +kernel
theorem dX5_clear_15 : decode cX5_clear 15 = .ok (.bastore, 1) := by decide +kernel
theorem dX5_clear_16 : decode cX5_clear 16 = .ok (.iinc 1 1, 3) := by decide +kernel
theorem dX5_clear_19 : decode cX5_clear 19 = .ok (.goto (-17), 3) := by decide +kernel
theorem dX5_clear_22 : decode cX5_clear 22 = .ok (.return_, 1) := by decide +kernel
theorem dX5_offer_0 : decode cX5_offer 0 = .ok (.iload_n 1, 1) := by decide +kernel
theorem dX5_offer_1 : decode cX5_offer 1 = .ok (.iconst 1, 1) := by decide +kernel
theorem dX5_offer_2 : decode cX5_offer 2 = .ok (.if_icmp .lt 17, 3) := by decide +kernel
theorem dX5_offer_5 : decode cX5_offer 5 = .ok (.iload_n 1, 1) := by decide +kernel
theorem dX5_offer_6 : decode cX5_offer 6 = .ok (.sipush 300, 3) := by decide +kernel
theorem dX5_offer_9 : decode cX5_offer 9 = .ok (.if_icmp .gt 10, 3) := by decide +kernel
theorem dX5_offer_12 : decode cX5_offer 12 = .ok (.aload_n 0, 1) := by decide +kernel
theorem dX5_offer_13 : decode cX5_offer 13 = .ok (.getfield 9, 3) := by decide +kernel
theorem dX5_offer_16 : decode cX5_offer 16 = .ok (.iload_n 1, 1) := by decide +kernel
theorem dX5_offer_17 : decode cX5_offer 17 = .ok (.iconst 1, 1) := by decide +kernel
theorem dX5_offer_18 : decode cX5_offer 18 = .ok (.bastore, 1) := by decide +kernel
theorem dX5_offer_19 : decode cX5_offer 19 = .ok (.return_, 1) := by decide +kernel
theorem dX5_offerAll_0 : decode cX5_offerAll 0 = .ok (.iconst 0, 1) := by decide +kernel
theorem dX5_offerAll_1 : decode cX5_offerAll 1 = .ok (.istore_n 2, 1) := by decide +kernel
theorem dX5_offerAll_2 : decode cX5_offerAll 2 = .ok (.iload_n 2, 1) := by decide +kernel
theorem dX5_offerAll_3 : decode cX5_offerAll 3 = .ok (.aload_n 1, 1) := by decide +kernel
theorem dX5_offerAll_4 : decode cX5_offerAll 4 = .ok (.invokevirtual 25, 3) := by decide +kernel
theorem dX5_offerAll_7 : decode cX5_offerAll 7 = .ok (.if_icmp .ge 18, 3) := by decide +kernel
theorem dX5_offerAll_10 : decode cX5_offerAll 10 = .ok (.aload_n 0, 1) := by decide +kernel
theorem dX5_offerAll_11 : decode cX5_offerAll 11 = .ok (.aload_n 1, 1) := by decide +kernel
theorem dX5_offerAll_12 : decode cX5_offerAll 12 = .ok (.iload_n 2, 1) := by decide +kernel
theorem dX5_offerAll_13 : decode cX5_offerAll 13 = .ok (.invokevirtual 29, 3) := by decide +kernel
theorem dX5_offerAll_16 : decode cX5_offerAll 16 = .ok (.invokevirtual 33, 3) := by decide +kernel
theorem dX5_offerAll_19 : decode cX5_offerAll 19 = .ok (.iinc 2 1, 3) := by decide +kernel
theorem dX5_offerAll_22 : decode cX5_offerAll 22 = .ok (.goto (-20), 3) := by decide +kernel
theorem dX5_offerAll_25 : decode cX5_offerAll 25 = .ok (.return_, 1) := by decide +kernel
theorem dX5_pick_0 : decode cX5_pick 0 = .ok (.aload_n 0, 1) := by decide +kernel
theorem dX5_pick_1 : decode cX5_pick 1 = .ok (.getfield 21, 3) := by decide +kernel
theorem dX5_pick_4 : decode cX5_pick 4 = .ok (.invokevirtual 37, 3) := by decide +kernel
theorem dX5_pick_7 : decode cX5_pick 7 = .ok (.iconst 0, 1) := by decide +kernel
theorem dX5_pick_8 : decode cX5_pick 8 = .ok (.istore_n 1, 1) := by decide +kernel
theorem dX5_pick_9 : decode cX5_pick 9 = .ok (.iload_n 1, 1) := by decide +kernel
theorem dX5_pick_10 : decode cX5_pick 10 = .ok (.sipush 300, 3) := by decide +kernel
theorem dX5_pick_13 : decode cX5_pick 13 = .ok (.if_icmp .gt 24, 3) := by decide +kernel
theorem dX5_pick_16 : decode cX5_pick 16 = .ok (.aload_n 0, 1) := by decide +kernel
theorem dX5_pick_17 : decode cX5_pick 17 = .ok (.getfield 15, 3) := by decide +kernel
theorem dX5_pick_20 : decode cX5_pick 20 = .ok (.iload_n 1, 1) := by decide +kernel
theorem dX5_pick_21 : decode cX5_pick 21 = .ok (.iload_n 1, 1) := by decide +kernel
theorem dX5_pick_22 : decode cX5_pick 22 = .ok (.ifCond .ne 7, 3) := by decide +kernel
theorem dX5_pick_25 : decode cX5_pick 25 = .ok (.iconst 1, 1) := by decide +kernel
theorem dX5_pick_26 : decode cX5_pick 26 = .ok (.goto 4, 3) := by decide +kernel
theorem dX5_pick_29 : decode cX5_pick 29 = .ok (.iconst 0, 1) := by decide +kernel
theorem dX5_pick_30 : decode cX5_pick 30 = .ok (.bastore, 1) := by decide +kernel
theorem dX5_pick_31 : decode cX5_pick 31 = .ok (.iinc 1 1, 3) := by decide +kernel
theorem dX5_pick_34 : decode cX5_pick 34 = .ok (.goto (-25), 3) := by decide +kernel
theorem dX5_pick_37 : decode cX5_pick 37 = .ok (.iconst 1, 1) := by decide +kernel
theorem dX5_pick_38 : decode cX5_pick 38 = .ok (.istore_n 1, 1) := by decide +kernel
theorem dX5_pick_39 : decode cX5_pick 39 = .ok (.iload_n 1, 1) := by decide +kernel
theorem dX5_pick_40 : decode cX5_pick 40 = .ok (.sipush 300, 3) := by decide +kernel
theorem dX5_pick_43 : decode cX5_pick 43 = .ok (.if_icmp .gt 45, 3) := by decide +kernel
theorem dX5_pick_46 : decode cX5_pick 46 = .ok (.aload_n 0, 1) := by decide +kernel
theorem dX5_pick_47 : decode cX5_pick 47 = .ok (.getfield 9, 3) := by decide +kernel
theorem dX5_pick_50 : decode cX5_pick 50 = .ok (.iload_n 1, 1) := by decide +kernel
theorem dX5_pick_51 : decode cX5_pick 51 = .ok (.baload, 1) := by decide +kernel
theorem dX5_pick_52 : decode cX5_pick 52 = .ok (.ifCond .eq 30, 3) := by decide +kernel
theorem dX5_pick_55 : decode cX5_pick 55 = .ok (.aload_n 0, 1) := by decide +kernel
theorem dX5_pick_56 : decode cX5_pick 56 = .ok (.getfield 15, 3) := by decide +kernel
theorem dX5_pick_59 : decode cX5_pick 59 = .ok (.iload_n 1, 1) := by decide +kernel
theorem dX5_pick_60 : decode cX5_pick 60 = .ok (.baload, 1) := by decide +kernel
theorem dX5_pick_61 : decode cX5_pick 61 = .ok (.ifCond .ne 21, 3) := by decide +kernel
theorem dX5_pick_64 : decode cX5_pick 64 = .ok (.aload_n 0, 1) := by decide +kernel
theorem dX5_pick_65 : decode cX5_pick 65 = .ok (.getfield 21, 3) := by decide +kernel
theorem dX5_pick_68 : decode cX5_pick 68 = .ok (.iload_n 1, 1) := by decide +kernel
theorem dX5_pick_69 : decode cX5_pick 69 = .ok (.invokevirtual 40, 3) := by decide +kernel
theorem dX5_pick_72 : decode cX5_pick 72 = .ok (.ifCond .ne 5, 3) := by decide +kernel
theorem dX5_pick_75 : decode cX5_pick 75 = .ok (.iconst 0, 1) := by decide +kernel
theorem dX5_pick_76 : decode cX5_pick 76 = .ok (.ireturn, 1) := by decide +kernel
theorem dX5_pick_77 : decode cX5_pick 77 = .ok (.aload_n 0, 1) := by decide +kernel
theorem dX5_pick_78 : decode cX5_pick 78 = .ok (.iload_n 1, 1) := by decide +kernel
theorem dX5_pick_79 : decode cX5_pick 79 = .ok (.invokevirtual 44, 3) := by decide +kernel
theorem dX5_pick_82 : decode cX5_pick 82 = .ok (.iinc 1 1, 3) := by decide +kernel
theorem dX5_pick_85 : decode cX5_pick 85 = .ok (.goto (-46), 3) := by decide +kernel
theorem dX5_pick_88 : decode cX5_pick 88 = .ok (.iconst 1, 1) := by decide +kernel
theorem dX5_pick_89 : decode cX5_pick 89 = .ok (.ireturn, 1) := by decide +kernel
theorem dX5_payWith_0 : decode cX5_payWith 0 = .ok (.iload_n 1, 1) := by decide +kernel
theorem dX5_payWith_1 : decode cX5_payWith 1 = .ok (.istore_n 2, 1) := by decide +kernel
theorem dX5_payWith_2 : decode cX5_payWith 2 = .ok (.iload_n 2, 1) := by decide +kernel
theorem dX5_payWith_3 : decode cX5_payWith 3 = .ok (.sipush 300, 3) := by decide +kernel
theorem dX5_payWith_6 : decode cX5_payWith 6 = .ok (.if_icmp .gt 40, 3) := by decide +kernel
theorem dX5_payWith_9 : decode cX5_payWith 9 = .ok (.aload_n 0, 1) := by decide +kernel
theorem dX5_payWith_10 : decode cX5_payWith 10 = .ok (.getfield 15, 3) := by decide +kernel
theorem dX5_payWith_13 : decode cX5_payWith 13 = .ok (.iload_n 2, 1) := by decide +kernel
theorem dX5_payWith_14 : decode cX5_payWith 14 = .ok (.aload_n 0, 1) := by decide +kernel
theorem dX5_payWith_15 : decode cX5_payWith 15 = .ok (.getfield 15, 3) := by decide +kernel
theorem dX5_payWith_18 : decode cX5_payWith 18 = .ok (.iload_n 2, 1) := by decide +kernel
theorem dX5_payWith_19 : decode cX5_payWith 19 = .ok (.baload, 1) := by decide +kernel
theorem dX5_payWith_20 : decode cX5_payWith 20 = .ok (.ifCond .ne 14, 3) := by decide +kernel
theorem dX5_payWith_23 : decode cX5_payWith 23 = .ok (.aload_n 0, 1) := by decide +kernel
theorem dX5_payWith_24 : decode cX5_payWith 24 = .ok (.getfield 15, 3) := by decide +kernel
theorem dX5_payWith_27 : decode cX5_payWith 27 = .ok (.iload_n 2, 1) := by decide +kernel
theorem dX5_payWith_28 : decode cX5_payWith 28 = .ok (.iload_n 1, 1) := by decide +kernel
theorem dX5_payWith_29 : decode cX5_payWith 29 = .ok (.isub, 1) := by decide +kernel
theorem dX5_payWith_30 : decode cX5_payWith 30 = .ok (.baload, 1) := by decide +kernel
theorem dX5_payWith_31 : decode cX5_payWith 31 = .ok (.ifCond .eq 7, 3) := by decide +kernel
theorem dX5_payWith_34 : decode cX5_payWith 34 = .ok (.iconst 1, 1) := by decide +kernel
theorem dX5_payWith_35 : decode cX5_payWith 35 = .ok (.goto 4, 3) := by decide +kernel
theorem dX5_payWith_38 : decode cX5_payWith 38 = .ok (.iconst 0, 1) := by decide +kernel
theorem dX5_payWith_39 : decode cX5_payWith 39 = .ok (.bastore, 1) := by decide +kernel
theorem dX5_payWith_40 : decode cX5_payWith 40 = .ok (.iinc 2 1, 3) := by decide +kernel
theorem dX5_payWith_43 : decode cX5_payWith 43 = .ok (.goto (-41), 3) := by decide +kernel
theorem dX5_payWith_46 : decode cX5_payWith 46 = .ok (.return_, 1) := by decide +kernel
theorem dX6_init_0 : decode cX6_init 0 = .ok (.aload_n 0, 1) := by decide +kernel
theorem dX6_init_1 : decode cX6_init 1 = .ok (.invokespecial 3, 3) := by decide +kernel
theorem dX6_init_4 : decode cX6_init 4 = .ok (.aload_n 0, 1) := by decide +kernel
theorem dX6_init_5 : decode cX6_init 5 = .ok (.sipush 200, 3) := by decide +kernel
theorem dX6_init_8 : decode cX6_init 8 = .ok (.bipush 12, 2) := by decide +kernel
theorem dX6_init_10 : decode cX6_init 10 = .ok (.multianewarray 9 2, 4) := by decide +kernel
theorem dX6_init_14 : decode cX6_init 14 = .ok (.putfield 11, 3) := by decide +kernel
theorem dX6_init_17 : decode cX6_init 17 = .ok (.aload_n 0, 1) := by decide +kernel
theorem dX6_init_18 : decode cX6_init 18 = .ok (.sipush 200, 3) := by decide +kernel
theorem dX6_init_21 : decode cX6_init 21 = .ok (.newarray .int, 2) := by decide +kernel
theorem dX6_init_23 : decode cX6_init 23 = .ok (.putfield 16, 3) := by decide +kernel
theorem dX6_init_26 : decode cX6_init 26 = .ok (.aload_n 0, 1) := by decide +kernel
theorem dX6_init_27 : decode cX6_init 27 = .ok (.sipush 200, 3) := by decide +kernel
theorem dX6_init_30 : decode cX6_init 30 = .ok (.newarray .boolean, 2) := by decide +kernel
theorem dX6_init_32 : decode cX6_init 32 = .ok (.putfield 20, 3) := by decide +kernel
theorem dX6_init_35 : decode cX6_init 35 = .ok (.aload_n 0, 1) := by decide +kernel
theorem dX6_init_36 : decode cX6_init 36 = .ok (.new 24, 3) := by decide +kernel
theorem dX6_init_39 : decode cX6_init 39 = .ok (.dup, 1) := by decide +kernel
theorem dX6_init_40 : decode cX6_init 40 = .ok (.invokespecial 26, 3) := by decide +kernel
theorem dX6_init_43 : decode cX6_init 43 = .ok (.putfield 27, 3) := by decide +kernel
theorem dX6_init_46 : decode cX6_init 46 = .ok (.aload_n 0, 1) := by decide +kernel
theorem dX6_init_47 : decode cX6_init 47 = .ok (.iconst 0, 1) := by decide +kernel
theorem dX6_init_48 : decode cX6_init 48 = .ok (.putfield 31, 3) := by decide +kernel
theorem dX6_init_51 : decode cX6_init 51 = .ok (.return_, 1) := by decide +kernel
theorem dX6_list_0 : decode cX6_list 0 = .ok (.aload_n 0, 1) := by decide +kernel
theorem dX6_list_1 : decode cX6_list 1 = .ok (.iconst 0, 1) := by decide +kernel
theorem dX6_list_2 : decode cX6_list 2 = .ok (.iload_n 3, 1) := by decide +kernel
theorem dX6_list_3 : decode cX6_list 3 = .ok (.sipush 200, 3) := by decide +kernel
theorem dX6_list_6 : decode cX6_list 6 = .ok (.invokestatic 35, 3) := by decide +kernel
theorem dX6_list_9 : decode cX6_list 9 = .ok (.invokestatic 41, 3) := by decide +kernel
theorem dX6_list_12 : decode cX6_list 12 = .ok (.putfield 31, 3) := by decide +kernel
theorem dX6_list_15 : decode cX6_list 15 = .ok (.aload_n 0, 1) := by decide +kernel
theorem dX6_list_16 : decode cX6_list 16 = .ok (.getfield 27, 3) := by decide +kernel
theorem dX6_list_19 : decode cX6_list 19 = .ok (.aload_n 1, 1) := by decide +kernel
theorem dX6_list_20 : decode cX6_list 20 = .ok (.invokevirtual 44, 3) := by decide +kernel
theorem dX6_list_23 : decode cX6_list 23 = .ok (.invokevirtual 50, 3) := by decide +kernel
theorem dX6_list_26 : decode cX6_list 26 = .ok (.iconst 0, 1) := by decide +kernel
theorem dX6_list_27 : decode cX6_list 27 = .ok (.istore 4, 2) := by decide +kernel
theorem dX6_list_29 : decode cX6_list 29 = .ok (.iload 4, 2) := by decide +kernel
theorem dX6_list_31 : decode cX6_list 31 = .ok (.aload_n 0, 1) := by decide +kernel
theorem dX6_list_32 : decode cX6_list 32 = .ok (.getfield 31, 3) := by decide +kernel
theorem dX6_list_35 : decode cX6_list 35 = .ok (.if_icmp .ge 56, 3) := by decide +kernel
theorem dX6_list_38 : decode cX6_list 38 = .ok (.aload_n 1, 1) := by decide +kernel
theorem dX6_list_39 : decode cX6_list 39 = .ok (.iload_n 2, 1) := by decide +kernel
theorem dX6_list_40 : decode cX6_list 40 = .ok (.iload 4, 2) := by decide +kernel
theorem dX6_list_42 : decode cX6_list 42 = .ok (.i2l, 1) := by decide +kernel
theorem dX6_list_43 : decode cX6_list 43 = .ok (.aload_n 0, 1) := by decide +kernel
theorem dX6_list_44 : decode cX6_list 44 = .ok (.getfield 27, 3) := by decide +kernel
theorem dX6_list_47 : decode cX6_list 47 = .ok (.invokevirtual 54, 3) := by decide +kernel
theorem dX6_list_50 : decode cX6_list 50 = .ok (.iconst 0, 1) := by decide +kernel
theorem dX6_list_51 : decode cX6_list 51 = .ok (.istore 5, 2) := by decide +kernel
theorem dX6_list_53 : decode cX6_list 53 = .ok (.iload 5, 2) := by decide +kernel
theorem dX6_list_55 : decode cX6_list 55 = .ok (.bipush 12, 2) := by decide +kernel
theorem dX6_list_57 : decode cX6_list 57 = .ok (.if_icmp .ge 28, 3) := by decide +kernel
theorem dX6_list_60 : decode cX6_list 60 = .ok (.aload_n 0, 1) := by decide +kernel
theorem dX6_list_61 : decode cX6_list 61 = .ok (.getfield 11, 3) := by decide +kernel
theorem dX6_list_64 : decode cX6_list 64 = .ok (.iload 4, 2) := by decide +kernel
theorem dX6_list_66 : decode cX6_list 66 = .ok (.aaload, 1) := by decide +kernel
theorem dX6_list_67 : decode cX6_list 67 = .ok (.iload 5, 2) := by decide +kernel
theorem dX6_list_69 : decode cX6_list 69 = .ok (.aload_n 0, 1) := by decide +kernel
theorem dX6_list_70 : decode cX6_list 70 = .ok (.getfield 27, 3) := by decide +kernel
theorem dX6_list_73 : decode cX6_list 73 = .ok (.iload 5, 2) := by decide +kernel
theorem dX6_list_75 : decode cX6_list 75 = .ok (.invokevirtual 58, 3) := by decide +kernel
theorem dX6_list_78 : decode cX6_list 78 = .ok (.iastore, 1) := by decide +kernel
theorem dX6_list_79 : decode cX6_list 79 = .ok (.iinc 5 1, 3) := by decide +kernel
theorem dX6_list_82 : decode cX6_list 82 = .ok (.goto (-29), 3) := by decide +kernel
theorem dX6_list_85 : decode cX6_list 85 = .ok (.iinc 4 1, 3) := by decide +kernel
theorem dX6_list_88 : decode cX6_list 88 = .ok (.goto (-59), 3) := by decide +kernel
theorem dX6_list_91 : decode cX6_list 91 = .ok (.return_, 1) := by decide +kernel
theorem dX6_widestStep_0 : decode cX6_widestStep 0 = .ok (.iconst 0, 1) := by decide +kernel
theorem dX6_widestStep_1 : decode cX6_widestStep 1 = .ok (.istore_n 1, 1) := by decide +kernel
theorem dX6_widestStep_2 : decode cX6_widestStep 2 = .ok (.iload_n 1, 1) := by decide +kernel
theorem dX6_widestStep_3 : decode cX6_widestStep 3 = .ok (.aload_n 0, 1) := by decide +kernel
theorem dX6_widestStep_4 : decode cX6_widestStep 4 = .ok (.getfield 31, 3) := by decide +kernel
theorem dX6_widestStep_7 : decode cX6_widestStep 7 = .ok (.if_icmp .ge 36, 3) := by decide +kernel
theorem dX6_widestStep_10 : decode cX6_widestStep 10 = .ok (.aload_n 0, 1) := by decide +kernel
theorem dX6_widestStep_11 : decode cX6_widestStep 11 = .ok (.getfield 20, 3) := by decide +kernel
theorem dX6_widestStep_14 : decode cX6_widestStep 14 = .ok (.iload_n 1, 1) := by decide +kernel
theorem dX6_widestStep_15 : decode cX6_widestStep 15 = .ok (.iload_n 1, 1) := by decide +kernel
theorem dX6_widestStep_16 : decode cX6_widestStep 16 = .ok (.ifCond .ne 7, 3) := by decide +kernel
theorem dX6_widestStep_19 : decode cX6_widestStep 19 = .ok (.iconst 1, 1) := by decide +kernel
theorem dX6_widestStep_20 : decode cX6_widestStep 20 = .ok (.goto 4, 3) := by decide +kernel
theorem dX6_widestStep_23 : decode cX6_widestStep 23 = .ok (.iconst 0, 1) := by decide +kernel
theorem dX6_widestStep_24 : decode cX6_widestStep 24 = .ok (.bastore, 1) := by decide +kernel
theorem dX6_widestStep_25 : decode cX6_widestStep 25 = .ok (.aload_n 0, 1) := by decide +kernel
theorem dX6_widestStep_26 : decode cX6_widestStep 26 = .ok (.getfield 16, 3) := by decide +kernel
theorem dX6_widestStep_29 : decode cX6_widestStep 29 = .ok (.iload_n 1, 1) := by decide +kernel
theorem dX6_widestStep_30 : decode cX6_widestStep 30 = .ok (.aload_n 0, 1) := by decide +kernel
theorem dX6_widestStep_31 : decode cX6_widestStep 31 = .ok (.iconst 0, 1) := by decide +kernel
theorem dX6_widestStep_32 : decode cX6_widestStep 32 = .ok (.iload_n 1, 1) := by decide +kernel
theorem dX6_widestStep_33 : decode cX6_widestStep 33 = .ok (.invokevirtual 62, 3) := by decide +kernel
theorem dX6_widestStep_36 : decode cX6_widestStep 36 = .ok (.iastore, 1) := by decide +kernel
theorem dX6_widestStep_37 : decode cX6_widestStep 37 = .ok (.iinc 1 1, 3) := by decide +kernel
theorem dX6_widestStep_40 : decode cX6_widestStep 40 = .ok (.goto (-38), 3) := by decide +kernel
theorem dX6_widestStep_43 : decode cX6_widestStep 43 = .ok (.iconst 0, 1) := by decide +kernel
theorem dX6_widestStep_44 : decode cX6_widestStep 44 = .ok (.istore_n 1, 1) := by decide +kernel
theorem dX6_widestStep_45 : decode cX6_widestStep 45 = .ok (.iconst 1, 1) := by decide +kernel
theorem dX6_widestStep_46 : decode cX6_widestStep 46 = .ok (.istore_n 2, 1) := by decide +kernel
theorem dX6_widestStep_47 : decode cX6_widestStep 47 = .ok (.iload_n 2, 1) := by decide +kernel
theorem dX6_widestStep_48 : decode cX6_widestStep 48 = .ok (.aload_n 0, 1) := by decide +kernel
theorem dX6_widestStep_49 : decode cX6_widestStep 49 = .ok (.getfield 31, 3) := by decide +kernel
theorem dX6_widestStep_52 : decode cX6_widestStep 52 = .ok (.if_icmp .ge 74, 3) := by decide +kernel
theorem dX6_widestStep_55 : decode cX6_widestStep 55 = .ok (.aload_n 0, 1) := by decide +kernel
theorem dX6_widestStep_56 : decode cX6_widestStep 56 = .ok (.invokevirtual 65, 3) := by decide +kernel
theorem dX6_widestStep_59 : decode cX6_widestStep 59 = .ok (.istore_n 3, 1) := by decide +kernel
theorem dX6_widestStep_60 : decode cX6_widestStep 60 = .ok (.iload_n 1, 1) := by decide +kernel
theorem dX6_widestStep_61 : decode cX6_widestStep 61 = .ok (.aload_n 0, 1) := by decide +kernel
theorem dX6_widestStep_62 : decode cX6_widestStep 62 = .ok (.getfield 16, 3) := by decide +kernel
theorem dX6_widestStep_65 : decode cX6_widestStep 65 = .ok (.iload_n 3, 1) := by decide +kernel
theorem dX6_widestStep_66 : decode cX6_widestStep 66 = .ok (.iaload, 1) := by decide +kernel
theorem dX6_widestStep_67 : decode cX6_widestStep 67 = .ok (.invokestatic 41, 3) := by decide +kernel
theorem dX6_widestStep_70 : decode cX6_widestStep 70 = .ok (.istore_n 1, 1) := by decide +kernel
theorem dX6_widestStep_71 : decode cX6_widestStep 71 = .ok (.aload_n 0, 1) := by decide +kernel
theorem dX6_widestStep_72 : decode cX6_widestStep 72 = .ok (.getfield 20, 3) := by decide +kernel
theorem dX6_widestStep_75 : decode cX6_widestStep 75 = .ok (.iload_n 3, 1) := by decide +kernel
theorem dX6_widestStep_76 : decode cX6_widestStep 76 = .ok (.iconst 1, 1) := by decide +kernel
theorem dX6_widestStep_77 : decode cX6_widestStep 77 = .ok (.bastore, 1) := by decide +kernel
theorem dX6_widestStep_78 : decode cX6_widestStep 78 = .ok (.iconst 0, 1) := by decide +kernel
theorem dX6_widestStep_79 : decode cX6_widestStep 79 = .ok (.istore 4, 2) := by decide +kernel
theorem dX6_widestStep_81 : decode cX6_widestStep 81 = .ok (.iload 4, 2) := by decide +kernel
theorem dX6_widestStep_83 : decode cX6_widestStep 83 = .ok (.aload_n 0, 1) := by decide +kernel
theorem dX6_widestStep_84 : decode cX6_widestStep 84 = .ok (.getfield 31, 3) := by decide +kernel
theorem dX6_widestStep_87 : decode cX6_widestStep 87 = .ok (.if_icmp .ge 33, 3) := by decide +kernel
theorem dX6_widestStep_90 : decode cX6_widestStep 90 = .ok (.aload_n 0, 1) := by decide +kernel
theorem dX6_widestStep_91 : decode cX6_widestStep 91 = .ok (.getfield 16, 3) := by decide +kernel
theorem dX6_widestStep_94 : decode cX6_widestStep 94 = .ok (.iload 4, 2) := by decide +kernel
theorem dX6_widestStep_96 : decode cX6_widestStep 96 = .ok (.aload_n 0, 1) := by decide +kernel
theorem dX6_widestStep_97 : decode cX6_widestStep 97 = .ok (.getfield 16, 3) := by decide +kernel
theorem dX6_widestStep_100 : decode cX6_widestStep 100 = .ok (.iload 4, 2) := by decide +kernel
theorem dX6_widestStep_102 : decode cX6_widestStep 102 = .ok (.iaload, 1) := by decide +kernel
theorem dX6_widestStep_103 : decode cX6_widestStep 103 = .ok (.aload_n 0, 1) := by decide +kernel
theorem dX6_widestStep_104 : decode cX6_widestStep 104 = .ok (.iload_n 3, 1) := by decide +kernel
theorem dX6_widestStep_105 : decode cX6_widestStep 105 = .ok (.iload 4, 2) := by decide +kernel
theorem dX6_widestStep_107 : decode cX6_widestStep 107 = .ok (.invokevirtual 62, 3) := by decide +kernel
theorem dX6_widestStep_110 : decode cX6_widestStep 110 = .ok (.invokestatic 35, 3) := by decide +kernel
theorem dX6_widestStep_113 : decode cX6_widestStep 113 = .ok (.iastore, 1) := by decide +kernel
theorem dX6_widestStep_114 : decode cX6_widestStep 114 = .ok (.iinc 4 1, 3) := by decide +kernel
theorem dX6_widestStep_117 : decode cX6_widestStep 117 = .ok (.goto (-36), 3) := by decide +kernel
theorem dX6_widestStep_120 : decode cX6_widestStep 120 = .ok (.iinc 2 1, 3) := by decide +kernel
theorem dX6_widestStep_123 : decode cX6_widestStep 123 = .ok (.goto (-76), 3) := by decide +kernel
theorem dX6_widestStep_126 : decode cX6_widestStep 126 = .ok (.iload_n 1, 1) := by decide +kernel
theorem dX6_widestStep_127 : decode cX6_widestStep 127 = .ok (.ireturn, 1) := by decide +kernel
theorem dX6_nearestLeft_0 : decode cX6_nearestLeft 0 = .ok (.iconst (-1), 1) := by decide +kernel
theorem dX6_nearestLeft_1 : decode cX6_nearestLeft 1 = .ok (.istore_n 1, 1) := by decide +kernel
theorem dX6_nearestLeft_2 : decode cX6_nearestLeft 2 = .ok (.iconst 0, 1) := by decide +kernel
theorem dX6_nearestLeft_3 : decode cX6_nearestLeft 3 = .ok (.istore_n 2, 1) := by decide +kernel
theorem dX6_nearestLeft_4 : decode cX6_nearestLeft 4 = .ok (.iload_n 2, 1) := by decide +kernel
theorem dX6_nearestLeft_5 : decode cX6_nearestLeft 5 = .ok (.aload_n 0, 1) := by decide +kernel
theorem dX6_nearestLeft_6 : decode cX6_nearestLeft 6 = .ok (.getfield 31, 3) := by decide +kernel
theorem dX6_nearestLeft_9 : decode cX6_nearestLeft 9 = .ok (.if_icmp .ge 40, 3) := by decide +kernel
theorem dX6_nearestLeft_12 : decode cX6_nearestLeft 12 = .ok (.aload_n 0, 1) := by decide +kernel
theorem dX6_nearestLeft_13 : decode cX6_nearestLeft 13 = .ok (.getfield 20, 3) := by decide +kernel
theorem dX6_nearestLeft_16 : decode cX6_nearestLeft 16 = .ok (.iload_n 2, 1) := by decide +kernel
theorem dX6_nearestLeft_17 : decode cX6_nearestLeft 17 = .ok (.baload, 1) := by decide +kernel
theorem dX6_nearestLeft_18 : decode cX6_nearestLeft 18 = .ok (.ifCond .ne 25, 3) := by decide +kernel
theorem dX6_nearestLeft_21 : decode cX6_nearestLeft 21 = .ok (.iload_n 1, 1) := by decide +kernel
theorem dX6_nearestLeft_22 : decode cX6_nearestLeft 22 = .ok (.iconst (-1), 1) := by decide +kernel
theorem dX6_nearestLeft_23 : decode cX6_nearestLeft 23 = .ok (.if_icmp .eq 18, 3) := by decide +kernel
theorem dX6_nearestLeft_26 : decode cX6_nearestLeft 26 = .ok (.aload_n 0, 1) := by decide +kernel
theorem dX6_nearestLeft_27 : decode cX6_nearestLeft 27 = .ok (.getfield 16, 3) := by decide +kernel
theorem dX6_nearestLeft_30 : decode cX6_nearestLeft 30 = .ok (.iload_n 2, 1) := by decide +kernel
theorem dX6_nearestLeft_31 : decode cX6_nearestLeft 31 = .ok (.iaload, 1) := by decide +kernel
theorem dX6_nearestLeft_32 : decode cX6_nearestLeft 32 = .ok (.aload_n 0, 1) := by decide +kernel
theorem dX6_nearestLeft_33 : decode cX6_nearestLeft 33 = .ok (.getfield 16, 3) := by decide +kernel
theorem dX6_nearestLeft_36 : decode cX6_nearestLeft 36 = .ok (.iload_n 1, 1) := by decide +kernel
theorem dX6_nearestLeft_37 : decode cX6_nearestLeft 37 = .ok (.iaload, 1) := by decide +kernel
theorem dX6_nearestLeft_38 : decode cX6_nearestLeft 38 = .ok (.if_icmp .ge 5, 3) := by decide +kernel
theorem dX6_nearestLeft_41 : decode cX6_nearestLeft 41 = .ok (.iload_n 2, 1) := by decide +kernel
theorem dX6_nearestLeft_42 : decode cX6_nearestLeft 42 = .ok (.istore_n 1, 1) := by decide +kernel
theorem dX6_nearestLeft_43 : decode cX6_nearestLeft 43 = .ok (.iinc 2 1, 3) := by decide +kernel
theorem dX6_nearestLeft_46 : decode cX6_nearestLeft 46 = .ok (.goto (-42), 3) := by decide +kernel
theorem dX6_nearestLeft_49 : decode cX6_nearestLeft 49 = .ok (.iconst 0, 1) := by decide +kernel
theorem dX6_nearestLeft_50 : decode cX6_nearestLeft 50 = .ok (.iload_n 1, 1) := by decide +kernel
theorem dX6_nearestLeft_51 : decode cX6_nearestLeft 51 = .ok (.invokestatic 41, 3) := by decide +kernel
theorem dX6_nearestLeft_54 : decode cX6_nearestLeft 54 = .ok (.ireturn, 1) := by decide +kernel
theorem dX6_difference_0 : decode cX6_difference 0 = .ok (.iconst 0, 1) := by decide +kernel
theorem dX6_difference_1 : decode cX6_difference 1 = .ok (.istore_n 3, 1) := by decide +kernel
theorem dX6_difference_2 : decode cX6_difference 2 = .ok (.iconst 0, 1) := by decide +kernel
theorem dX6_difference_3 : decode cX6_difference 3 = .ok (.istore 4, 2) := by decide +kernel
theorem dX6_difference_5 : decode cX6_difference 5 = .ok (.iconst 0, 1) := by decide +kernel
theorem dX6_difference_6 : decode cX6_difference 6 = .ok (.istore 5, 2) := by decide +kernel
theorem dX6_difference_8 : decode cX6_difference 8 = .ok (.iload 5, 2) := by decide +kernel
theorem dX6_difference_10 : decode cX6_difference 10 = .ok (.bipush 12, 2) := by decide +kernel
theorem dX6_difference_12 : decode cX6_difference 12 = .ok (.if_icmp .ge 51, 3) := by decide +kernel
theorem dX6_difference_15 : decode cX6_difference 15 = .ok (.aload_n 0, 1) := by decide +kernel
theorem dX6_difference_16 : decode cX6_difference 16 = .ok (.getfield 11, 3) := by decide +kernel
theorem dX6_difference_19 : decode cX6_difference 19 = .ok (.iload_n 1, 1) := by decide +kernel
theorem dX6_difference_20 : decode cX6_difference 20 = .ok (.aaload, 1) := by decide +kernel
theorem dX6_difference_21 : decode cX6_difference 21 = .ok (.iload 5, 2) := by decide +kernel
theorem dX6_difference_23 : decode cX6_difference 23 = .ok (.iaload, 1) := by decide +kernel
theorem dX6_difference_24 : decode cX6_difference 24 = .ok (.aload_n 0, 1) := by decide +kernel
theorem dX6_difference_25 : decode cX6_difference 25 = .ok (.getfield 11, 3) := by decide +kernel
theorem dX6_difference_28 : decode cX6_difference 28 = .ok (.iload_n 2, 1) := by decide +kernel
theorem dX6_difference_29 : decode cX6_difference 29 = .ok (.aaload, 1) := by decide +kernel
theorem dX6_difference_30 : decode cX6_difference 30 = .ok (.iload 5, 2) := by decide +kernel
theorem dX6_difference_32 : decode cX6_difference 32 = .ok (.iaload, 1) := by decide +kernel
theorem dX6_difference_33 : decode cX6_difference 33 = .ok (.isub, 1) := by decide +kernel
theorem dX6_difference_34 : decode cX6_difference 34 = .ok (.istore 6, 2) := by decide +kernel
theorem dX6_difference_36 : decode cX6_difference 36 = .ok (.iload_n 3, 1) := by decide +kernel
theorem dX6_difference_37 : decode cX6_difference 37 = .ok (.iconst 0, 1) := by decide +kernel
theorem dX6_difference_38 : decode cX6_difference 38 = .ok (.iload 6, 2) := by decide +kernel
theorem dX6_difference_40 : decode cX6_difference 40 = .ok (.invokestatic 41, 3) := by decide +kernel
theorem dX6_difference_43 : decode cX6_difference 43 = .ok (.iadd, 1) := by decide +kernel
theorem dX6_difference_44 : decode cX6_difference 44 = .ok (.istore_n 3, 1) := by decide +kernel
theorem dX6_difference_45 : decode cX6_difference 45 = .ok (.iload 4, 2) := by decide +kernel
theorem dX6_difference_47 : decode cX6_difference 47 = .ok (.iconst 0, 1) := by decide +kernel
theorem dX6_difference_48 : decode cX6_difference 48 = .ok (.iload 6, 2) := by decide +kernel
theorem dX6_difference_50 : decode cX6_difference 50 = .ok (.ineg, 1) := by decide +kernel
theorem dX6_difference_51 : decode cX6_difference 51 = .ok (.invokestatic 41, 3) := by decide +kernel
theorem dX6_difference_54 : decode cX6_difference 54 = .ok (.iadd, 1) := by decide +kernel
theorem dX6_difference_55 : decode cX6_difference 55 = .ok (.istore 4, 2) := by decide +kernel
theorem dX6_difference_57 : decode cX6_difference 57 = .ok (.iinc 5 1, 3) := by decide +kernel
theorem dX6_difference_60 : decode cX6_difference 60 = .ok (.goto (-52), 3) := by decide +kernel
theorem dX6_difference_63 : decode cX6_difference 63 = .ok (.iload_n 3, 1) := by decide +kernel
theorem dX6_difference_64 : decode cX6_difference 64 = .ok (.iload 4, 2) := by decide +kernel
theorem dX6_difference_66 : decode cX6_difference 66 = .ok (.invokestatic 41, 3) := by decide +kernel
theorem dX6_difference_69 : decode cX6_difference 69 = .ok (.ireturn, 1) := by decide +kernel
theorem dX7_init_0 : decode cX7_init 0 = .ok (.aload_n 0, 1) := by decide +kernel
theorem dX7_init_1 : decode cX7_init 1 = .ok (.invokespecial 3, 3) := by decide +kernel
theorem dX7_init_4 : decode cX7_init 4 = .ok (.aload_n 0, 1) := by decide +kernel
theorem dX7_init_5 : decode cX7_init 5 = .ok (.new 9, 3) := by decide +kernel
theorem dX7_init_8 : decode cX7_init 8 = .ok (.dup, 1) := by decide +kernel
theorem dX7_init_9 : decode cX7_init 9 = .ok (.invokespecial 11, 3) := by decide +kernel
theorem dX7_init_12 : decode cX7_init 12 = .ok (.putfield 12, 3) := by decide +kernel
theorem dX7_init_15 : decode cX7_init 15 = .ok (.aload_n 0, 1) := by decide +kernel
theorem dX7_init_16 : decode cX7_init 16 = .ok (.bipush 12, 2) := by decide +kernel
theorem dX7_init_18 : decode cX7_init 18 = .ok (.newarray .int, 2) := by decide +kernel
theorem dX7_init_20 : decode cX7_init 20 = .ok (.putfield 18, 3) := by decide +kernel
theorem dX7_init_23 : decode cX7_init 23 = .ok (.return_, 1) := by decide +kernel
theorem dX7_coins_0 : decode cX7_coins 0 = .ok (.aload_n 0, 1) := by decide +kernel
theorem dX7_coins_1 : decode cX7_coins 1 = .ok (.getfield 12, 3) := by decide +kernel
theorem dX7_coins_4 : decode cX7_coins 4 = .ok (.areturn, 1) := by decide +kernel
theorem dX7_often_0 : decode cX7_often 0 = .ok (.iload_n 1, 1) := by decide +kernel
theorem dX7_often_1 : decode cX7_often 1 = .ok (.ifCond .lt 23, 3) := by decide +kernel
theorem dX7_often_4 : decode cX7_often 4 = .ok (.iload_n 1, 1) := by decide +kernel
theorem dX7_often_5 : decode cX7_often 5 = .ok (.aload_n 0, 1) := by decide +kernel
theorem dX7_often_6 : decode cX7_often 6 = .ok (.getfield 12, 3) := by decide +kernel
theorem dX7_often_9 : decode cX7_often 9 = .ok (.invokevirtual 22, 3) := by decide +kernel
theorem dX7_often_12 : decode cX7_often 12 = .ok (.if_icmp .ge 12, 3) := by decide +kernel
theorem dX7_often_15 : decode cX7_often 15 = .ok (.aload_n 0, 1) := by decide +kernel
theorem dX7_often_16 : decode cX7_often 16 = .ok (.getfield 18, 3) := by decide +kernel
theorem dX7_often_19 : decode cX7_often 19 = .ok (.iload_n 1, 1) := by decide +kernel
theorem dX7_often_20 : decode cX7_often 20 = .ok (.iaload, 1) := by decide +kernel
theorem dX7_often_21 : decode cX7_often 21 = .ok (.goto 4, 3) := by decide +kernel
theorem dX7_often_24 : decode cX7_often 24 = .ok (.iconst 0, 1) := by decide +kernel
theorem dX7_often_25 : decode cX7_often 25 = .ok (.ireturn, 1) := by decide +kernel
theorem dX7_set_0 : decode cX7_set 0 = .ok (.iload_n 1, 1) := by decide +kernel
theorem dX7_set_1 : decode cX7_set 1 = .ok (.ifCond .lt 21, 3) := by decide +kernel
theorem dX7_set_4 : decode cX7_set 4 = .ok (.iload_n 1, 1) := by decide +kernel
theorem dX7_set_5 : decode cX7_set 5 = .ok (.aload_n 0, 1) := by decide +kernel
theorem dX7_set_6 : decode cX7_set 6 = .ok (.getfield 12, 3) := by decide +kernel
theorem dX7_set_9 : decode cX7_set 9 = .ok (.invokevirtual 22, 3) := by decide +kernel
theorem dX7_set_12 : decode cX7_set 12 = .ok (.if_icmp .ge 10, 3) := by decide +kernel
theorem dX7_set_15 : decode cX7_set 15 = .ok (.aload_n 0, 1) := by decide +kernel
theorem dX7_set_16 : decode cX7_set 16 = .ok (.getfield 18, 3) := by decide +kernel
theorem dX7_set_19 : decode cX7_set 19 = .ok (.iload_n 1, 1) := by decide +kernel
theorem dX7_set_20 : decode cX7_set 20 = .ok (.iload_n 2, 1) := by decide +kernel
theorem dX7_set_21 : decode cX7_set 21 = .ok (.iastore, 1) := by decide +kernel
theorem dX7_set_22 : decode cX7_set 22 = .ok (.return_, 1) := by decide +kernel
theorem dX7_refit_0 : decode cX7_refit 0 = .ok (.aload_n 0, 1) := by decide +kernel
theorem dX7_refit_1 : decode cX7_refit 1 = .ok (.getfield 12, 3) := by decide +kernel
theorem dX7_refit_4 : decode cX7_refit 4 = .ok (.aload_n 1, 1) := by decide +kernel
theorem dX7_refit_5 : decode cX7_refit 5 = .ok (.invokevirtual 26, 3) := by decide +kernel
theorem dX7_refit_8 : decode cX7_refit 8 = .ok (.aload_n 0, 1) := by decide +kernel
theorem dX7_refit_9 : decode cX7_refit 9 = .ok (.getfield 18, 3) := by decide +kernel
theorem dX7_refit_12 : decode cX7_refit 12 = .ok (.iconst 0, 1) := by decide +kernel
theorem dX7_refit_13 : decode cX7_refit 13 = .ok (.invokestatic 30, 3) := by decide +kernel
theorem dX7_refit_16 : decode cX7_refit 16 = .ok (.return_, 1) := by decide +kernel
theorem dX7_copy_0 : decode cX7_copy 0 = .ok (.aload_n 0, 1) := by decide +kernel
theorem dX7_copy_1 : decode cX7_copy 1 = .ok (.getfield 12, 3) := by decide +kernel
theorem dX7_copy_4 : decode cX7_copy 4 = .ok (.aload_n 1, 1) := by decide +kernel
theorem dX7_copy_5 : decode cX7_copy 5 = .ok (.invokevirtual 36, 3) := by decide +kernel
theorem dX7_copy_8 : decode cX7_copy 8 = .ok (.invokevirtual 26, 3) := by decide +kernel
theorem dX7_copy_11 : decode cX7_copy 11 = .ok (.iconst 0, 1) := by decide +kernel
theorem dX7_copy_12 : decode cX7_copy 12 = .ok (.istore_n 2, 1) := by decide +kernel
theorem dX7_copy_13 : decode cX7_copy 13 = .ok (.iload_n 2, 1) := by decide +kernel
theorem dX7_copy_14 : decode cX7_copy 14 = .ok (.bipush 12, 2) := by decide +kernel
theorem dX7_copy_16 : decode cX7_copy 16 = .ok (.if_icmp .ge 20, 3) := by decide +kernel
theorem dX7_copy_19 : decode cX7_copy 19 = .ok (.aload_n 0, 1) := by decide +kernel
theorem dX7_copy_20 : decode cX7_copy 20 = .ok (.getfield 18, 3) := by decide +kernel
theorem dX7_copy_23 : decode cX7_copy 23 = .ok (.iload_n 2, 1) := by decide +kernel
theorem dX7_copy_24 : decode cX7_copy 24 = .ok (.aload_n 1, 1) := by decide +kernel
theorem dX7_copy_25 : decode cX7_copy 25 = .ok (.iload_n 2, 1) := by decide +kernel
theorem dX7_copy_26 : decode cX7_copy 26 = .ok (.invokevirtual 39, 3) := by decide +kernel
theorem dX7_copy_29 : decode cX7_copy 29 = .ok (.iastore, 1) := by decide +kernel
theorem dX7_copy_30 : decode cX7_copy 30 = .ok (.iinc 2 1, 3) := by decide +kernel
theorem dX7_copy_33 : decode cX7_copy 33 = .ok (.goto (-20), 3) := by decide +kernel
theorem dX7_copy_36 : decode cX7_copy 36 = .ok (.return_, 1) := by decide +kernel
theorem dX7_alike_0 : decode cX7_alike 0 = .ok (.aload_n 0, 1) := by decide +kernel
theorem dX7_alike_1 : decode cX7_alike 1 = .ok (.getfield 12, 3) := by decide +kernel
theorem dX7_alike_4 : decode cX7_alike 4 = .ok (.aload_n 1, 1) := by decide +kernel
theorem dX7_alike_5 : decode cX7_alike 5 = .ok (.invokevirtual 36, 3) := by decide +kernel
theorem dX7_alike_8 : decode cX7_alike 8 = .ok (.invokevirtual 43, 3) := by decide +kernel
theorem dX7_alike_11 : decode cX7_alike 11 = .ok (.ifCond .ne 5, 3) := by decide +kernel
theorem dX7_alike_14 : decode cX7_alike 14 = .ok (.iconst 0, 1) := by decide +kernel
theorem dX7_alike_15 : decode cX7_alike 15 = .ok (.ireturn, 1) := by decide +kernel
theorem dX7_alike_16 : decode cX7_alike 16 = .ok (.iconst 0, 1) := by decide +kernel
theorem dX7_alike_17 : decode cX7_alike 17 = .ok (.istore_n 2, 1) := by decide +kernel
theorem dX7_alike_18 : decode cX7_alike 18 = .ok (.iload_n 2, 1) := by decide +kernel
theorem dX7_alike_19 : decode cX7_alike 19 = .ok (.aload_n 0, 1) := by decide +kernel
theorem dX7_alike_20 : decode cX7_alike 20 = .ok (.getfield 12, 3) := by decide +kernel
theorem dX7_alike_23 : decode cX7_alike 23 = .ok (.invokevirtual 22, 3) := by decide +kernel
theorem dX7_alike_26 : decode cX7_alike 26 = .ok (.if_icmp .ge 25, 3) := by decide +kernel
theorem dX7_alike_29 : decode cX7_alike 29 = .ok (.aload_n 0, 1) := by decide +kernel
theorem dX7_alike_30 : decode cX7_alike 30 = .ok (.getfield 18, 3) := by decide +kernel
theorem dX7_alike_33 : decode cX7_alike 33 = .ok (.iload_n 2, 1) := by decide +kernel
theorem dX7_alike_34 : decode cX7_alike 34 = .ok (.iaload, 1) := by decide +kernel
theorem dX7_alike_35 : decode cX7_alike 35 = .ok (.aload_n 1, 1) := by decide +kernel
theorem dX7_alike_36 : decode cX7_alike 36 = .ok (.iload_n 2, 1) := by decide +kernel
theorem dX7_alike_37 : decode cX7_alike 37 = .ok (.invokevirtual 39, 3) := by decide +kernel
theorem dX7_alike_40 : decode cX7_alike 40 = .ok (.if_icmp .eq 5, 3) := by decide +kernel
theorem dX7_alike_43 : decode cX7_alike 43 = .ok (.iconst 0, 1) := by decide +kernel
theorem dX7_alike_44 : decode cX7_alike 44 = .ok (.ireturn, 1) := by decide +kernel
theorem dX7_alike_45 : decode cX7_alike 45 = .ok (.iinc 2 1, 3) := by decide +kernel
theorem dX7_alike_48 : decode cX7_alike 48 = .ok (.goto (-30), 3) := by decide +kernel
theorem dX7_alike_51 : decode cX7_alike 51 = .ok (.iconst 1, 1) := by decide +kernel
theorem dX7_alike_52 : decode cX7_alike 52 = .ok (.ireturn, 1) := by decide +kernel
theorem dX7_total_0 : decode cX7_total 0 = .ok (.iconst 0, 1) := by decide +kernel
theorem dX7_total_1 : decode cX7_total 1 = .ok (.istore_n 1, 1) := by decide +kernel
theorem dX7_total_2 : decode cX7_total 2 = .ok (.iconst 0, 1) := by decide +kernel
theorem dX7_total_3 : decode cX7_total 3 = .ok (.istore_n 2, 1) := by decide +kernel
theorem dX7_total_4 : decode cX7_total 4 = .ok (.iload_n 2, 1) := by decide +kernel
theorem dX7_total_5 : decode cX7_total 5 = .ok (.aload_n 0, 1) := by decide +kernel
theorem dX7_total_6 : decode cX7_total 6 = .ok (.getfield 12, 3) := by decide +kernel
theorem dX7_total_9 : decode cX7_total 9 = .ok (.invokevirtual 22, 3) := by decide +kernel
theorem dX7_total_12 : decode cX7_total 12 = .ok (.if_icmp .ge 27, 3) := by decide +kernel
theorem dX7_total_15 : decode cX7_total 15 = .ok (.iload_n 1, 1) := by decide +kernel
theorem dX7_total_16 : decode cX7_total 16 = .ok (.aload_n 0, 1) := by decide +kernel
theorem dX7_total_17 : decode cX7_total 17 = .ok (.getfield 18, 3) := by decide +kernel
theorem dX7_total_20 : decode cX7_total 20 = .ok (.iload_n 2, 1) := by decide +kernel
theorem dX7_total_21 : decode cX7_total 21 = .ok (.iaload, 1) := by decide +kernel
theorem dX7_total_22 : decode cX7_total 22 = .ok (.aload_n 0, 1) := by decide +kernel
theorem dX7_total_23 : decode cX7_total 23 = .ok (.getfield 12, 3) := by decide +kernel
theorem dX7_total_26 : decode cX7_total 26 = .ok (.iload_n 2, 1) := by decide +kernel
theorem dX7_total_27 : decode cX7_total 27 = .ok (.invokevirtual 47, 3) := by decide +kernel
theorem dX7_total_30 : decode cX7_total 30 = .ok (.imul, 1) := by decide +kernel
theorem dX7_total_31 : decode cX7_total 31 = .ok (.iadd, 1) := by decide +kernel
theorem dX7_total_32 : decode cX7_total 32 = .ok (.istore_n 1, 1) := by decide +kernel
theorem dX7_total_33 : decode cX7_total 33 = .ok (.iinc 2 1, 3) := by decide +kernel
theorem dX7_total_36 : decode cX7_total 36 = .ok (.goto (-32), 3) := by decide +kernel
theorem dX7_total_39 : decode cX7_total 39 = .ok (.iload_n 1, 1) := by decide +kernel
theorem dX7_total_40 : decode cX7_total 40 = .ok (.ireturn, 1) := by decide +kernel
theorem dX7_alter_0 : decode cX7_alter 0 = .ok (.aload_n 0, 1) := by decide +kernel
theorem dX7_alter_1 : decode cX7_alter 1 = .ok (.getfield 12, 3) := by decide +kernel
theorem dX7_alter_4 : decode cX7_alter 4 = .ok (.iload_n 1, 1) := by decide +kernel
theorem dX7_alter_5 : decode cX7_alter 5 = .ok (.invokevirtual 50, 3) := by decide +kernel
theorem dX7_alter_8 : decode cX7_alter 8 = .ok (.istore_n 3, 1) := by decide +kernel
theorem dX7_alter_9 : decode cX7_alter 9 = .ok (.aload_n 0, 1) := by decide +kernel
theorem dX7_alter_10 : decode cX7_alter 10 = .ok (.getfield 12, 3) := by decide +kernel
theorem dX7_alter_13 : decode cX7_alter 13 = .ok (.iload_n 1, 1) := by decide +kernel
theorem dX7_alter_14 : decode cX7_alter 14 = .ok (.invokevirtual 53, 3) := by decide +kernel
theorem dX7_alter_17 : decode cX7_alter 17 = .ok (.ifCond .ne 62, 3) := by decide +kernel
theorem dX7_alter_20 : decode cX7_alter 20 = .ok (.aload_n 0, 1) := by decide +kernel
theorem dX7_alter_21 : decode cX7_alter 21 = .ok (.getfield 12, 3) := by decide +kernel
theorem dX7_alter_24 : decode cX7_alter 24 = .ok (.iload_n 1, 1) := by decide +kernel
theorem dX7_alter_25 : decode cX7_alter 25 = .ok (.invokevirtual 57, 3) := by decide +kernel
theorem dX7_alter_28 : decode cX7_alter 28 = .ok (.ifCond .ne 5, 3) := by decide +kernel
theorem dX7_alter_31 : decode cX7_alter 31 = .ok (.iconst 0, 1) := by decide +kernel
theorem dX7_alter_32 : decode cX7_alter 32 = .ok (.ireturn, 1) := by decide +kernel
theorem dX7_alter_33 : decode cX7_alter 33 = .ok (.aload_n 0, 1) := by decide +kernel
theorem dX7_alter_34 : decode cX7_alter 34 = .ok (.getfield 12, 3) := by decide +kernel
theorem dX7_alter_37 : decode cX7_alter 37 = .ok (.invokevirtual 22, 3) := by decide +kernel
theorem dX7_alter_40 : decode cX7_alter 40 = .ok (.iconst 1, 1) := by decide +kernel
theorem dX7_alter_41 : decode cX7_alter 41 = .ok (.isub, 1) := by decide +kernel
theorem dX7_alter_42 : decode cX7_alter 42 = .ok (.istore 4, 2) := by decide +kernel
theorem dX7_alter_44 : decode cX7_alter 44 = .ok (.iload 4, 2) := by decide +kernel
theorem dX7_alter_46 : decode cX7_alter 46 = .ok (.iload_n 3, 1) := by decide +kernel
theorem dX7_alter_47 : decode cX7_alter 47 = .ok (.if_icmp .le 25, 3) := by decide +kernel
theorem dX7_alter_50 : decode cX7_alter 50 = .ok (.aload_n 0, 1) := by decide +kernel
theorem dX7_alter_51 : decode cX7_alter 51 = .ok (.getfield 18, 3) := by decide +kernel
theorem dX7_alter_54 : decode cX7_alter 54 = .ok (.iload 4, 2) := by decide +kernel
theorem dX7_alter_56 : decode cX7_alter 56 = .ok (.aload_n 0, 1) := by decide +kernel
theorem dX7_alter_57 : decode cX7_alter 57 = .ok (.getfield 18, 3) := by decide +kernel
theorem dX7_alter_60 : decode cX7_alter 60 = .ok (.iload 4, 2) := by decide +kernel
theorem dX7_alter_62 : decode cX7_alter 62 = .ok (.iconst 1, 1) := by decide +kernel
theorem dX7_alter_63 : decode cX7_alter 63 = .ok (.isub, 1) := by decide +kernel
theorem dX7_alter_64 : decode cX7_alter 64 = .ok (.iaload, 1) := by decide +kernel
theorem dX7_alter_65 : decode cX7_alter 65 = .ok (.iastore, 1) := by decide +kernel
theorem dX7_alter_66 : decode cX7_alter 66 = .ok (.iinc 4 (-1), 3) := by decide +kernel
theorem dX7_alter_69 : decode cX7_alter 69 = .ok (.goto (-25), 3) := by decide +kernel
theorem dX7_alter_72 : decode cX7_alter 72 = .ok (.aload_n 0, 1) := by decide +kernel
theorem dX7_alter_73 : decode cX7_alter 73 = .ok (.getfield 18, 3) := by decide +kernel
theorem dX7_alter_76 : decode cX7_alter 76 = .ok (.iload_n 3, 1) := by decide +kernel
theorem dX7_alter_77 : decode cX7_alter 77 = .ok (.iconst 0, 1) := by decide +kernel
theorem dX7_alter_78 : decode cX7_alter 78 = .ok (.iastore, 1) := by decide +kernel
theorem dX7_alter_79 : decode cX7_alter 79 = .ok (.aload_n 0, 1) := by decide +kernel
theorem dX7_alter_80 : decode cX7_alter 80 = .ok (.getfield 18, 3) := by decide +kernel
theorem dX7_alter_83 : decode cX7_alter 83 = .ok (.iload_n 3, 1) := by decide +kernel
theorem dX7_alter_84 : decode cX7_alter 84 = .ok (.dup2, 1) := by decide +kernel
theorem dX7_alter_85 : decode cX7_alter 85 = .ok (.iaload, 1) := by decide +kernel
theorem dX7_alter_86 : decode cX7_alter 86 = .ok (.iload_n 2, 1) := by decide +kernel
theorem dX7_alter_87 : decode cX7_alter 87 = .ok (.iadd, 1) := by decide +kernel
theorem dX7_alter_88 : decode cX7_alter 88 = .ok (.iastore, 1) := by decide +kernel
theorem dX7_alter_89 : decode cX7_alter 89 = .ok (.aload_n 0, 1) := by decide +kernel
theorem dX7_alter_90 : decode cX7_alter 90 = .ok (.getfield 18, 3) := by decide +kernel
theorem dX7_alter_93 : decode cX7_alter 93 = .ok (.iload_n 3, 1) := by decide +kernel
theorem dX7_alter_94 : decode cX7_alter 94 = .ok (.iaload, 1) := by decide +kernel
theorem dX7_alter_95 : decode cX7_alter 95 = .ok (.bipush 20, 2) := by decide +kernel
theorem dX7_alter_97 : decode cX7_alter 97 = .ok (.if_icmp .gt 7, 3) := by decide +kernel
theorem dX7_alter_100 : decode cX7_alter 100 = .ok (.iconst 1, 1) := by decide +kernel
theorem dX7_alter_101 : decode cX7_alter 101 = .ok (.goto 4, 3) := by decide +kernel
theorem dX7_alter_104 : decode cX7_alter 104 = .ok (.iconst 0, 1) := by decide +kernel
theorem dX7_alter_105 : decode cX7_alter 105 = .ok (.ireturn, 1) := by decide +kernel
theorem dX8_init_0 : decode cX8_init 0 = .ok (.aload_n 0, 1) := by decide +kernel
theorem dX8_init_1 : decode cX8_init 1 = .ok (.invokespecial 3, 3) := by decide +kernel
theorem dX8_init_4 : decode cX8_init 4 = .ok (.aload_n 0, 1) := by decide +kernel
theorem dX8_init_5 : decode cX8_init 5 = .ok (.new 9, 3) := by decide +kernel
theorem dX8_init_8 : decode cX8_init 8 = .ok (.dup, 1) := by decide +kernel
theorem dX8_init_9 : decode cX8_init 9 = .ok (.invokespecial 11, 3) := by decide +kernel
theorem dX8_init_12 : decode cX8_init 12 = .ok (.putfield 12, 3) := by decide +kernel
theorem dX8_init_15 : decode cX8_init 15 = .ok (.aload_n 0, 1) := by decide +kernel
theorem dX8_init_16 : decode cX8_init 16 = .ok (.sipush 20001, 3) := by decide +kernel
theorem dX8_init_19 : decode cX8_init 19 = .ok (.newarray .long, 2) := by decide +kernel
theorem dX8_init_21 : decode cX8_init 21 = .ok (.putfield 18, 3) := by decide +kernel
theorem dX8_init_24 : decode cX8_init 24 = .ok (.aload_n 0, 1) := by decide +kernel
theorem dX8_init_25 : decode cX8_init 25 = .ok (.iconst 0, 1) := by decide +kernel
theorem dX8_init_26 : decode cX8_init 26 = .ok (.putfield 22, 3) := by decide +kernel
theorem dX8_init_29 : decode cX8_init 29 = .ok (.return_, 1) := by decide +kernel
theorem dX8_take_0 : decode cX8_take 0 = .ok (.aload_n 0, 1) := by decide +kernel
theorem dX8_take_1 : decode cX8_take 1 = .ok (.getfield 12, 3) := by decide +kernel
theorem dX8_take_4 : decode cX8_take 4 = .ok (.aload_n 1, 1) := by decide +kernel
theorem dX8_take_5 : decode cX8_take 5 = .ok (.invokevirtual 26, 3) := by decide +kernel
theorem dX8_take_8 : decode cX8_take 8 = .ok (.ifCond .eq 4, 3) := by decide +kernel
theorem dX8_take_11 : decode cX8_take 11 = .ok (.return_, 1) := by decide +kernel
theorem dX8_take_12 : decode cX8_take 12 = .ok (.aload_n 0, 1) := by decide +kernel
theorem dX8_take_13 : decode cX8_take 13 = .ok (.getfield 12, 3) := by decide +kernel
theorem dX8_take_16 : decode cX8_take 16 = .ok (.aload_n 1, 1) := by decide +kernel
theorem dX8_take_17 : decode cX8_take 17 = .ok (.invokevirtual 30, 3) := by decide +kernel
theorem dX8_take_20 : decode cX8_take 20 = .ok (.aload_n 0, 1) := by decide +kernel
theorem dX8_take_21 : decode cX8_take 21 = .ok (.getfield 18, 3) := by decide +kernel
theorem dX8_take_24 : decode cX8_take 24 = .ok (.ldc2_w 34, 3) := by decide +kernel
theorem dX8_take_27 : decode cX8_take 27 = .ok (.invokestatic 36, 3) := by decide +kernel
theorem dX8_take_30 : decode cX8_take 30 = .ok (.aload_n 0, 1) := by decide +kernel
theorem dX8_take_31 : decode cX8_take 31 = .ok (.getfield 18, 3) := by decide +kernel
theorem dX8_take_34 : decode cX8_take 34 = .ok (.iconst 0, 1) := by decide +kernel
theorem dX8_take_35 : decode cX8_take 35 = .ok (.lconst 0, 1) := by decide +kernel
theorem dX8_take_36 : decode cX8_take 36 = .ok (.lastore, 1) := by decide +kernel
theorem dX8_take_37 : decode cX8_take 37 = .ok (.aload_n 0, 1) := by decide +kernel
theorem dX8_take_38 : decode cX8_take 38 = .ok (.iconst 0, 1) := by decide +kernel
theorem dX8_take_39 : decode cX8_take 39 = .ok (.putfield 22, 3) := by decide +kernel
theorem dX8_take_42 : decode cX8_take 42 = .ok (.lconst 1, 1) := by decide +kernel
theorem dX8_take_43 : decode cX8_take 43 = .ok (.lstore_n 2, 1) := by decide +kernel
theorem dX8_take_44 : decode cX8_take 44 = .ok (.iconst 0, 1) := by decide +kernel
theorem dX8_take_45 : decode cX8_take 45 = .ok (.istore 4, 2) := by decide +kernel
theorem dX8_take_47 : decode cX8_take 47 = .ok (.iload 4, 2) := by decide +kernel
theorem dX8_take_49 : decode cX8_take 49 = .ok (.aload_n 0, 1) := by decide +kernel
theorem dX8_take_50 : decode cX8_take 50 = .ok (.getfield 12, 3) := by decide +kernel
theorem dX8_take_53 : decode cX8_take 53 = .ok (.invokevirtual 42, 3) := by decide +kernel
theorem dX8_take_56 : decode cX8_take 56 = .ok (.invokevirtual 46, 3) := by decide +kernel
theorem dX8_take_59 : decode cX8_take 59 = .ok (.if_icmp .ge 45, 3) := by decide +kernel
theorem dX8_take_62 : decode cX8_take 62 = .ok (.aload_n 0, 1) := by decide +kernel
theorem dX8_take_63 : decode cX8_take 63 = .ok (.aload_n 0, 1) := by decide +kernel
theorem dX8_take_64 : decode cX8_take 64 = .ok (.getfield 12, 3) := by decide +kernel
theorem dX8_take_67 : decode cX8_take 67 = .ok (.iload 4, 2) := by decide +kernel
theorem dX8_take_69 : decode cX8_take 69 = .ok (.invokevirtual 52, 3) := by decide +kernel
theorem dX8_take_72 : decode cX8_take 72 = .ok (.aload_n 0, 1) := by decide +kernel
theorem dX8_take_73 : decode cX8_take 73 = .ok (.getfield 12, 3) := by decide +kernel
theorem dX8_take_76 : decode cX8_take 76 = .ok (.invokevirtual 42, 3) := by decide +kernel
theorem dX8_take_79 : decode cX8_take 79 = .ok (.iload 4, 2) := by decide +kernel
theorem dX8_take_81 : decode cX8_take 81 = .ok (.invokevirtual 56, 3) := by decide +kernel
theorem dX8_take_84 : decode cX8_take 84 = .ok (.ldc2_w 59, 3) := by decide +kernel
theorem dX8_take_87 : decode cX8_take 87 = .ok (.lload_n 2, 1) := by decide +kernel
theorem dX8_take_88 : decode cX8_take 88 = .ok (.lsub, 1) := by decide +kernel
theorem dX8_take_89 : decode cX8_take 89 = .ok (.invokevirtual 61, 3) := by decide +kernel
theorem dX8_take_92 : decode cX8_take 92 = .ok (.lload_n 2, 1) := by decide +kernel
theorem dX8_take_93 : decode cX8_take 93 = .ok (.ldc2_w 65, 3) := by decide +kernel
theorem dX8_take_96 : decode cX8_take 96 = .ok (.lmul, 1) := by decide +kernel
theorem dX8_take_97 : decode cX8_take 97 = .ok (.lstore_n 2, 1) := by decide +kernel
theorem dX8_take_98 : decode cX8_take 98 = .ok (.iinc 4 1, 3) := by decide +kernel
theorem dX8_take_101 : decode cX8_take 101 = .ok (.goto (-54), 3) := by decide +kernel
theorem dX8_take_104 : decode cX8_take 104 = .ok (.return_, 1) := by decide +kernel
theorem dX8_allowAll_0 : decode cX8_allowAll 0 = .ok (.iload_n 1, 1) := by decide +kernel
theorem dX8_allowAll_1 : decode cX8_allowAll 1 = .ok (.istore 5, 2) := by decide +kernel
theorem dX8_allowAll_3 : decode cX8_allowAll 3 = .ok (.iconst 1, 1) := by decide +kernel
theorem dX8_allowAll_4 : decode cX8_allowAll 4 = .ok (.istore 6, 2) := by decide +kernel
theorem dX8_allowAll_6 : decode cX8_allowAll 6 = .ok (.iload 5, 2) := by decide +kernel
theorem dX8_allowAll_8 : decode cX8_allowAll 8 = .ok (.ifCond .le 48, 3) := by decide +kernel
theorem dX8_allowAll_11 : decode cX8_allowAll 11 = .ok (.iload 6, 2) := by decide +kernel
theorem dX8_allowAll_13 : decode cX8_allowAll 13 = .ok (.bipush 20, 2) := by decide +kernel
theorem dX8_allowAll_15 : decode cX8_allowAll 15 = .ok (.if_icmp .gt 41, 3) := by decide +kernel
theorem dX8_allowAll_18 : decode cX8_allowAll 18 = .ok (.iload 6, 2) := by decide +kernel
theorem dX8_allowAll_20 : decode cX8_allowAll 20 = .ok (.iload 5, 2) := by decide +kernel
theorem dX8_allowAll_22 : decode cX8_allowAll 22 = .ok (.invokestatic 67, 3) := by decide +kernel
theorem dX8_allowAll_25 : decode cX8_allowAll 25 = .ok (.istore 7, 2) := by decide +kernel
theorem dX8_allowAll_27 : decode cX8_allowAll 27 = .ok (.aload_n 0, 1) := by decide +kernel
theorem dX8_allowAll_28 : decode cX8_allowAll 28 = .ok (.iload 7, 2) := by decide +kernel
theorem dX8_allowAll_30 : decode cX8_allowAll 30 = .ok (.iload_n 2, 1) := by decide +kernel
theorem dX8_allowAll_31 : decode cX8_allowAll 31 = .ok (.imul, 1) := by decide +kernel
theorem dX8_allowAll_32 : decode cX8_allowAll 32 = .ok (.iload 7, 2) := by decide +kernel
theorem dX8_allowAll_34 : decode cX8_allowAll 34 = .ok (.i2l, 1) := by decide +kernel
theorem dX8_allowAll_35 : decode cX8_allowAll 35 = .ok (.lload_n 3, 1) := by decide +kernel
theorem dX8_allowAll_36 : decode cX8_allowAll 36 = .ok (.lmul, 1) := by decide +kernel
theorem dX8_allowAll_37 : decode cX8_allowAll 37 = .ok (.invokevirtual 73, 3) := by decide +kernel
theorem dX8_allowAll_40 : decode cX8_allowAll 40 = .ok (.iload 5, 2) := by decide +kernel
theorem dX8_allowAll_42 : decode cX8_allowAll 42 = .ok (.iload 7, 2) := by decide +kernel
theorem dX8_allowAll_44 : decode cX8_allowAll 44 = .ok (.isub, 1) := by decide +kernel
theorem dX8_allowAll_45 : decode cX8_allowAll 45 = .ok (.istore 5, 2) := by decide +kernel
theorem dX8_allowAll_47 : decode cX8_allowAll 47 = .ok (.iload 6, 2) := by decide +kernel
theorem dX8_allowAll_49 : decode cX8_allowAll 49 = .ok (.iconst 2, 1) := by decide +kernel
theorem dX8_allowAll_50 : decode cX8_allowAll 50 = .ok (.imul, 1) := by decide +kernel
theorem dX8_allowAll_51 : decode cX8_allowAll 51 = .ok (.istore 6, 2) := by decide +kernel
theorem dX8_allowAll_53 : decode cX8_allowAll 53 = .ok (.goto (-47), 3) := by decide +kernel
theorem dX8_allowAll_56 : decode cX8_allowAll 56 = .ok (.return_, 1) := by decide +kernel
theorem dX8_allow_0 : decode cX8_allow 0 = .ok (.iload_n 1, 1) := by decide +kernel
theorem dX8_allow_1 : decode cX8_allow 1 = .ok (.ifCond .lt 15, 3) := by decide +kernel
theorem dX8_allow_4 : decode cX8_allow 4 = .ok (.aload_n 0, 1) := by decide +kernel
theorem dX8_allow_5 : decode cX8_allow 5 = .ok (.getfield 22, 3) := by decide +kernel
theorem dX8_allow_8 : decode cX8_allow 8 = .ok (.iload_n 1, 1) := by decide +kernel
theorem dX8_allow_9 : decode cX8_allow 9 = .ok (.iadd, 1) := by decide +kernel
theorem dX8_allow_10 : decode cX8_allow 10 = .ok (.sipush 20000, 3) := by decide +kernel
theorem dX8_allow_13 : decode cX8_allow 13 = .ok (.if_icmp .le 4, 3) := by decide +kernel
theorem dX8_allow_16 : decode cX8_allow 16 = .ok (.return_, 1) := by decide +kernel
theorem dX8_allow_17 : decode cX8_allow 17 = .ok (.aload_n 0, 1) := by decide +kernel
theorem dX8_allow_18 : decode cX8_allow 18 = .ok (.dup, 1) := by decide +kernel
theorem dX8_allow_19 : decode cX8_allow 19 = .ok (.getfield 22, 3) := by decide +kernel
theorem dX8_allow_22 : decode cX8_allow 22 = .ok (.iload_n 1, 1) := by decide +kernel
theorem dX8_allow_23 : decode cX8_allow 23 = .ok (.iadd, 1) := by decide +kernel
theorem dX8_allow_24 : decode cX8_allow 24 = .ok (.putfield 22, 3) := by decide +kernel
theorem dX8_allow_27 : decode cX8_allow 27 = .ok (.aload_n 0, 1) := by decide +kernel
theorem dX8_allow_28 : decode cX8_allow 28 = .ok (.getfield 22, 3) := by decide +kernel
theorem dX8_allow_31 : decode cX8_allow 31 = .ok (.istore 4, 2) := by decide +kernel
theorem dX8_allow_33 : decode cX8_allow 33 = .ok (.iload 4, 2) := by decide +kernel
theorem dX8_allow_35 : decode cX8_allow 35 = .ok (.iload_n 1, 1) := by decide +kernel
theorem dX8_allow_36 : decode cX8_allow 36 = .ok (.if_icmp .lt 55, 3) := by decide +kernel
theorem dX8_allow_39 : decode cX8_allow 39 = .ok (.aload_n 0, 1) := by decide +kernel
theorem dX8_allow_40 : decode cX8_allow 40 = .ok (.getfield 18, 3) := by decide +kernel
theorem dX8_allow_43 : decode cX8_allow 43 = .ok (.iload 4, 2) := by decide +kernel
theorem dX8_allow_45 : decode cX8_allow 45 = .ok (.iload_n 1, 1) := by decide +kernel
theorem dX8_allow_46 : decode cX8_allow 46 = .ok (.isub, 1) := by decide +kernel
theorem dX8_allow_47 : decode cX8_allow 47 = .ok (.laload, 1) := by decide +kernel
theorem dX8_allow_48 : decode cX8_allow 48 = .ok (.lstore 5, 2) := by decide +kernel
theorem dX8_allow_50 : decode cX8_allow 50 = .ok (.lload 5, 2) := by decide +kernel
theorem dX8_allow_52 : decode cX8_allow 52 = .ok (.ldc2_w 34, 3) := by decide +kernel
theorem dX8_allow_55 : decode cX8_allow 55 = .ok (.lcmp, 1) := by decide +kernel
theorem dX8_allow_56 : decode cX8_allow 56 = .ok (.ifCond .eq 29, 3) := by decide +kernel
theorem dX8_allow_59 : decode cX8_allow 59 = .ok (.lload 5, 2) := by decide +kernel
theorem dX8_allow_61 : decode cX8_allow 61 = .ok (.lload_n 2, 1) := by decide +kernel
theorem dX8_allow_62 : decode cX8_allow 62 = .ok (.ladd, 1) := by decide +kernel
theorem dX8_allow_63 : decode cX8_allow 63 = .ok (.aload_n 0, 1) := by decide +kernel
theorem dX8_allow_64 : decode cX8_allow 64 = .ok (.getfield 18, 3) := by decide +kernel
theorem dX8_allow_67 : decode cX8_allow 67 = .ok (.iload 4, 2) := by decide +kernel
theorem dX8_allow_69 : decode cX8_allow 69 = .ok (.laload, 1) := by decide +kernel
theorem dX8_allow_70 : decode cX8_allow 70 = .ok (.lcmp, 1) := by decide +kernel
theorem dX8_allow_71 : decode cX8_allow 71 = .ok (.ifCond .ge 14, 3) := by decide +kernel
theorem dX8_allow_74 : decode cX8_allow 74 = .ok (.aload_n 0, 1) := by decide +kernel
theorem dX8_allow_75 : decode cX8_allow 75 = .ok (.getfield 18, 3) := by decide +kernel
theorem dX8_allow_78 : decode cX8_allow 78 = .ok (.iload 4, 2) := by decide +kernel
theorem dX8_allow_80 : decode cX8_allow 80 = .ok (.lload 5, 2) := by decide +kernel
theorem dX8_allow_82 : decode cX8_allow 82 = .ok (.lload_n 2, 1) := by decide +kernel
theorem dX8_allow_83 : decode cX8_allow 83 = .ok (.ladd, 1) := by decide +kernel
theorem dX8_allow_84 : decode cX8_allow 84 = .ok (.lastore, 1) := by decide +kernel
theorem dX8_allow_85 : decode cX8_allow 85 = .ok (.iinc 4 (-1), 3) := by decide +kernel
theorem dX8_allow_88 : decode cX8_allow 88 = .ok (.goto (-55), 3) := by decide +kernel
theorem dX8_allow_91 : decode cX8_allow 91 = .ok (.return_, 1) := by decide +kernel
theorem dX8_key_0 : decode cX8_key 0 = .ok (.iload_n 1, 1) := by decide +kernel
theorem dX8_key_1 : decode cX8_key 1 = .ok (.ifCond .lt 20, 3) := by decide +kernel
theorem dX8_key_4 : decode cX8_key 4 = .ok (.iload_n 1, 1) := by decide +kernel
theorem dX8_key_5 : decode cX8_key 5 = .ok (.aload_n 0, 1) := by decide +kernel
theorem dX8_key_6 : decode cX8_key 6 = .ok (.getfield 22, 3) := by decide +kernel
theorem dX8_key_9 : decode cX8_key 9 = .ok (.if_icmp .gt 12, 3) := by decide +kernel
theorem dX8_key_12 : decode cX8_key 12 = .ok (.aload_n 0, 1) := by decide +kernel
theorem dX8_key_13 : decode cX8_key 13 = .ok (.getfield 18, 3) := by decide +kernel
theorem dX8_key_16 : decode cX8_key 16 = .ok (.iload_n 1, 1) := by decide +kernel
theorem dX8_key_17 : decode cX8_key 17 = .ok (.laload, 1) := by decide +kernel
theorem dX8_key_18 : decode cX8_key 18 = .ok (.goto 6, 3) := by decide +kernel
theorem dX8_key_21 : decode cX8_key 21 = .ok (.ldc2_w 34, 3) := by decide +kernel
theorem dX8_key_24 : decode cX8_key 24 = .ok (.lreturn, 1) := by decide +kernel
theorem dX8_size_0 : decode cX8_size 0 = .ok (.aload_n 0, 1) := by decide +kernel
theorem dX8_size_1 : decode cX8_size 1 = .ok (.iload_n 1, 1) := by decide +kernel
theorem dX8_size_2 : decode cX8_size 2 = .ok (.invokevirtual 77, 3) := by decide +kernel
theorem dX8_size_5 : decode cX8_size 5 = .ok (.lstore_n 2, 1) := by decide +kernel
theorem dX8_size_6 : decode cX8_size 6 = .ok (.lload_n 2, 1) := by decide +kernel
theorem dX8_size_7 : decode cX8_size 7 = .ok (.ldc2_w 34, 3) := by decide +kernel
theorem dX8_size_10 : decode cX8_size 10 = .ok (.lcmp, 1) := by decide +kernel
theorem dX8_size_11 : decode cX8_size 11 = .ok (.ifCond .ne 7, 3) := by decide +kernel
theorem dX8_size_14 : decode cX8_size 14 = .ok (.iconst (-1), 1) := by decide +kernel
theorem dX8_size_15 : decode cX8_size 15 = .ok (.goto 15, 3) := by decide +kernel
theorem dX8_size_18 : decode cX8_size 18 = .ok (.lload_n 2, 1) := by decide +kernel
theorem dX8_size_19 : decode cX8_size 19 = .ok (.ldc2_w 59, 3) := by decide +kernel
theorem dX8_size_22 : decode cX8_size 22 = .ok (.ladd, 1) := by decide +kernel
theorem dX8_size_23 : decode cX8_size 23 = .ok (.lconst 1, 1) := by decide +kernel
theorem dX8_size_24 : decode cX8_size 24 = .ok (.lsub, 1) := by decide +kernel
theorem dX8_size_25 : decode cX8_size 25 = .ok (.ldc2_w 59, 3) := by decide +kernel
theorem dX8_size_28 : decode cX8_size 28 = .ok (.ldiv, 1) := by decide +kernel
theorem dX8_size_29 : decode cX8_size 29 = .ok (.l2i, 1) := by decide +kernel
theorem dX8_size_30 : decode cX8_size 30 = .ok (.ireturn, 1) := by decide +kernel
theorem dX8_unpaid_0 : decode cX8_unpaid 0 = .ok (.iconst 0, 1) := by decide +kernel
theorem dX8_unpaid_1 : decode cX8_unpaid 1 = .ok (.istore_n 1, 1) := by decide +kernel
theorem dX8_unpaid_2 : decode cX8_unpaid 2 = .ok (.iconst 0, 1) := by decide +kernel
theorem dX8_unpaid_3 : decode cX8_unpaid 3 = .ok (.istore_n 2, 1) := by decide +kernel
theorem dX8_unpaid_4 : decode cX8_unpaid 4 = .ok (.iload_n 2, 1) := by decide +kernel
theorem dX8_unpaid_5 : decode cX8_unpaid 5 = .ok (.aload_n 0, 1) := by decide +kernel
theorem dX8_unpaid_6 : decode cX8_unpaid 6 = .ok (.getfield 22, 3) := by decide +kernel
theorem dX8_unpaid_9 : decode cX8_unpaid 9 = .ok (.if_icmp .gt 25, 3) := by decide +kernel
theorem dX8_unpaid_12 : decode cX8_unpaid 12 = .ok (.aload_n 0, 1) := by decide +kernel
theorem dX8_unpaid_13 : decode cX8_unpaid 13 = .ok (.getfield 18, 3) := by decide +kernel
theorem dX8_unpaid_16 : decode cX8_unpaid 16 = .ok (.iload_n 2, 1) := by decide +kernel
theorem dX8_unpaid_17 : decode cX8_unpaid 17 = .ok (.laload, 1) := by decide +kernel
theorem dX8_unpaid_18 : decode cX8_unpaid 18 = .ok (.ldc2_w 34, 3) := by decide +kernel
theorem dX8_unpaid_21 : decode cX8_unpaid 21 = .ok (.lcmp, 1) := by decide +kernel
theorem dX8_unpaid_22 : decode cX8_unpaid 22 = .ok (.ifCond .ne 6, 3) := by decide +kernel
theorem dX8_unpaid_25 : decode cX8_unpaid 25 = .ok (.iinc 1 1, 3) := by decide +kernel
theorem dX8_unpaid_28 : decode cX8_unpaid 28 = .ok (.iinc 2 1, 3) := by decide +kernel
theorem dX8_unpaid_31 : decode cX8_unpaid 31 = .ok (.goto (-27), 3) := by decide +kernel
theorem dX8_unpaid_34 : decode cX8_unpaid 34 = .ok (.iload_n 1, 1) := by decide +kernel
theorem dX8_unpaid_35 : decode cX8_unpaid 35 = .ok (.ireturn, 1) := by decide +kernel
theorem dX8_backFrom_0 : decode cX8_backFrom 0 = .ok (.iconst (-1), 1) := by decide +kernel
theorem dX8_backFrom_1 : decode cX8_backFrom 1 = .ok (.istore_n 3, 1) := by decide +kernel
theorem dX8_backFrom_2 : decode cX8_backFrom 2 = .ok (.ldc2_w 34, 3) := by decide +kernel
theorem dX8_backFrom_5 : decode cX8_backFrom 5 = .ok (.lstore 4, 2) := by decide +kernel
theorem dX8_backFrom_7 : decode cX8_backFrom 7 = .ok (.iconst 0, 1) := by decide +kernel
theorem dX8_backFrom_8 : decode cX8_backFrom 8 = .ok (.istore 6, 2) := by decide +kernel
theorem dX8_backFrom_10 : decode cX8_backFrom 10 = .ok (.iload 6, 2) := by decide +kernel
theorem dX8_backFrom_12 : decode cX8_backFrom 12 = .ok (.aload_n 1, 1) := by decide +kernel
theorem dX8_backFrom_13 : decode cX8_backFrom 13 = .ok (.getfield 22, 3) := by decide +kernel
theorem dX8_backFrom_16 : decode cX8_backFrom 16 = .ok (.if_icmp .gt 84, 3) := by decide +kernel
theorem dX8_backFrom_19 : decode cX8_backFrom 19 = .ok (.iload_n 2, 1) := by decide +kernel
theorem dX8_backFrom_20 : decode cX8_backFrom 20 = .ok (.aload_n 0, 1) := by decide +kernel
theorem dX8_backFrom_21 : decode cX8_backFrom 21 = .ok (.getfield 22, 3) := by decide +kernel
theorem dX8_backFrom_24 : decode cX8_backFrom 24 = .ok (.iload 6, 2) := by decide +kernel
theorem dX8_backFrom_26 : decode cX8_backFrom 26 = .ok (.isub, 1) := by decide +kernel
theorem dX8_backFrom_27 : decode cX8_backFrom 27 = .ok (.if_icmp .gt 73, 3) := by decide +kernel
theorem dX8_backFrom_30 : decode cX8_backFrom 30 = .ok (.aload_n 0, 1) := by decide +kernel
theorem dX8_backFrom_31 : decode cX8_backFrom 31 = .ok (.iload_n 2, 1) := by decide +kernel
theorem dX8_backFrom_32 : decode cX8_backFrom 32 = .ok (.iload 6, 2) := by decide +kernel
theorem dX8_backFrom_34 : decode cX8_backFrom 34 = .ok (.iadd, 1) := by decide +kernel
theorem dX8_backFrom_35 : decode cX8_backFrom 35 = .ok (.invokevirtual 77, 3) := by decide +kernel
theorem dX8_backFrom_38 : decode cX8_backFrom 38 = .ok (.lstore 7, 2) := by decide +kernel
theorem dX8_backFrom_40 : decode cX8_backFrom 40 = .ok (.aload_n 1, 1) := by decide +kernel
theorem dX8_backFrom_41 : decode cX8_backFrom 41 = .ok (.iload 6, 2) := by decide +kernel
theorem dX8_backFrom_43 : decode cX8_backFrom 43 = .ok (.invokevirtual 81, 3) := by decide +kernel
theorem dX8_backFrom_46 : decode cX8_backFrom 46 = .ok (.istore 9, 2) := by decide +kernel
theorem dX8_backFrom_48 : decode cX8_backFrom 48 = .ok (.lload 7, 2) := by decide +kernel
theorem dX8_backFrom_50 : decode cX8_backFrom 50 = .ok (.ldc2_w 34, 3) := by decide +kernel
theorem dX8_backFrom_53 : decode cX8_backFrom 53 = .ok (.lcmp, 1) := by decide +kernel
theorem dX8_backFrom_54 : decode cX8_backFrom 54 = .ok (.ifCond .eq 40, 3) := by decide +kernel
theorem dX8_backFrom_57 : decode cX8_backFrom 57 = .ok (.iload 9, 2) := by decide +kernel
theorem dX8_backFrom_59 : decode cX8_backFrom 59 = .ok (.iconst (-1), 1) := by decide +kernel
theorem dX8_backFrom_60 : decode cX8_backFrom 60 = .ok (.if_icmp .eq 34, 3) := by decide +kernel
theorem dX8_backFrom_63 : decode cX8_backFrom 63 = .ok (.lload 7, 2) := by decide +kernel
theorem dX8_backFrom_65 : decode cX8_backFrom 65 = .ok (.iload 9, 2) := by decide +kernel
theorem dX8_backFrom_67 : decode cX8_backFrom 67 = .ok (.i2l, 1) := by decide +kernel
theorem dX8_backFrom_68 : decode cX8_backFrom 68 = .ok (.ldc2_w 59, 3) := by decide +kernel
theorem dX8_backFrom_71 : decode cX8_backFrom 71 = .ok (.lmul, 1) := by decide +kernel
theorem dX8_backFrom_72 : decode cX8_backFrom 72 = .ok (.ladd, 1) := by decide +kernel
theorem dX8_backFrom_73 : decode cX8_backFrom 73 = .ok (.lload 4, 2) := by decide +kernel
theorem dX8_backFrom_75 : decode cX8_backFrom 75 = .ok (.lcmp, 1) := by decide +kernel
theorem dX8_backFrom_76 : decode cX8_backFrom 76 = .ok (.ifCond .ge 18, 3) := by decide +kernel
theorem dX8_backFrom_79 : decode cX8_backFrom 79 = .ok (.lload 7, 2) := by decide +kernel
theorem dX8_backFrom_81 : decode cX8_backFrom 81 = .ok (.iload 9, 2) := by decide +kernel
theorem dX8_backFrom_83 : decode cX8_backFrom 83 = .ok (.i2l, 1) := by decide +kernel
theorem dX8_backFrom_84 : decode cX8_backFrom 84 = .ok (.ldc2_w 59, 3) := by decide +kernel
theorem dX8_backFrom_87 : decode cX8_backFrom 87 = .ok (.lmul, 1) := by decide +kernel
theorem dX8_backFrom_88 : decode cX8_backFrom 88 = .ok (.ladd, 1) := by decide +kernel
theorem dX8_backFrom_89 : decode cX8_backFrom 89 = .ok (.lstore 4, 2) := by decide +kernel
theorem dX8_backFrom_91 : decode cX8_backFrom 91 = .ok (.iload 6, 2) := by decide +kernel
theorem dX8_backFrom_93 : decode cX8_backFrom 93 = .ok (.istore_n 3, 1) := by decide +kernel
theorem dX8_backFrom_94 : decode cX8_backFrom 94 = .ok (.iinc 6 1, 3) := by decide +kernel
theorem dX8_backFrom_97 : decode cX8_backFrom 97 = .ok (.goto (-87), 3) := by decide +kernel
theorem dX8_backFrom_100 : decode cX8_backFrom 100 = .ok (.iload_n 3, 1) := by decide +kernel
theorem dX8_backFrom_101 : decode cX8_backFrom 101 = .ok (.ireturn, 1) := by decide +kernel
theorem dX8_move_0 : decode cX8_move 0 = .ok (.aload_n 0, 1) := by decide +kernel
theorem dX8_move_1 : decode cX8_move 1 = .ok (.iload_n 1, 1) := by decide +kernel
theorem dX8_move_2 : decode cX8_move 2 = .ok (.invokevirtual 81, 3) := by decide +kernel
theorem dX8_move_5 : decode cX8_move 5 = .ok (.i2l, 1) := by decide +kernel
theorem dX8_move_6 : decode cX8_move 6 = .ok (.ldc2_w 59, 3) := by decide +kernel
theorem dX8_move_9 : decode cX8_move 9 = .ok (.lmul, 1) := by decide +kernel
theorem dX8_move_10 : decode cX8_move 10 = .ok (.aload_n 0, 1) := by decide +kernel
theorem dX8_move_11 : decode cX8_move 11 = .ok (.iload_n 1, 1) := by decide +kernel
theorem dX8_move_12 : decode cX8_move 12 = .ok (.invokevirtual 77, 3) := by decide +kernel
theorem dX8_move_15 : decode cX8_move 15 = .ok (.lsub, 1) := by decide +kernel
theorem dX8_move_16 : decode cX8_move 16 = .ok (.lstore 4, 2) := by decide +kernel
theorem dX8_move_18 : decode cX8_move 18 = .ok (.iconst 0, 1) := by decide +kernel
theorem dX8_move_19 : decode cX8_move 19 = .ok (.istore 6, 2) := by decide +kernel
theorem dX8_move_21 : decode cX8_move 21 = .ok (.iload 6, 2) := by decide +kernel
theorem dX8_move_23 : decode cX8_move 23 = .ok (.aload_n 0, 1) := by decide +kernel
theorem dX8_move_24 : decode cX8_move 24 = .ok (.getfield 12, 3) := by decide +kernel
theorem dX8_move_27 : decode cX8_move 27 = .ok (.invokevirtual 42, 3) := by decide +kernel
theorem dX8_move_30 : decode cX8_move 30 = .ok (.invokevirtual 46, 3) := by decide +kernel
theorem dX8_move_33 : decode cX8_move 33 = .ok (.if_icmp .ge 70, 3) := by decide +kernel
theorem dX8_move_36 : decode cX8_move 36 = .ok (.lload 4, 2) := by decide +kernel
theorem dX8_move_38 : decode cX8_move 38 = .ok (.ldc2_w 65, 3) := by decide +kernel
theorem dX8_move_41 : decode cX8_move 41 = .ok (.lrem, 1) := by decide +kernel
theorem dX8_move_42 : decode cX8_move 42 = .ok (.l2i, 1) := by decide +kernel
theorem dX8_move_43 : decode cX8_move 43 = .ok (.istore 7, 2) := by decide +kernel
theorem dX8_move_45 : decode cX8_move 45 = .ok (.lload 4, 2) := by decide +kernel
theorem dX8_move_47 : decode cX8_move 47 = .ok (.ldc2_w 65, 3) := by decide +kernel
theorem dX8_move_50 : decode cX8_move 50 = .ok (.ldiv, 1) := by decide +kernel
theorem dX8_move_51 : decode cX8_move 51 = .ok (.lstore 4, 2) := by decide +kernel
theorem dX8_move_53 : decode cX8_move 53 = .ok (.aload_n 0, 1) := by decide +kernel
theorem dX8_move_54 : decode cX8_move 54 = .ok (.getfield 12, 3) := by decide +kernel
theorem dX8_move_57 : decode cX8_move 57 = .ok (.invokevirtual 42, 3) := by decide +kernel
theorem dX8_move_60 : decode cX8_move 60 = .ok (.iload 6, 2) := by decide +kernel
theorem dX8_move_62 : decode cX8_move 62 = .ok (.invokevirtual 56, 3) := by decide +kernel
theorem dX8_move_65 : decode cX8_move 65 = .ok (.istore 8, 2) := by decide +kernel
theorem dX8_move_67 : decode cX8_move 67 = .ok (.iload 7, 2) := by decide +kernel
theorem dX8_move_69 : decode cX8_move 69 = .ok (.ifCond .le 28, 3) := by decide +kernel
theorem dX8_move_72 : decode cX8_move 72 = .ok (.aload_n 2, 1) := by decide +kernel
theorem dX8_move_73 : decode cX8_move 73 = .ok (.iload 8, 2) := by decide +kernel
theorem dX8_move_75 : decode cX8_move 75 = .ok (.iload 7, 2) := by decide +kernel
theorem dX8_move_77 : decode cX8_move 77 = .ok (.ineg, 1) := by decide +kernel
theorem dX8_move_78 : decode cX8_move 78 = .ok (.invokevirtual 84, 3) := by decide +kernel
theorem dX8_move_81 : decode cX8_move 81 = .ok (.ifCond .eq 14, 3) := by decide +kernel
theorem dX8_move_84 : decode cX8_move 84 = .ok (.aload_n 3, 1) := by decide +kernel
theorem dX8_move_85 : decode cX8_move 85 = .ok (.iload 8, 2) := by decide +kernel
theorem dX8_move_87 : decode cX8_move 87 = .ok (.iload 7, 2) := by decide +kernel
theorem dX8_move_89 : decode cX8_move 89 = .ok (.invokevirtual 84, 3) := by decide +kernel
theorem dX8_move_92 : decode cX8_move 92 = .ok (.ifCond .ne 5, 3) := by decide +kernel
theorem dX8_move_95 : decode cX8_move 95 = .ok (.iconst 0, 1) := by decide +kernel
theorem dX8_move_96 : decode cX8_move 96 = .ok (.ireturn, 1) := by decide +kernel
theorem dX8_move_97 : decode cX8_move 97 = .ok (.iinc 6 1, 3) := by decide +kernel
theorem dX8_move_100 : decode cX8_move 100 = .ok (.goto (-79), 3) := by decide +kernel
theorem dX8_move_103 : decode cX8_move 103 = .ok (.iconst 1, 1) := by decide +kernel
theorem dX8_move_104 : decode cX8_move 104 = .ok (.ireturn, 1) := by decide +kernel
theorem dX9_init_0 : decode cX9_init 0 = .ok (.aload_n 0, 1) := by decide +kernel
theorem dX9_init_1 : decode cX9_init 1 = .ok (.invokespecial 3, 3) := by decide +kernel
theorem dX9_init_4 : decode cX9_init 4 = .ok (.aload_n 0, 1) := by decide +kernel
theorem dX9_init_5 : decode cX9_init 5 = .ok (.new 9, 3) := by decide +kernel
theorem dX9_init_8 : decode cX9_init 8 = .ok (.dup, 1) := by decide +kernel
theorem dX9_init_9 : decode cX9_init 9 = .ok (.invokespecial 11, 3) := by decide +kernel
theorem dX9_init_12 : decode cX9_init 12 = .ok (.putfield 12, 3) := by decide +kernel
theorem dX9_init_15 : decode cX9_init 15 = .ok (.aload_n 0, 1) := by decide +kernel
theorem dX9_init_16 : decode cX9_init 16 = .ok (.new 9, 3) := by decide +kernel
theorem dX9_init_19 : decode cX9_init 19 = .ok (.dup, 1) := by decide +kernel
theorem dX9_init_20 : decode cX9_init 20 = .ok (.invokespecial 11, 3) := by decide +kernel
theorem dX9_init_23 : decode cX9_init 23 = .ok (.putfield 18, 3) := by decide +kernel
theorem dX9_init_26 : decode cX9_init 26 = .ok (.aload_n 0, 1) := by decide +kernel
theorem dX9_init_27 : decode cX9_init 27 = .ok (.bipush 7, 2) := by decide +kernel
theorem dX9_init_29 : decode cX9_init 29 = .ok (.newarray .int, 2) := by decide +kernel
theorem dX9_init_31 : decode cX9_init 31 = .ok (.putfield 21, 3) := by decide +kernel
theorem dX9_init_34 : decode cX9_init 34 = .ok (.aload_n 0, 1) := by decide +kernel
theorem dX9_init_35 : decode cX9_init 35 = .ok (.bipush 7, 2) := by decide +kernel
theorem dX9_init_37 : decode cX9_init 37 = .ok (.newarray .int, 2) := by decide +kernel
theorem dX9_init_39 : decode cX9_init 39 = .ok (.putfield 25, 3) := by decide +kernel
theorem dX9_init_42 : decode cX9_init 42 = .ok (.aload_n 0, 1) := by decide +kernel
theorem dX9_init_43 : decode cX9_init 43 = .ok (.iconst 0, 1) := by decide +kernel
theorem dX9_init_44 : decode cX9_init 44 = .ok (.putfield 28, 3) := by decide +kernel
theorem dX9_init_47 : decode cX9_init 47 = .ok (.aload_n 0, 1) := by decide +kernel
theorem dX9_init_48 : decode cX9_init 48 = .ok (.iconst 0, 1) := by decide +kernel
theorem dX9_init_49 : decode cX9_init 49 = .ok (.putfield 32, 3) := by decide +kernel
theorem dX9_init_52 : decode cX9_init 52 = .ok (.return_, 1) := by decide +kernel
theorem dX9_looked_0 : decode cX9_looked 0 = .ok (.aload_n 0, 1) := by decide +kernel
theorem dX9_looked_1 : decode cX9_looked 1 = .ok (.getfield 32, 3) := by decide +kernel
theorem dX9_looked_4 : decode cX9_looked 4 = .ok (.ireturn, 1) := by decide +kernel
theorem dX9_found_0 : decode cX9_found 0 = .ok (.aload_n 0, 1) := by decide +kernel
theorem dX9_found_1 : decode cX9_found 1 = .ok (.getfield 18, 3) := by decide +kernel
theorem dX9_found_4 : decode cX9_found 4 = .ok (.areturn, 1) := by decide +kernel
theorem dX9_foundReach_0 : decode cX9_foundReach 0 = .ok (.aload_n 0, 1) := by decide +kernel
theorem dX9_foundReach_1 : decode cX9_foundReach 1 = .ok (.getfield 28, 3) := by decide +kernel
theorem dX9_foundReach_4 : decode cX9_foundReach 4 = .ok (.ireturn, 1) := by decide +kernel
theorem dX9_run_0 : decode cX9_run 0 = .ok (.aload_n 0, 1) := by decide +kernel
theorem dX9_run_1 : decode cX9_run 1 = .ok (.getfield 12, 3) := by decide +kernel
theorem dX9_run_4 : decode cX9_run 4 = .ok (.invokevirtual 35, 3) := by decide +kernel
theorem dX9_run_7 : decode cX9_run 7 = .ok (.aload_n 0, 1) := by decide +kernel
theorem dX9_run_8 : decode cX9_run 8 = .ok (.getfield 18, 3) := by decide +kernel
theorem dX9_run_11 : decode cX9_run 11 = .ok (.invokevirtual 35, 3) := by decide +kernel
theorem dX9_run_14 : decode cX9_run 14 = .ok (.aload_n 0, 1) := by decide +kernel
theorem dX9_run_15 : decode cX9_run 15 = .ok (.iconst 0, 1) := by decide +kernel
theorem dX9_run_16 : decode cX9_run 16 = .ok (.putfield 28, 3) := by decide +kernel
theorem dX9_run_19 : decode cX9_run 19 = .ok (.aload_n 0, 1) := by decide +kernel
theorem dX9_run_20 : decode cX9_run 20 = .ok (.iconst 0, 1) := by decide +kernel
theorem dX9_run_21 : decode cX9_run 21 = .ok (.putfield 32, 3) := by decide +kernel
theorem dX9_run_24 : decode cX9_run 24 = .ok (.aload_n 0, 1) := by decide +kernel
theorem dX9_run_25 : decode cX9_run 25 = .ok (.getfield 21, 3) := by decide +kernel
theorem dX9_run_28 : decode cX9_run 28 = .ok (.iconst 0, 1) := by decide +kernel
theorem dX9_run_29 : decode cX9_run 29 = .ok (.iconst 1, 1) := by decide +kernel
theorem dX9_run_30 : decode cX9_run 30 = .ok (.iastore, 1) := by decide +kernel
theorem dX9_run_31 : decode cX9_run 31 = .ok (.aload_n 0, 1) := by decide +kernel
theorem dX9_run_32 : decode cX9_run 32 = .ok (.getfield 25, 3) := by decide +kernel
theorem dX9_run_35 : decode cX9_run 35 = .ok (.iconst 0, 1) := by decide +kernel
theorem dX9_run_36 : decode cX9_run 36 = .ok (.iconst 1, 1) := by decide +kernel
theorem dX9_run_37 : decode cX9_run 37 = .ok (.iastore, 1) := by decide +kernel
theorem dX9_run_38 : decode cX9_run 38 = .ok (.iconst 0, 1) := by decide +kernel
theorem dX9_run_39 : decode cX9_run 39 = .ok (.istore 4, 2) := by decide +kernel
theorem dX9_run_41 : decode cX9_run 41 = .ok (.iload 4, 2) := by decide +kernel
theorem dX9_run_43 : decode cX9_run 43 = .ok (.sipush 4000, 3) := by decide +kernel
theorem dX9_run_46 : decode cX9_run 46 = .ok (.if_icmp .gt 89, 3) := by decide +kernel
theorem dX9_run_49 : decode cX9_run 49 = .ok (.aload_n 0, 1) := by decide +kernel
theorem dX9_run_50 : decode cX9_run 50 = .ok (.getfield 12, 3) := by decide +kernel
theorem dX9_run_53 : decode cX9_run 53 = .ok (.invokevirtual 38, 3) := by decide +kernel
theorem dX9_run_56 : decode cX9_run 56 = .ok (.istore 5, 2) := by decide +kernel
theorem dX9_run_58 : decode cX9_run 58 = .ok (.iload 5, 2) := by decide +kernel
theorem dX9_run_60 : decode cX9_run 60 = .ok (.iload_n 1, 1) := by decide +kernel
theorem dX9_run_61 : decode cX9_run 61 = .ok (.if_icmp .ge 44, 3) := by decide +kernel
theorem dX9_run_64 : decode cX9_run 64 = .ok (.aload_n 0, 1) := by decide +kernel
theorem dX9_run_65 : decode cX9_run 65 = .ok (.getfield 21, 3) := by decide +kernel
theorem dX9_run_68 : decode cX9_run 68 = .ok (.iload 5, 2) := by decide +kernel
theorem dX9_run_70 : decode cX9_run 70 = .ok (.iaload, 1) := by decide +kernel
theorem dX9_run_71 : decode cX9_run 71 = .ok (.aload_n 0, 1) := by decide +kernel
theorem dX9_run_72 : decode cX9_run 72 = .ok (.getfield 25, 3) := by decide +kernel
theorem dX9_run_75 : decode cX9_run 75 = .ok (.iload 5, 2) := by decide +kernel
theorem dX9_run_77 : decode cX9_run 77 = .ok (.iaload, 1) := by decide +kernel
theorem dX9_run_78 : decode cX9_run 78 = .ok (.if_icmp .gt 27, 3) := by decide +kernel
theorem dX9_run_81 : decode cX9_run 81 = .ok (.aload_n 0, 1) := by decide +kernel
theorem dX9_run_82 : decode cX9_run 82 = .ok (.getfield 32, 3) := by decide +kernel
theorem dX9_run_85 : decode cX9_run 85 = .ok (.sipush 2000, 3) := by decide +kernel
theorem dX9_run_88 : decode cX9_run 88 = .ok (.if_icmp .ne 5, 3) := by decide +kernel
theorem dX9_run_91 : decode cX9_run 91 = .ok (.iconst 0, 1) := by decide +kernel
theorem dX9_run_92 : decode cX9_run 92 = .ok (.ireturn, 1) := by decide +kernel
theorem dX9_run_93 : decode cX9_run 93 = .ok (.aload_n 0, 1) := by decide +kernel
theorem dX9_run_94 : decode cX9_run 94 = .ok (.iload 5, 2) := by decide +kernel
theorem dX9_run_96 : decode cX9_run 96 = .ok (.iload_n 1, 1) := by decide +kernel
theorem dX9_run_97 : decode cX9_run 97 = .ok (.iload_n 2, 1) := by decide +kernel
theorem dX9_run_98 : decode cX9_run 98 = .ok (.aload_n 3, 1) := by decide +kernel
theorem dX9_run_99 : decode cX9_run 99 = .ok (.invokevirtual 42, 3) := by decide +kernel
theorem dX9_run_102 : decode cX9_run 102 = .ok (.goto 27, 3) := by decide +kernel
theorem dX9_run_105 : decode cX9_run 105 = .ok (.iload 5, 2) := by decide +kernel
theorem dX9_run_107 : decode cX9_run 107 = .ok (.ifCond .le 20, 3) := by decide +kernel
theorem dX9_run_110 : decode cX9_run 110 = .ok (.aload_n 0, 1) := by decide +kernel
theorem dX9_run_111 : decode cX9_run 111 = .ok (.getfield 12, 3) := by decide +kernel
theorem dX9_run_114 : decode cX9_run 114 = .ok (.aload_n 0, 1) := by decide +kernel
theorem dX9_run_115 : decode cX9_run 115 = .ok (.getfield 12, 3) := by decide +kernel
theorem dX9_run_118 : decode cX9_run 118 = .ok (.invokevirtual 46, 3) := by decide +kernel
theorem dX9_run_121 : decode cX9_run 121 = .ok (.invokevirtual 49, 3) := by decide +kernel
theorem dX9_run_124 : decode cX9_run 124 = .ok (.goto 5, 3) := by decide +kernel
theorem dX9_run_127 : decode cX9_run 127 = .ok (.iconst 1, 1) := by decide +kernel
theorem dX9_run_128 : decode cX9_run 128 = .ok (.ireturn, 1) := by decide +kernel
theorem dX9_run_129 : decode cX9_run 129 = .ok (.iinc 4 1, 3) := by decide +kernel
theorem dX9_run_132 : decode cX9_run 132 = .ok (.goto (-91), 3) := by decide +kernel
theorem dX9_run_135 : decode cX9_run 135 = .ok (.iconst 1, 1) := by decide +kernel
theorem dX9_run_136 : decode cX9_run 136 = .ok (.ireturn, 1) := by decide +kernel
theorem dX9_lookAt_0 : decode cX9_lookAt 0 = .ok (.aload_n 0, 1) := by decide +kernel
theorem dX9_lookAt_1 : decode cX9_lookAt 1 = .ok (.getfield 21, 3) := by decide +kernel
theorem dX9_lookAt_4 : decode cX9_lookAt 4 = .ok (.iload_n 1, 1) := by decide +kernel
theorem dX9_lookAt_5 : decode cX9_lookAt 5 = .ok (.iaload, 1) := by decide +kernel
theorem dX9_lookAt_6 : decode cX9_lookAt 6 = .ok (.istore 5, 2) := by decide +kernel
theorem dX9_lookAt_8 : decode cX9_lookAt 8 = .ok (.aload_n 0, 1) := by decide +kernel
theorem dX9_lookAt_9 : decode cX9_lookAt 9 = .ok (.getfield 21, 3) := by decide +kernel
theorem dX9_lookAt_12 : decode cX9_lookAt 12 = .ok (.iload_n 1, 1) := by decide +kernel
theorem dX9_lookAt_13 : decode cX9_lookAt 13 = .ok (.dup2, 1) := by decide +kernel
theorem dX9_lookAt_14 : decode cX9_lookAt 14 = .ok (.iaload, 1) := by decide +kernel
theorem dX9_lookAt_15 : decode cX9_lookAt 15 = .ok (.iconst 1, 1) := by decide +kernel
theorem dX9_lookAt_16 : decode cX9_lookAt 16 = .ok (.iadd, 1) := by decide +kernel
theorem dX9_lookAt_17 : decode cX9_lookAt 17 = .ok (.iastore, 1) := by decide +kernel
theorem dX9_lookAt_18 : decode cX9_lookAt 18 = .ok (.aload_n 0, 1) := by decide +kernel
theorem dX9_lookAt_19 : decode cX9_lookAt 19 = .ok (.dup, 1) := by decide +kernel
theorem dX9_lookAt_20 : decode cX9_lookAt 20 = .ok (.getfield 32, 3) := by decide +kernel
theorem dX9_lookAt_23 : decode cX9_lookAt 23 = .ok (.iconst 1, 1) := by decide +kernel
theorem dX9_lookAt_24 : decode cX9_lookAt 24 = .ok (.iadd, 1) := by decide +kernel
theorem dX9_lookAt_25 : decode cX9_lookAt 25 = .ok (.putfield 32, 3) := by decide +kernel
theorem dX9_lookAt_28 : decode cX9_lookAt 28 = .ok (.aload_n 0, 1) := by decide +kernel
theorem dX9_lookAt_29 : decode cX9_lookAt 29 = .ok (.getfield 12, 3) := by decide +kernel
theorem dX9_lookAt_32 : decode cX9_lookAt 32 = .ok (.iload 5, 2) := by decide +kernel
theorem dX9_lookAt_34 : decode cX9_lookAt 34 = .ok (.invokevirtual 53, 3) := by decide +kernel
theorem dX9_lookAt_37 : decode cX9_lookAt 37 = .ok (.pop, 1) := by decide +kernel
theorem dX9_lookAt_38 : decode cX9_lookAt 38 = .ok (.aload 4, 2) := by decide +kernel
theorem dX9_lookAt_40 : decode cX9_lookAt 40 = .ok (.aload_n 0, 1) := by decide +kernel
theorem dX9_lookAt_41 : decode cX9_lookAt 41 = .ok (.getfield 12, 3) := by decide +kernel
theorem dX9_lookAt_44 : decode cX9_lookAt 44 = .ok (.invokevirtual 57, 3) := by decide +kernel
theorem dX9_lookAt_47 : decode cX9_lookAt 47 = .ok (.aload 4, 2) := by decide +kernel
theorem dX9_lookAt_49 : decode cX9_lookAt 49 = .ok (.iload_n 3, 1) := by decide +kernel
theorem dX9_lookAt_50 : decode cX9_lookAt 50 = .ok (.invokevirtual 63, 3) := by decide +kernel
theorem dX9_lookAt_53 : decode cX9_lookAt 53 = .ok (.istore 6, 2) := by decide +kernel
theorem dX9_lookAt_55 : decode cX9_lookAt 55 = .ok (.aload_n 0, 1) := by decide +kernel
theorem dX9_lookAt_56 : decode cX9_lookAt 56 = .ok (.getfield 21, 3) := by decide +kernel
theorem dX9_lookAt_59 : decode cX9_lookAt 59 = .ok (.iload_n 1, 1) := by decide +kernel
theorem dX9_lookAt_60 : decode cX9_lookAt 60 = .ok (.iconst 1, 1) := by decide +kernel
theorem dX9_lookAt_61 : decode cX9_lookAt 61 = .ok (.iadd, 1) := by decide +kernel
theorem dX9_lookAt_62 : decode cX9_lookAt 62 = .ok (.iload 5, 2) := by decide +kernel
theorem dX9_lookAt_64 : decode cX9_lookAt 64 = .ok (.iconst 1, 1) := by decide +kernel
theorem dX9_lookAt_65 : decode cX9_lookAt 65 = .ok (.iadd, 1) := by decide +kernel
theorem dX9_lookAt_66 : decode cX9_lookAt 66 = .ok (.iastore, 1) := by decide +kernel
theorem dX9_lookAt_67 : decode cX9_lookAt 67 = .ok (.aload_n 0, 1) := by decide +kernel
theorem dX9_lookAt_68 : decode cX9_lookAt 68 = .ok (.getfield 25, 3) := by decide +kernel
theorem dX9_lookAt_71 : decode cX9_lookAt 71 = .ok (.iload_n 1, 1) := by decide +kernel
theorem dX9_lookAt_72 : decode cX9_lookAt 72 = .ok (.iconst 1, 1) := by decide +kernel
theorem dX9_lookAt_73 : decode cX9_lookAt 73 = .ok (.iadd, 1) := by decide +kernel
theorem dX9_lookAt_74 : decode cX9_lookAt 74 = .ok (.iload 6, 2) := by decide +kernel
theorem dX9_lookAt_76 : decode cX9_lookAt 76 = .ok (.iconst 1, 1) := by decide +kernel
theorem dX9_lookAt_77 : decode cX9_lookAt 77 = .ok (.iadd, 1) := by decide +kernel
theorem dX9_lookAt_78 : decode cX9_lookAt 78 = .ok (.sipush 300, 3) := by decide +kernel
theorem dX9_lookAt_81 : decode cX9_lookAt 81 = .ok (.invokestatic 67, 3) := by decide +kernel
theorem dX9_lookAt_84 : decode cX9_lookAt 84 = .ok (.iastore, 1) := by decide +kernel
theorem dX9_lookAt_85 : decode cX9_lookAt 85 = .ok (.iload_n 1, 1) := by decide +kernel
theorem dX9_lookAt_86 : decode cX9_lookAt 86 = .ok (.iconst 1, 1) := by decide +kernel
theorem dX9_lookAt_87 : decode cX9_lookAt 87 = .ok (.iadd, 1) := by decide +kernel
theorem dX9_lookAt_88 : decode cX9_lookAt 88 = .ok (.iload_n 2, 1) := by decide +kernel
theorem dX9_lookAt_89 : decode cX9_lookAt 89 = .ok (.if_icmp .ne 29, 3) := by decide +kernel
theorem dX9_lookAt_92 : decode cX9_lookAt 92 = .ok (.iload 6, 2) := by decide +kernel
theorem dX9_lookAt_94 : decode cX9_lookAt 94 = .ok (.aload_n 0, 1) := by decide +kernel
theorem dX9_lookAt_95 : decode cX9_lookAt 95 = .ok (.getfield 28, 3) := by decide +kernel
theorem dX9_lookAt_98 : decode cX9_lookAt 98 = .ok (.if_icmp .le 20, 3) := by decide +kernel
theorem dX9_lookAt_101 : decode cX9_lookAt 101 = .ok (.aload_n 0, 1) := by decide +kernel
theorem dX9_lookAt_102 : decode cX9_lookAt 102 = .ok (.getfield 18, 3) := by decide +kernel
theorem dX9_lookAt_105 : decode cX9_lookAt 105 = .ok (.aload_n 0, 1) := by decide +kernel
theorem dX9_lookAt_106 : decode cX9_lookAt 106 = .ok (.getfield 12, 3) := by decide +kernel
theorem dX9_lookAt_109 : decode cX9_lookAt 109 = .ok (.invokevirtual 73, 3) := by decide +kernel
theorem dX9_lookAt_112 : decode cX9_lookAt 112 = .ok (.aload_n 0, 1) := by decide +kernel
theorem dX9_lookAt_113 : decode cX9_lookAt 113 = .ok (.iload 6, 2) := by decide +kernel
theorem dX9_lookAt_115 : decode cX9_lookAt 115 = .ok (.putfield 28, 3) := by decide +kernel
theorem dX9_lookAt_118 : decode cX9_lookAt 118 = .ok (.return_, 1) := by decide +kernel
theorem dX10_init_0 : decode cX10_init 0 = .ok (.aload_n 0, 1) := by decide +kernel
theorem dX10_init_1 : decode cX10_init 1 = .ok (.invokespecial 3, 3) := by decide +kernel
theorem dX10_init_4 : decode cX10_init 4 = .ok (.aload_n 0, 1) := by decide +kernel
theorem dX10_init_5 : decode cX10_init 5 = .ok (.new 9, 3) := by decide +kernel
theorem dX10_init_8 : decode cX10_init 8 = .ok (.dup, 1) := by decide +kernel
theorem dX10_init_9 : decode cX10_init 9 = .ok (.invokespecial 11, 3) := by decide +kernel
theorem dX10_init_12 : decode cX10_init 12 = .ok (.putfield 12, 3) := by decide +kernel
theorem dX10_init_15 : decode cX10_init 15 = .ok (.aload_n 0, 1) := by decide +kernel
theorem dX10_init_16 : decode cX10_init 16 = .ok (.bipush 13, 2) := by decide +kernel
theorem dX10_init_18 : decode cX10_init 18 = .ok (.sipush 3001, 3) := by decide +kernel
theorem dX10_init_21 : decode cX10_init 21 = .ok (.multianewarray 18 2, 4) := by decide +kernel
theorem dX10_init_25 : decode cX10_init 25 = .ok (.putfield 20, 3) := by decide +kernel
theorem dX10_init_28 : decode cX10_init 28 = .ok (.aload_n 0, 1) := by decide +kernel
theorem dX10_init_29 : decode cX10_init 29 = .ok (.iconst (-1), 1) := by decide +kernel
theorem dX10_init_30 : decode cX10_init 30 = .ok (.putfield 23, 3) := by decide +kernel
theorem dX10_init_33 : decode cX10_init 33 = .ok (.return_, 1) := by decide +kernel
theorem dX10_take_0 : decode cX10_take 0 = .ok (.aload_n 0, 1) := by decide +kernel
theorem dX10_take_1 : decode cX10_take 1 = .ok (.getfield 12, 3) := by decide +kernel
theorem dX10_take_4 : decode cX10_take 4 = .ok (.aload_n 1, 1) := by decide +kernel
theorem dX10_take_5 : decode cX10_take 5 = .ok (.invokevirtual 27, 3) := by decide +kernel
theorem dX10_take_8 : decode cX10_take 8 = .ok (.ifCond .ne 16, 3) := by decide +kernel
theorem dX10_take_11 : decode cX10_take 11 = .ok (.aload_n 0, 1) := by decide +kernel
theorem dX10_take_12 : decode cX10_take 12 = .ok (.getfield 12, 3) := by decide +kernel
theorem dX10_take_15 : decode cX10_take 15 = .ok (.aload_n 1, 1) := by decide +kernel
theorem dX10_take_16 : decode cX10_take 16 = .ok (.invokevirtual 31, 3) := by decide +kernel
theorem dX10_take_19 : decode cX10_take 19 = .ok (.aload_n 0, 1) := by decide +kernel
theorem dX10_take_20 : decode cX10_take 20 = .ok (.iconst (-1), 1) := by decide +kernel
theorem dX10_take_21 : decode cX10_take 21 = .ok (.putfield 23, 3) := by decide +kernel
theorem dX10_take_24 : decode cX10_take 24 = .ok (.return_, 1) := by decide +kernel
theorem dX10_count_0 : decode cX10_count 0 = .ok (.aload_n 0, 1) := by decide +kernel
theorem dX10_count_1 : decode cX10_count 1 = .ok (.aload_n 0, 1) := by decide +kernel
theorem dX10_count_2 : decode cX10_count 2 = .ok (.getfield 12, 3) := by decide +kernel
theorem dX10_count_5 : decode cX10_count 5 = .ok (.invokevirtual 35, 3) := by decide +kernel
theorem dX10_count_8 : decode cX10_count 8 = .ok (.iload_n 1, 1) := by decide +kernel
theorem dX10_count_9 : decode cX10_count 9 = .ok (.invokevirtual 39, 3) := by decide +kernel
theorem dX10_count_12 : decode cX10_count 12 = .ok (.lreturn, 1) := by decide +kernel
theorem dX10_countBy_0 : decode cX10_countBy 0 = .ok (.iload_n 2, 1) := by decide +kernel
theorem dX10_countBy_1 : decode cX10_countBy 1 = .ok (.ifCond .lt 20, 3) := by decide +kernel
theorem dX10_countBy_4 : decode cX10_countBy 4 = .ok (.iload_n 2, 1) := by decide +kernel
theorem dX10_countBy_5 : decode cX10_countBy 5 = .ok (.sipush 3000, 3) := by decide +kernel
theorem dX10_countBy_8 : decode cX10_countBy 8 = .ok (.if_icmp .gt 13, 3) := by decide +kernel
theorem dX10_countBy_11 : decode cX10_countBy 11 = .ok (.iload_n 1, 1) := by decide +kernel
theorem dX10_countBy_12 : decode cX10_countBy 12 = .ok (.ifCond .lt 9, 3) := by decide +kernel
theorem dX10_countBy_15 : decode cX10_countBy 15 = .ok (.iload_n 1, 1) := by decide +kernel
theorem dX10_countBy_16 : decode cX10_countBy 16 = .ok (.bipush 12, 2) := by decide +kernel
theorem dX10_countBy_18 : decode cX10_countBy 18 = .ok (.if_icmp .le 5, 3) := by decide +kernel
theorem dX10_countBy_21 : decode cX10_countBy 21 = .ok (.lconst 0, 1) := by decide +kernel
theorem dX10_countBy_22 : decode cX10_countBy 22 = .ok (.lreturn, 1) := by decide +kernel
theorem dX10_countBy_23 : decode cX10_countBy 23 = .ok (.aload_n 0, 1) := by decide +kernel
theorem dX10_countBy_24 : decode cX10_countBy 24 = .ok (.getfield 23, 3) := by decide +kernel
theorem dX10_countBy_27 : decode cX10_countBy 27 = .ok (.iload_n 2, 1) := by decide +kernel
theorem dX10_countBy_28 : decode cX10_countBy 28 = .ok (.if_icmp .ge 24, 3) := by decide +kernel
theorem dX10_countBy_31 : decode cX10_countBy 31 = .ok (.aload_n 0, 1) := by decide +kernel
theorem dX10_countBy_32 : decode cX10_countBy 32 = .ok (.dup, 1) := by decide +kernel
theorem dX10_countBy_33 : decode cX10_countBy 33 = .ok (.getfield 23, 3) := by decide +kernel
theorem dX10_countBy_36 : decode cX10_countBy 36 = .ok (.iconst 1, 1) := by decide +kernel
theorem dX10_countBy_37 : decode cX10_countBy 37 = .ok (.iadd, 1) := by decide +kernel
theorem dX10_countBy_38 : decode cX10_countBy 38 = .ok (.putfield 23, 3) := by decide +kernel
theorem dX10_countBy_41 : decode cX10_countBy 41 = .ok (.aload_n 0, 1) := by decide +kernel
theorem dX10_countBy_42 : decode cX10_countBy 42 = .ok (.aload_n 0, 1) := by decide +kernel
theorem dX10_countBy_43 : decode cX10_countBy 43 = .ok (.getfield 23, 3) := by decide +kernel
theorem dX10_countBy_46 : decode cX10_countBy 46 = .ok (.invokevirtual 43, 3) := by decide +kernel
theorem dX10_countBy_49 : decode cX10_countBy 49 = .ok (.goto (-26), 3) := by decide +kernel
theorem dX10_countBy_52 : decode cX10_countBy 52 = .ok (.aload_n 0, 1) := by decide +kernel
theorem dX10_countBy_53 : decode cX10_countBy 53 = .ok (.getfield 20, 3) := by decide +kernel
theorem dX10_countBy_56 : decode cX10_countBy 56 = .ok (.iload_n 1, 1) := by decide +kernel
theorem dX10_countBy_57 : decode cX10_countBy 57 = .ok (.aaload, 1) := by decide +kernel
theorem dX10_countBy_58 : decode cX10_countBy 58 = .ok (.iload_n 2, 1) := by decide +kernel
theorem dX10_countBy_59 : decode cX10_countBy 59 = .ok (.laload, 1) := by decide +kernel
theorem dX10_countBy_60 : decode cX10_countBy 60 = .ok (.lreturn, 1) := by decide +kernel
theorem dX10_reckon_0 : decode cX10_reckon 0 = .ok (.aload_n 0, 1) := by decide +kernel
theorem dX10_reckon_1 : decode cX10_reckon 1 = .ok (.getfield 20, 3) := by decide +kernel
theorem dX10_reckon_4 : decode cX10_reckon 4 = .ok (.iconst 0, 1) := by decide +kernel
theorem dX10_reckon_5 : decode cX10_reckon 5 = .ok (.aaload, 1) := by decide +kernel
theorem dX10_reckon_6 : decode cX10_reckon 6 = .ok (.iload_n 1, 1) := by decide +kernel
theorem dX10_reckon_7 : decode cX10_reckon 7 = .ok (.iload_n 1, 1) := by decide +kernel
theorem dX10_reckon_8 : decode cX10_reckon 8 = .ok (.ifCond .ne 7, 3) := by decide +kernel
theorem dX10_reckon_11 : decode cX10_reckon 11 = .ok (.lconst 1, 1) := by decide +kernel
theorem dX10_reckon_12 : decode cX10_reckon 12 = .ok (.goto 4, 3) := by decide +kernel
theorem dX10_reckon_15 : decode cX10_reckon 15 = .ok (.lconst 0, 1) := by decide +kernel
theorem dX10_reckon_16 : decode cX10_reckon 16 = .ok (.lastore, 1) := by decide +kernel
theorem dX10_reckon_17 : decode cX10_reckon 17 = .ok (.iconst 0, 1) := by decide +kernel
theorem dX10_reckon_18 : decode cX10_reckon 18 = .ok (.istore_n 2, 1) := by decide +kernel
theorem dX10_reckon_19 : decode cX10_reckon 19 = .ok (.iload_n 2, 1) := by decide +kernel
theorem dX10_reckon_20 : decode cX10_reckon 20 = .ok (.aload_n 0, 1) := by decide +kernel
theorem dX10_reckon_21 : decode cX10_reckon 21 = .ok (.getfield 12, 3) := by decide +kernel
theorem dX10_reckon_24 : decode cX10_reckon 24 = .ok (.invokevirtual 35, 3) := by decide +kernel
theorem dX10_reckon_27 : decode cX10_reckon 27 = .ok (.if_icmp .ge 67, 3) := by decide +kernel
theorem dX10_reckon_30 : decode cX10_reckon 30 = .ok (.iload_n 1, 1) := by decide +kernel
theorem dX10_reckon_31 : decode cX10_reckon 31 = .ok (.aload_n 0, 1) := by decide +kernel
theorem dX10_reckon_32 : decode cX10_reckon 32 = .ok (.getfield 12, 3) := by decide +kernel
theorem dX10_reckon_35 : decode cX10_reckon 35 = .ok (.iload_n 2, 1) := by decide +kernel
theorem dX10_reckon_36 : decode cX10_reckon 36 = .ok (.invokevirtual 47, 3) := by decide +kernel
theorem dX10_reckon_39 : decode cX10_reckon 39 = .ok (.isub, 1) := by decide +kernel
theorem dX10_reckon_40 : decode cX10_reckon 40 = .ok (.istore_n 3, 1) := by decide +kernel
theorem dX10_reckon_41 : decode cX10_reckon 41 = .ok (.iload_n 3, 1) := by decide +kernel
theorem dX10_reckon_42 : decode cX10_reckon 42 = .ok (.ifCond .lt 16, 3) := by decide +kernel
theorem dX10_reckon_45 : decode cX10_reckon 45 = .ok (.aload_n 0, 1) := by decide +kernel
theorem dX10_reckon_46 : decode cX10_reckon 46 = .ok (.getfield 20, 3) := by decide +kernel
theorem dX10_reckon_49 : decode cX10_reckon 49 = .ok (.iload_n 2, 1) := by decide +kernel
theorem dX10_reckon_50 : decode cX10_reckon 50 = .ok (.iconst 1, 1) := by decide +kernel
theorem dX10_reckon_51 : decode cX10_reckon 51 = .ok (.iadd, 1) := by decide +kernel
theorem dX10_reckon_52 : decode cX10_reckon 52 = .ok (.aaload, 1) := by decide +kernel
theorem dX10_reckon_53 : decode cX10_reckon 53 = .ok (.iload_n 3, 1) := by decide +kernel
theorem dX10_reckon_54 : decode cX10_reckon 54 = .ok (.laload, 1) := by decide +kernel
theorem dX10_reckon_55 : decode cX10_reckon 55 = .ok (.goto 4, 3) := by decide +kernel
theorem dX10_reckon_58 : decode cX10_reckon 58 = .ok (.lconst 0, 1) := by decide +kernel
theorem dX10_reckon_59 : decode cX10_reckon 59 = .ok (.lstore 4, 2) := by decide +kernel
theorem dX10_reckon_61 : decode cX10_reckon 61 = .ok (.aload_n 0, 1) := by decide +kernel
theorem dX10_reckon_62 : decode cX10_reckon 62 = .ok (.getfield 20, 3) := by decide +kernel
theorem dX10_reckon_65 : decode cX10_reckon 65 = .ok (.iload_n 2, 1) := by decide +kernel
theorem dX10_reckon_66 : decode cX10_reckon 66 = .ok (.iconst 1, 1) := by decide +kernel
theorem dX10_reckon_67 : decode cX10_reckon 67 = .ok (.iadd, 1) := by decide +kernel
theorem dX10_reckon_68 : decode cX10_reckon 68 = .ok (.aaload, 1) := by decide +kernel
theorem dX10_reckon_69 : decode cX10_reckon 69 = .ok (.iload_n 1, 1) := by decide +kernel
theorem dX10_reckon_70 : decode cX10_reckon 70 = .ok (.aload_n 0, 1) := by decide +kernel
theorem dX10_reckon_71 : decode cX10_reckon 71 = .ok (.getfield 20, 3) := by decide +kernel
theorem dX10_reckon_74 : decode cX10_reckon 74 = .ok (.iload_n 2, 1) := by decide +kernel
theorem dX10_reckon_75 : decode cX10_reckon 75 = .ok (.aaload, 1) := by decide +kernel
theorem dX10_reckon_76 : decode cX10_reckon 76 = .ok (.iload_n 1, 1) := by decide +kernel
theorem dX10_reckon_77 : decode cX10_reckon 77 = .ok (.laload, 1) := by decide +kernel
theorem dX10_reckon_78 : decode cX10_reckon 78 = .ok (.lload 4, 2) := by decide +kernel
theorem dX10_reckon_80 : decode cX10_reckon 80 = .ok (.ladd, 1) := by decide +kernel
theorem dX10_reckon_81 : decode cX10_reckon 81 = .ok (.ldc2_w 51, 3) := by decide +kernel
theorem dX10_reckon_84 : decode cX10_reckon 84 = .ok (.invokestatic 53, 3) := by decide +kernel
theorem dX10_reckon_87 : decode cX10_reckon 87 = .ok (.lastore, 1) := by decide +kernel
theorem dX10_reckon_88 : decode cX10_reckon 88 = .ok (.iinc 2 1, 3) := by decide +kernel
theorem dX10_reckon_91 : decode cX10_reckon 91 = .ok (.goto (-72), 3) := by decide +kernel
theorem dX10_reckon_94 : decode cX10_reckon 94 = .ok (.return_, 1) := by decide +kernel
theorem dX10_lay_0 : decode cX10_lay 0 = .ok (.iload_n 1, 1) := by decide +kernel
theorem dX10_lay_1 : decode cX10_lay 1 = .ok (.istore 5, 2) := by decide +kernel
theorem dX10_lay_3 : decode cX10_lay 3 = .ok (.lload_n 2, 1) := by decide +kernel
theorem dX10_lay_4 : decode cX10_lay 4 = .ok (.lstore 6, 2) := by decide +kernel
theorem dX10_lay_6 : decode cX10_lay 6 = .ok (.aload_n 0, 1) := by decide +kernel
theorem dX10_lay_7 : decode cX10_lay 7 = .ok (.getfield 12, 3) := by decide +kernel
theorem dX10_lay_10 : decode cX10_lay 10 = .ok (.invokevirtual 35, 3) := by decide +kernel
theorem dX10_lay_13 : decode cX10_lay 13 = .ok (.iconst 1, 1) := by decide +kernel
theorem dX10_lay_14 : decode cX10_lay 14 = .ok (.isub, 1) := by decide +kernel
theorem dX10_lay_15 : decode cX10_lay 15 = .ok (.istore 8, 2) := by decide +kernel
theorem dX10_lay_17 : decode cX10_lay 17 = .ok (.iload 8, 2) := by decide +kernel
theorem dX10_lay_19 : decode cX10_lay 19 = .ok (.ifCond .lt 105, 3) := by decide +kernel
theorem dX10_lay_22 : decode cX10_lay 22 = .ok (.aload_n 0, 1) := by decide +kernel
theorem dX10_lay_23 : decode cX10_lay 23 = .ok (.getfield 12, 3) := by decide +kernel
theorem dX10_lay_26 : decode cX10_lay 26 = .ok (.iload 8, 2) := by decide +kernel
theorem dX10_lay_28 : decode cX10_lay 28 = .ok (.invokevirtual 47, 3) := by decide +kernel
theorem dX10_lay_31 : decode cX10_lay 31 = .ok (.istore 9, 2) := by decide +kernel
theorem dX10_lay_33 : decode cX10_lay 33 = .ok (.iload 9, 2) := by decide +kernel
theorem dX10_lay_35 : decode cX10_lay 35 = .ok (.ifCond .le 11, 3) := by decide +kernel
theorem dX10_lay_38 : decode cX10_lay 38 = .ok (.iload 5, 2) := by decide +kernel
theorem dX10_lay_40 : decode cX10_lay 40 = .ok (.iload 9, 2) := by decide +kernel
theorem dX10_lay_42 : decode cX10_lay 42 = .ok (.idiv, 1) := by decide +kernel
theorem dX10_lay_43 : decode cX10_lay 43 = .ok (.goto 4, 3) := by decide +kernel
theorem dX10_lay_46 : decode cX10_lay 46 = .ok (.iconst 0, 1) := by decide +kernel
theorem dX10_lay_47 : decode cX10_lay 47 = .ok (.istore 10, 2) := by decide +kernel
theorem dX10_lay_49 : decode cX10_lay 49 = .ok (.iload 10, 2) := by decide +kernel
theorem dX10_lay_51 : decode cX10_lay 51 = .ok (.ifCond .le 48, 3) := by decide +kernel
theorem dX10_lay_54 : decode cX10_lay 54 = .ok (.lload 6, 2) := by decide +kernel
theorem dX10_lay_56 : decode cX10_lay 56 = .ok (.aload_n 0, 1) := by decide +kernel
theorem dX10_lay_57 : decode cX10_lay 57 = .ok (.iload 8, 2) := by decide +kernel
theorem dX10_lay_59 : decode cX10_lay 59 = .ok (.iload 5, 2) := by decide +kernel
theorem dX10_lay_61 : decode cX10_lay 61 = .ok (.iload 10, 2) := by decide +kernel
theorem dX10_lay_63 : decode cX10_lay 63 = .ok (.iload 9, 2) := by decide +kernel
theorem dX10_lay_65 : decode cX10_lay 65 = .ok (.imul, 1) := by decide +kernel
theorem dX10_lay_66 : decode cX10_lay 66 = .ok (.isub, 1) := by decide +kernel
theorem dX10_lay_67 : decode cX10_lay 67 = .ok (.invokevirtual 39, 3) := by decide +kernel
theorem dX10_lay_70 : decode cX10_lay 70 = .ok (.lcmp, 1) := by decide +kernel
theorem dX10_lay_71 : decode cX10_lay 71 = .ok (.ifCond .lt 28, 3) := by decide +kernel
theorem dX10_lay_74 : decode cX10_lay 74 = .ok (.lload 6, 2) := by decide +kernel
theorem dX10_lay_76 : decode cX10_lay 76 = .ok (.aload_n 0, 1) := by decide +kernel
theorem dX10_lay_77 : decode cX10_lay 77 = .ok (.iload 8, 2) := by decide +kernel
theorem dX10_lay_79 : decode cX10_lay 79 = .ok (.iload 5, 2) := by decide +kernel
theorem dX10_lay_81 : decode cX10_lay 81 = .ok (.iload 10, 2) := by decide +kernel
theorem dX10_lay_83 : decode cX10_lay 83 = .ok (.iload 9, 2) := by decide +kernel
theorem dX10_lay_85 : decode cX10_lay 85 = .ok (.imul, 1) := by decide +kernel
theorem dX10_lay_86 : decode cX10_lay 86 = .ok (.isub, 1) := by decide +kernel
theorem dX10_lay_87 : decode cX10_lay 87 = .ok (.invokevirtual 39, 3) := by decide +kernel
theorem dX10_lay_90 : decode cX10_lay 90 = .ok (.lsub, 1) := by decide +kernel
theorem dX10_lay_91 : decode cX10_lay 91 = .ok (.lstore 6, 2) := by decide +kernel
theorem dX10_lay_93 : decode cX10_lay 93 = .ok (.iinc 10 (-1), 3) := by decide +kernel
theorem dX10_lay_96 : decode cX10_lay 96 = .ok (.goto (-47), 3) := by decide +kernel
theorem dX10_lay_99 : decode cX10_lay 99 = .ok (.aload 4, 2) := by decide +kernel
theorem dX10_lay_101 : decode cX10_lay 101 = .ok (.iload 8, 2) := by decide +kernel
theorem dX10_lay_103 : decode cX10_lay 103 = .ok (.iload 10, 2) := by decide +kernel
theorem dX10_lay_105 : decode cX10_lay 105 = .ok (.invokevirtual 59, 3) := by decide +kernel
theorem dX10_lay_108 : decode cX10_lay 108 = .ok (.iload 5, 2) := by decide +kernel
theorem dX10_lay_110 : decode cX10_lay 110 = .ok (.iload 10, 2) := by decide +kernel
theorem dX10_lay_112 : decode cX10_lay 112 = .ok (.iload 9, 2) := by decide +kernel
theorem dX10_lay_114 : decode cX10_lay 114 = .ok (.imul, 1) := by decide +kernel
theorem dX10_lay_115 : decode cX10_lay 115 = .ok (.isub, 1) := by decide +kernel
theorem dX10_lay_116 : decode cX10_lay 116 = .ok (.istore 5, 2) := by decide +kernel
theorem dX10_lay_118 : decode cX10_lay 118 = .ok (.iinc 8 (-1), 3) := by decide +kernel
theorem dX10_lay_121 : decode cX10_lay 121 = .ok (.goto (-104), 3) := by decide +kernel
theorem dX10_lay_124 : decode cX10_lay 124 = .ok (.return_, 1) := by decide +kernel
theorem dX10_rankOf_0 : decode cX10_rankOf 0 = .ok (.aload_n 1, 1) := by decide +kernel
theorem dX10_rankOf_1 : decode cX10_rankOf 1 = .ok (.invokevirtual 65, 3) := by decide +kernel
theorem dX10_rankOf_4 : decode cX10_rankOf 4 = .ok (.istore_n 2, 1) := by decide +kernel
theorem dX10_rankOf_5 : decode cX10_rankOf 5 = .ok (.lconst 0, 1) := by decide +kernel
theorem dX10_rankOf_6 : decode cX10_rankOf 6 = .ok (.lstore_n 3, 1) := by decide +kernel
theorem dX10_rankOf_7 : decode cX10_rankOf 7 = .ok (.aload_n 0, 1) := by decide +kernel
theorem dX10_rankOf_8 : decode cX10_rankOf 8 = .ok (.getfield 12, 3) := by decide +kernel
theorem dX10_rankOf_11 : decode cX10_rankOf 11 = .ok (.invokevirtual 35, 3) := by decide +kernel
theorem dX10_rankOf_14 : decode cX10_rankOf 14 = .ok (.iconst 1, 1) := by decide +kernel
theorem dX10_rankOf_15 : decode cX10_rankOf 15 = .ok (.isub, 1) := by decide +kernel
theorem dX10_rankOf_16 : decode cX10_rankOf 16 = .ok (.istore 5, 2) := by decide +kernel
theorem dX10_rankOf_18 : decode cX10_rankOf 18 = .ok (.iload 5, 2) := by decide +kernel
theorem dX10_rankOf_20 : decode cX10_rankOf 20 = .ok (.ifCond .lt 84, 3) := by decide +kernel
theorem dX10_rankOf_23 : decode cX10_rankOf 23 = .ok (.aload_n 0, 1) := by decide +kernel
theorem dX10_rankOf_24 : decode cX10_rankOf 24 = .ok (.getfield 12, 3) := by decide +kernel
theorem dX10_rankOf_27 : decode cX10_rankOf 27 = .ok (.iload 5, 2) := by decide +kernel
theorem dX10_rankOf_29 : decode cX10_rankOf 29 = .ok (.invokevirtual 47, 3) := by decide +kernel
theorem dX10_rankOf_32 : decode cX10_rankOf 32 = .ok (.istore 6, 2) := by decide +kernel
theorem dX10_rankOf_34 : decode cX10_rankOf 34 = .ok (.iload 6, 2) := by decide +kernel
theorem dX10_rankOf_36 : decode cX10_rankOf 36 = .ok (.ifCond .le 10, 3) := by decide +kernel
theorem dX10_rankOf_39 : decode cX10_rankOf 39 = .ok (.iload_n 2, 1) := by decide +kernel
theorem dX10_rankOf_40 : decode cX10_rankOf 40 = .ok (.iload 6, 2) := by decide +kernel
theorem dX10_rankOf_42 : decode cX10_rankOf 42 = .ok (.idiv, 1) := by decide +kernel
theorem dX10_rankOf_43 : decode cX10_rankOf 43 = .ok (.goto 4, 3) := by decide +kernel
theorem dX10_rankOf_46 : decode cX10_rankOf 46 = .ok (.iconst 0, 1) := by decide +kernel
theorem dX10_rankOf_47 : decode cX10_rankOf 47 = .ok (.istore 7, 2) := by decide +kernel
theorem dX10_rankOf_49 : decode cX10_rankOf 49 = .ok (.iload 7, 2) := by decide +kernel
theorem dX10_rankOf_51 : decode cX10_rankOf 51 = .ok (.istore 8, 2) := by decide +kernel
theorem dX10_rankOf_53 : decode cX10_rankOf 53 = .ok (.iload 8, 2) := by decide +kernel
theorem dX10_rankOf_55 : decode cX10_rankOf 55 = .ok (.aload_n 1, 1) := by decide +kernel
theorem dX10_rankOf_56 : decode cX10_rankOf 56 = .ok (.iload 5, 2) := by decide +kernel
theorem dX10_rankOf_58 : decode cX10_rankOf 58 = .ok (.invokevirtual 68, 3) := by decide +kernel
theorem dX10_rankOf_61 : decode cX10_rankOf 61 = .ok (.if_icmp .le 25, 3) := by decide +kernel
theorem dX10_rankOf_64 : decode cX10_rankOf 64 = .ok (.lload_n 3, 1) := by decide +kernel
theorem dX10_rankOf_65 : decode cX10_rankOf 65 = .ok (.aload_n 0, 1) := by decide +kernel
theorem dX10_rankOf_66 : decode cX10_rankOf 66 = .ok (.iload 5, 2) := by decide +kernel
theorem dX10_rankOf_68 : decode cX10_rankOf 68 = .ok (.iload_n 2, 1) := by decide +kernel
theorem dX10_rankOf_69 : decode cX10_rankOf 69 = .ok (.iload 8, 2) := by decide +kernel
theorem dX10_rankOf_71 : decode cX10_rankOf 71 = .ok (.iload 6, 2) := by decide +kernel
theorem dX10_rankOf_73 : decode cX10_rankOf 73 = .ok (.imul, 1) := by decide +kernel
theorem dX10_rankOf_74 : decode cX10_rankOf 74 = .ok (.isub, 1) := by decide +kernel
theorem dX10_rankOf_75 : decode cX10_rankOf 75 = .ok (.invokevirtual 39, 3) := by decide +kernel
theorem dX10_rankOf_78 : decode cX10_rankOf 78 = .ok (.ladd, 1) := by decide +kernel
theorem dX10_rankOf_79 : decode cX10_rankOf 79 = .ok (.lstore_n 3, 1) := by decide +kernel
theorem dX10_rankOf_80 : decode cX10_rankOf 80 = .ok (.iinc 8 (-1), 3) := by decide +kernel
theorem dX10_rankOf_83 : decode cX10_rankOf 83 = .ok (.goto (-30), 3) := by decide +kernel
theorem dX10_rankOf_86 : decode cX10_rankOf 86 = .ok (.iload_n 2, 1) := by decide +kernel
theorem dX10_rankOf_87 : decode cX10_rankOf 87 = .ok (.aload_n 1, 1) := by decide +kernel
theorem dX10_rankOf_88 : decode cX10_rankOf 88 = .ok (.iload 5, 2) := by decide +kernel
theorem dX10_rankOf_90 : decode cX10_rankOf 90 = .ok (.invokevirtual 68, 3) := by decide +kernel
theorem dX10_rankOf_93 : decode cX10_rankOf 93 = .ok (.iload 6, 2) := by decide +kernel
theorem dX10_rankOf_95 : decode cX10_rankOf 95 = .ok (.imul, 1) := by decide +kernel
theorem dX10_rankOf_96 : decode cX10_rankOf 96 = .ok (.isub, 1) := by decide +kernel
theorem dX10_rankOf_97 : decode cX10_rankOf 97 = .ok (.istore_n 2, 1) := by decide +kernel
theorem dX10_rankOf_98 : decode cX10_rankOf 98 = .ok (.iinc 5 (-1), 3) := by decide +kernel
theorem dX10_rankOf_101 : decode cX10_rankOf 101 = .ok (.goto (-83), 3) := by decide +kernel
theorem dX10_rankOf_104 : decode cX10_rankOf 104 = .ok (.lload_n 3, 1) := by decide +kernel
theorem dX10_rankOf_105 : decode cX10_rankOf 105 = .ok (.lreturn, 1) := by decide +kernel
theorem dX10_coins_0 : decode cX10_coins 0 = .ok (.aload_n 0, 1) := by decide +kernel
theorem dX10_coins_1 : decode cX10_coins 1 = .ok (.getfield 12, 3) := by decide +kernel
theorem dX10_coins_4 : decode cX10_coins 4 = .ok (.areturn, 1) := by decide +kernel
theorem dJ9_floorMod_7cf53_0 : decode cJ9_floorMod_7cf53 0 = .ok (.iload_n 0, 1) := by decide +kernel
theorem dJ9_floorMod_7cf53_1 : decode cJ9_floorMod_7cf53 1 = .ok (.iload_n 1, 1) := by decide +kernel
theorem dJ9_floorMod_7cf53_2 : decode cJ9_floorMod_7cf53 2 = .ok (.irem, 1) := by decide +kernel
theorem dJ9_floorMod_7cf53_3 : decode cJ9_floorMod_7cf53 3 = .ok (.istore_n 2, 1) := by decide +kernel
theorem dJ9_floorMod_7cf53_4 : decode cJ9_floorMod_7cf53 4 = .ok (.iload_n 0, 1) := by decide +kernel
theorem dJ9_floorMod_7cf53_5 : decode cJ9_floorMod_7cf53 5 = .ok (.iload_n 1, 1) := by decide +kernel
theorem dJ9_floorMod_7cf53_6 : decode cJ9_floorMod_7cf53 6 = .ok (.ixor, 1) := by decide +kernel
theorem dJ9_floorMod_7cf53_7 : decode cJ9_floorMod_7cf53 7 = .ok (.ifCond .ge 11, 3) := by decide +kernel
theorem dJ9_floorMod_7cf53_10 : decode cJ9_floorMod_7cf53 10 = .ok (.iload_n 2, 1) := by decide +kernel
theorem dJ9_floorMod_7cf53_11 : decode cJ9_floorMod_7cf53 11 = .ok (.ifCond .eq 7, 3) := by decide +kernel
theorem dJ9_floorMod_7cf53_14 : decode cJ9_floorMod_7cf53 14 = .ok (.iload_n 2, 1) := by decide +kernel
theorem dJ9_floorMod_7cf53_15 : decode cJ9_floorMod_7cf53 15 = .ok (.iload_n 1, 1) := by decide +kernel
theorem dJ9_floorMod_7cf53_16 : decode cJ9_floorMod_7cf53 16 = .ok (.iadd, 1) := by decide +kernel
theorem dJ9_floorMod_7cf53_17 : decode cJ9_floorMod_7cf53 17 = .ok (.ireturn, 1) := by decide +kernel
theorem dJ9_floorMod_7cf53_18 : decode cJ9_floorMod_7cf53 18 = .ok (.iload_n 2, 1) := by decide +kernel
theorem dJ9_floorMod_7cf53_19 : decode cJ9_floorMod_7cf53 19 = .ok (.ireturn, 1) := by decide +kernel
theorem dJ9_max_7cf53_0 : decode cJ9_max_7cf53 0 = .ok (.iload_n 0, 1) := by decide +kernel
theorem dJ9_max_7cf53_1 : decode cJ9_max_7cf53 1 = .ok (.iload_n 1, 1) := by decide +kernel
theorem dJ9_max_7cf53_2 : decode cJ9_max_7cf53 2 = .ok (.if_icmp .lt 7, 3) := by decide +kernel
theorem dJ9_max_7cf53_5 : decode cJ9_max_7cf53 5 = .ok (.iload_n 0, 1) := by decide +kernel
theorem dJ9_max_7cf53_6 : decode cJ9_max_7cf53 6 = .ok (.goto 4, 3) := by decide +kernel
theorem dJ9_max_7cf53_9 : decode cJ9_max_7cf53 9 = .ok (.iload_n 1, 1) := by decide +kernel
theorem dJ9_max_7cf53_10 : decode cJ9_max_7cf53 10 = .ok (.ireturn, 1) := by decide +kernel
theorem dJ9_min_7cf53_0 : decode cJ9_min_7cf53 0 = .ok (.iload_n 0, 1) := by decide +kernel
theorem dJ9_min_7cf53_1 : decode cJ9_min_7cf53 1 = .ok (.iload_n 1, 1) := by decide +kernel
theorem dJ9_min_7cf53_2 : decode cJ9_min_7cf53 2 = .ok (.if_icmp .gt 7, 3) := by decide +kernel
theorem dJ9_min_7cf53_5 : decode cJ9_min_7cf53 5 = .ok (.iload_n 0, 1) := by decide +kernel
theorem dJ9_min_7cf53_6 : decode cJ9_min_7cf53 6 = .ok (.goto 4, 3) := by decide +kernel
theorem dJ9_min_7cf53_9 : decode cJ9_min_7cf53 9 = .ok (.iload_n 1, 1) := by decide +kernel
theorem dJ9_min_7cf53_10 : decode cJ9_min_7cf53 10 = .ok (.ireturn, 1) := by decide +kernel
theorem dJ9_min_f86c9_0 : decode cJ9_min_f86c9 0 = .ok (.lload_n 0, 1) := by decide +kernel
theorem dJ9_min_f86c9_1 : decode cJ9_min_f86c9 1 = .ok (.lload_n 2, 1) := by decide +kernel
theorem dJ9_min_f86c9_2 : decode cJ9_min_f86c9 2 = .ok (.lcmp, 1) := by decide +kernel
theorem dJ9_min_f86c9_3 : decode cJ9_min_f86c9 3 = .ok (.ifCond .gt 7, 3) := by decide +kernel
theorem dJ9_min_f86c9_6 : decode cJ9_min_f86c9 6 = .ok (.lload_n 0, 1) := by decide +kernel
theorem dJ9_min_f86c9_7 : decode cJ9_min_f86c9 7 = .ok (.goto 4, 3) := by decide +kernel
theorem dJ9_min_f86c9_10 : decode cJ9_min_f86c9 10 = .ok (.lload_n 2, 1) := by decide +kernel
theorem dJ9_min_f86c9_11 : decode cJ9_min_f86c9 11 = .ok (.lreturn, 1) := by decide +kernel
theorem dJ7_fill_d0a16_0 : decode cJ7_fill_d0a16 0 = .ok (.iconst 0, 1) := by decide +kernel
theorem dJ7_fill_d0a16_1 : decode cJ7_fill_d0a16 1 = .ok (.istore_n 3, 1) := by decide +kernel
theorem dJ7_fill_d0a16_2 : decode cJ7_fill_d0a16 2 = .ok (.aload_n 0, 1) := by decide +kernel
theorem dJ7_fill_d0a16_3 : decode cJ7_fill_d0a16 3 = .ok (.arraylength, 1) := by decide +kernel
theorem dJ7_fill_d0a16_4 : decode cJ7_fill_d0a16 4 = .ok (.istore 4, 2) := by decide +kernel
theorem dJ7_fill_d0a16_6 : decode cJ7_fill_d0a16 6 = .ok (.iload_n 3, 1) := by decide +kernel
theorem dJ7_fill_d0a16_7 : decode cJ7_fill_d0a16 7 = .ok (.iload 4, 2) := by decide +kernel
theorem dJ7_fill_d0a16_9 : decode cJ7_fill_d0a16 9 = .ok (.if_icmp .ge 13, 3) := by decide +kernel
theorem dJ7_fill_d0a16_12 : decode cJ7_fill_d0a16 12 = .ok (.aload_n 0, 1) := by decide +kernel
theorem dJ7_fill_d0a16_13 : decode cJ7_fill_d0a16 13 = .ok (.iload_n 3, 1) := by decide +kernel
theorem dJ7_fill_d0a16_14 : decode cJ7_fill_d0a16 14 = .ok (.lload_n 1, 1) := by decide +kernel
theorem dJ7_fill_d0a16_15 : decode cJ7_fill_d0a16 15 = .ok (.lastore, 1) := by decide +kernel
theorem dJ7_fill_d0a16_16 : decode cJ7_fill_d0a16 16 = .ok (.iinc 3 1, 3) := by decide +kernel
theorem dJ7_fill_d0a16_19 : decode cJ7_fill_d0a16 19 = .ok (.goto (-13), 3) := by decide +kernel
theorem dJ7_fill_d0a16_22 : decode cJ7_fill_d0a16 22 = .ok (.return_, 1) := by decide +kernel
theorem dJ7_fill_53178_0 : decode cJ7_fill_53178 0 = .ok (.iconst 0, 1) := by decide +kernel
theorem dJ7_fill_53178_1 : decode cJ7_fill_53178 1 = .ok (.istore_n 2, 1) := by decide +kernel
theorem dJ7_fill_53178_2 : decode cJ7_fill_53178 2 = .ok (.aload_n 0, 1) := by decide +kernel
theorem dJ7_fill_53178_3 : decode cJ7_fill_53178 3 = .ok (.arraylength, 1) := by decide +kernel
theorem dJ7_fill_53178_4 : decode cJ7_fill_53178 4 = .ok (.istore_n 3, 1) := by decide +kernel
theorem dJ7_fill_53178_5 : decode cJ7_fill_53178 5 = .ok (.iload_n 2, 1) := by decide +kernel
theorem dJ7_fill_53178_6 : decode cJ7_fill_53178 6 = .ok (.iload_n 3, 1) := by decide +kernel
theorem dJ7_fill_53178_7 : decode cJ7_fill_53178 7 = .ok (.if_icmp .ge 13, 3) := by decide +kernel
theorem dJ7_fill_53178_10 : decode cJ7_fill_53178 10 = .ok (.aload_n 0, 1) := by decide +kernel
theorem dJ7_fill_53178_11 : decode cJ7_fill_53178 11 = .ok (.iload_n 2, 1) := by decide +kernel
theorem dJ7_fill_53178_12 : decode cJ7_fill_53178 12 = .ok (.iload_n 1, 1) := by decide +kernel
theorem dJ7_fill_53178_13 : decode cJ7_fill_53178 13 = .ok (.iastore, 1) := by decide +kernel
theorem dJ7_fill_53178_14 : decode cJ7_fill_53178 14 = .ok (.iinc 2 1, 3) := by decide +kernel
theorem dJ7_fill_53178_17 : decode cJ7_fill_53178 17 = .ok (.goto (-12), 3) := by decide +kernel
theorem dJ7_fill_53178_20 : decode cJ7_fill_53178 20 = .ok (.return_, 1) := by decide +kernel
theorem dL_at_0 : decode cL_at 0 = .ok (.aload_n 3, 1) := by decide +kernel
theorem dL_at_1 : decode cL_at 1 = .ok (.iconst 0, 1) := by decide +kernel
theorem dL_at_2 : decode cL_at 2 = .ok (.aload_n 0, 1) := by decide +kernel
theorem dL_at_3 : decode cL_at 3 = .ok (.iload_n 1, 1) := by decide +kernel
theorem dL_at_4 : decode cL_at 4 = .ok (.iload_n 2, 1) := by decide +kernel
theorem dL_at_5 : decode cL_at 5 = .ok (.invokevirtual 7, 3) := by decide +kernel
theorem dL_at_8 : decode cL_at 8 = .ok (.i2l, 1) := by decide +kernel
theorem dL_at_9 : decode cL_at 9 = .ok (.lastore, 1) := by decide +kernel
theorem dL_at_10 : decode cL_at 10 = .ok (.goto 7, 3) := by decide +kernel
theorem dL_at_13 : decode cL_at 13 = .ok (.astore 4, 2) := by decide +kernel
theorem dL_at_15 : decode cL_at 15 = .ok (.iconst 1, 1) := by decide +kernel
theorem dL_at_16 : decode cL_at 16 = .ok (.ireturn, 1) := by decide +kernel
theorem dL_at_17 : decode cL_at 17 = .ok (.iconst 0, 1) := by decide +kernel
theorem dL_at_18 : decode cL_at 18 = .ok (.ireturn, 1) := by decide +kernel
theorem dL_fewest_0 : decode cL_fewest 0 = .ok (.aload 4, 2) := by decide +kernel
theorem dL_fewest_2 : decode cL_fewest 2 = .ok (.iconst 0, 1) := by decide +kernel
theorem dL_fewest_3 : decode cL_fewest 3 = .ok (.aload_n 0, 1) := by decide +kernel
theorem dL_fewest_4 : decode cL_fewest 4 = .ok (.iload_n 1, 1) := by decide +kernel
theorem dL_fewest_5 : decode cL_fewest 5 = .ok (.lload_n 2, 1) := by decide +kernel
theorem dL_fewest_6 : decode cL_fewest 6 = .ok (.invokevirtual 15, 3) := by decide +kernel
theorem dL_fewest_9 : decode cL_fewest 9 = .ok (.lastore, 1) := by decide +kernel
theorem dL_fewest_10 : decode cL_fewest 10 = .ok (.goto 11, 3) := by decide +kernel
theorem dL_fewest_13 : decode cL_fewest 13 = .ok (.astore 5, 2) := by decide +kernel
theorem dL_fewest_15 : decode cL_fewest 15 = .ok (.iconst 1, 1) := by decide +kernel
theorem dL_fewest_16 : decode cL_fewest 16 = .ok (.ireturn, 1) := by decide +kernel
theorem dL_fewest_17 : decode cL_fewest 17 = .ok (.astore 5, 2) := by decide +kernel
theorem dL_fewest_19 : decode cL_fewest 19 = .ok (.iconst 2, 1) := by decide +kernel
theorem dL_fewest_20 : decode cL_fewest 20 = .ok (.ireturn, 1) := by decide +kernel
theorem dL_fewest_21 : decode cL_fewest 21 = .ok (.iconst 0, 1) := by decide +kernel
theorem dL_fewest_22 : decode cL_fewest 22 = .ok (.ireturn, 1) := by decide +kernel
theorem dL_with_0 : decode cL_with 0 = .ok (.aload 5, 2) := by decide +kernel
theorem dL_with_2 : decode cL_with 2 = .ok (.iconst 0, 1) := by decide +kernel
theorem dL_with_3 : decode cL_with 3 = .ok (.aload_n 0, 1) := by decide +kernel
theorem dL_with_4 : decode cL_with 4 = .ok (.iload_n 1, 1) := by decide +kernel
theorem dL_with_5 : decode cL_with 5 = .ok (.lload_n 2, 1) := by decide +kernel
theorem dL_with_6 : decode cL_with 6 = .ok (.iload 4, 2) := by decide +kernel
theorem dL_with_8 : decode cL_with 8 = .ok (.invokevirtual 21, 3) := by decide +kernel
theorem dL_with_11 : decode cL_with 11 = .ok (.lastore, 1) := by decide +kernel
theorem dL_with_12 : decode cL_with 12 = .ok (.goto 11, 3) := by decide +kernel
theorem dL_with_15 : decode cL_with 15 = .ok (.astore 6, 2) := by decide +kernel
theorem dL_with_17 : decode cL_with 17 = .ok (.iconst 1, 1) := by decide +kernel
theorem dL_with_18 : decode cL_with 18 = .ok (.ireturn, 1) := by decide +kernel
theorem dL_with_19 : decode cL_with 19 = .ok (.astore 6, 2) := by decide +kernel
theorem dL_with_21 : decode cL_with 21 = .ok (.iconst 2, 1) := by decide +kernel
theorem dL_with_22 : decode cL_with 22 = .ok (.ireturn, 1) := by decide +kernel
theorem dL_with_23 : decode cL_with 23 = .ok (.iconst 0, 1) := by decide +kernel
theorem dL_with_24 : decode cL_with 24 = .ok (.ireturn, 1) := by decide +kernel
theorem dL_greedy_0 : decode cL_greedy 0 = .ok (.aload 4, 2) := by decide +kernel
theorem dL_greedy_2 : decode cL_greedy 2 = .ok (.iconst 0, 1) := by decide +kernel
theorem dL_greedy_3 : decode cL_greedy 3 = .ok (.aload_n 0, 1) := by decide +kernel
theorem dL_greedy_4 : decode cL_greedy 4 = .ok (.iload_n 1, 1) := by decide +kernel
theorem dL_greedy_5 : decode cL_greedy 5 = .ok (.lload_n 2, 1) := by decide +kernel
theorem dL_greedy_6 : decode cL_greedy 6 = .ok (.invokevirtual 25, 3) := by decide +kernel
theorem dL_greedy_9 : decode cL_greedy 9 = .ok (.lastore, 1) := by decide +kernel
theorem dL_greedy_10 : decode cL_greedy 10 = .ok (.goto 11, 3) := by decide +kernel
theorem dL_greedy_13 : decode cL_greedy 13 = .ok (.astore 5, 2) := by decide +kernel
theorem dL_greedy_15 : decode cL_greedy 15 = .ok (.iconst 1, 1) := by decide +kernel
theorem dL_greedy_16 : decode cL_greedy 16 = .ok (.ireturn, 1) := by decide +kernel
theorem dL_greedy_17 : decode cL_greedy 17 = .ok (.astore 5, 2) := by decide +kernel
theorem dL_greedy_19 : decode cL_greedy 19 = .ok (.iconst 2, 1) := by decide +kernel
theorem dL_greedy_20 : decode cL_greedy 20 = .ok (.ireturn, 1) := by decide +kernel
theorem dL_greedy_21 : decode cL_greedy 21 = .ok (.iconst 0, 1) := by decide +kernel
theorem dL_greedy_22 : decode cL_greedy 22 = .ok (.ireturn, 1) := by decide +kernel
theorem dL_always_0 : decode cL_always 0 = .ok (.aload_n 2, 1) := by decide +kernel
theorem dL_always_1 : decode cL_always 1 = .ok (.iconst 0, 1) := by decide +kernel
theorem dL_always_2 : decode cL_always 2 = .ok (.aload_n 0, 1) := by decide +kernel
theorem dL_always_3 : decode cL_always 3 = .ok (.iload_n 1, 1) := by decide +kernel
theorem dL_always_4 : decode cL_always 4 = .ok (.invokevirtual 28, 3) := by decide +kernel
theorem dL_always_7 : decode cL_always 7 = .ok (.ifCond .eq 7, 3) := by decide +kernel
theorem dL_always_10 : decode cL_always 10 = .ok (.lconst 1, 1) := by decide +kernel
theorem dL_always_11 : decode cL_always 11 = .ok (.goto 4, 3) := by decide +kernel
theorem dL_always_14 : decode cL_always 14 = .ok (.lconst 0, 1) := by decide +kernel
theorem dL_always_15 : decode cL_always 15 = .ok (.lastore, 1) := by decide +kernel
theorem dL_always_16 : decode cL_always 16 = .ok (.goto 6, 3) := by decide +kernel
theorem dL_always_19 : decode cL_always 19 = .ok (.astore_n 3, 1) := by decide +kernel
theorem dL_always_20 : decode cL_always 20 = .ok (.iconst 1, 1) := by decide +kernel
theorem dL_always_21 : decode cL_always 21 = .ok (.ireturn, 1) := by decide +kernel
theorem dL_always_22 : decode cL_always 22 = .ok (.iconst 0, 1) := by decide +kernel
theorem dL_always_23 : decode cL_always 23 = .ok (.ireturn, 1) := by decide +kernel
theorem dL_fails_0 : decode cL_fails 0 = .ok (.aload_n 2, 1) := by decide +kernel
theorem dL_fails_1 : decode cL_fails 1 = .ok (.iconst 0, 1) := by decide +kernel
theorem dL_fails_2 : decode cL_fails 2 = .ok (.aload_n 0, 1) := by decide +kernel
theorem dL_fails_3 : decode cL_fails 3 = .ok (.iload_n 1, 1) := by decide +kernel
theorem dL_fails_4 : decode cL_fails 4 = .ok (.invokevirtual 32, 3) := by decide +kernel
theorem dL_fails_7 : decode cL_fails 7 = .ok (.i2l, 1) := by decide +kernel
theorem dL_fails_8 : decode cL_fails 8 = .ok (.lastore, 1) := by decide +kernel
theorem dL_fails_9 : decode cL_fails 9 = .ok (.goto 6, 3) := by decide +kernel
theorem dL_fails_12 : decode cL_fails 12 = .ok (.astore_n 3, 1) := by decide +kernel
theorem dL_fails_13 : decode cL_fails 13 = .ok (.iconst 1, 1) := by decide +kernel
theorem dL_fails_14 : decode cL_fails 14 = .ok (.ireturn, 1) := by decide +kernel
theorem dL_fails_15 : decode cL_fails 15 = .ok (.iconst 0, 1) := by decide +kernel
theorem dL_fails_16 : decode cL_fails 16 = .ok (.ireturn, 1) := by decide +kernel
theorem dL_divisor_0 : decode cL_divisor 0 = .ok (.aload_n 2, 1) := by decide +kernel
theorem dL_divisor_1 : decode cL_divisor 1 = .ok (.iconst 0, 1) := by decide +kernel
theorem dL_divisor_2 : decode cL_divisor 2 = .ok (.aload_n 0, 1) := by decide +kernel
theorem dL_divisor_3 : decode cL_divisor 3 = .ok (.iload_n 1, 1) := by decide +kernel
theorem dL_divisor_4 : decode cL_divisor 4 = .ok (.invokevirtual 36, 3) := by decide +kernel
theorem dL_divisor_7 : decode cL_divisor 7 = .ok (.i2l, 1) := by decide +kernel
theorem dL_divisor_8 : decode cL_divisor 8 = .ok (.lastore, 1) := by decide +kernel
theorem dL_divisor_9 : decode cL_divisor 9 = .ok (.goto 6, 3) := by decide +kernel
theorem dL_divisor_12 : decode cL_divisor 12 = .ok (.astore_n 3, 1) := by decide +kernel
theorem dL_divisor_13 : decode cL_divisor 13 = .ok (.iconst 1, 1) := by decide +kernel
theorem dL_divisor_14 : decode cL_divisor 14 = .ok (.ireturn, 1) := by decide +kernel
theorem dL_divisor_15 : decode cL_divisor 15 = .ok (.iconst 0, 1) := by decide +kernel
theorem dL_divisor_16 : decode cL_divisor 16 = .ok (.ireturn, 1) := by decide +kernel
theorem dL_many_0 : decode cL_many 0 = .ok (.aload_n 2, 1) := by decide +kernel
theorem dL_many_1 : decode cL_many 1 = .ok (.iconst 0, 1) := by decide +kernel
theorem dL_many_2 : decode cL_many 2 = .ok (.aload_n 0, 1) := by decide +kernel
theorem dL_many_3 : decode cL_many 3 = .ok (.iload_n 1, 1) := by decide +kernel
theorem dL_many_4 : decode cL_many 4 = .ok (.invokevirtual 39, 3) := by decide +kernel
theorem dL_many_7 : decode cL_many 7 = .ok (.lastore, 1) := by decide +kernel
theorem dL_many_8 : decode cL_many 8 = .ok (.goto 6, 3) := by decide +kernel
theorem dL_many_11 : decode cL_many 11 = .ok (.astore_n 3, 1) := by decide +kernel
theorem dL_many_12 : decode cL_many 12 = .ok (.iconst 1, 1) := by decide +kernel
theorem dL_many_13 : decode cL_many 13 = .ok (.ireturn, 1) := by decide +kernel
theorem dL_many_14 : decode cL_many 14 = .ok (.iconst 0, 1) := by decide +kernel
theorem dL_many_15 : decode cL_many 15 = .ok (.ireturn, 1) := by decide +kernel
theorem dL_last_0 : decode cL_last 0 = .ok (.aload_n 2, 1) := by decide +kernel
theorem dL_last_1 : decode cL_last 1 = .ok (.iconst 0, 1) := by decide +kernel
theorem dL_last_2 : decode cL_last 2 = .ok (.aload_n 0, 1) := by decide +kernel
theorem dL_last_3 : decode cL_last 3 = .ok (.iload_n 1, 1) := by decide +kernel
theorem dL_last_4 : decode cL_last 4 = .ok (.invokevirtual 43, 3) := by decide +kernel
theorem dL_last_7 : decode cL_last 7 = .ok (.i2l, 1) := by decide +kernel
theorem dL_last_8 : decode cL_last 8 = .ok (.lastore, 1) := by decide +kernel
theorem dL_last_9 : decode cL_last 9 = .ok (.goto 6, 3) := by decide +kernel
theorem dL_last_12 : decode cL_last 12 = .ok (.astore_n 3, 1) := by decide +kernel
theorem dL_last_13 : decode cL_last 13 = .ok (.iconst 1, 1) := by decide +kernel
theorem dL_last_14 : decode cL_last 14 = .ok (.ireturn, 1) := by decide +kernel
theorem dL_last_15 : decode cL_last 15 = .ok (.iconst 0, 1) := by decide +kernel
theorem dL_last_16 : decode cL_last 16 = .ok (.ireturn, 1) := by decide +kernel
theorem dL_gap_0 : decode cL_gap 0 = .ok (.aload_n 3, 1) := by decide +kernel
theorem dL_gap_1 : decode cL_gap 1 = .ok (.iconst 0, 1) := by decide +kernel
theorem dL_gap_2 : decode cL_gap 2 = .ok (.aload_n 0, 1) := by decide +kernel
theorem dL_gap_3 : decode cL_gap 3 = .ok (.iload_n 1, 1) := by decide +kernel
theorem dL_gap_4 : decode cL_gap 4 = .ok (.iload_n 2, 1) := by decide +kernel
theorem dL_gap_5 : decode cL_gap 5 = .ok (.invokevirtual 46, 3) := by decide +kernel
theorem dL_gap_8 : decode cL_gap 8 = .ok (.i2l, 1) := by decide +kernel
theorem dL_gap_9 : decode cL_gap 9 = .ok (.lastore, 1) := by decide +kernel
theorem dL_gap_10 : decode cL_gap 10 = .ok (.goto 11, 3) := by decide +kernel
theorem dL_gap_13 : decode cL_gap 13 = .ok (.astore 4, 2) := by decide +kernel
theorem dL_gap_15 : decode cL_gap 15 = .ok (.iconst 1, 1) := by decide +kernel
theorem dL_gap_16 : decode cL_gap 16 = .ok (.ireturn, 1) := by decide +kernel
theorem dL_gap_17 : decode cL_gap 17 = .ok (.astore 4, 2) := by decide +kernel
theorem dL_gap_19 : decode cL_gap 19 = .ok (.iconst 2, 1) := by decide +kernel
theorem dL_gap_20 : decode cL_gap 20 = .ok (.ireturn, 1) := by decide +kernel
theorem dL_gap_21 : decode cL_gap 21 = .ok (.iconst 0, 1) := by decide +kernel
theorem dL_gap_22 : decode cL_gap 22 = .ok (.ireturn, 1) := by decide +kernel
theorem dL_rest_0 : decode cL_rest 0 = .ok (.aload_n 3, 1) := by decide +kernel
theorem dL_rest_1 : decode cL_rest 1 = .ok (.iconst 0, 1) := by decide +kernel
theorem dL_rest_2 : decode cL_rest 2 = .ok (.aload_n 0, 1) := by decide +kernel
theorem dL_rest_3 : decode cL_rest 3 = .ok (.iload_n 1, 1) := by decide +kernel
theorem dL_rest_4 : decode cL_rest 4 = .ok (.iload_n 2, 1) := by decide +kernel
theorem dL_rest_5 : decode cL_rest 5 = .ok (.invokevirtual 49, 3) := by decide +kernel
theorem dL_rest_8 : decode cL_rest 8 = .ok (.i2l, 1) := by decide +kernel
theorem dL_rest_9 : decode cL_rest 9 = .ok (.lastore, 1) := by decide +kernel
theorem dL_rest_10 : decode cL_rest 10 = .ok (.goto 11, 3) := by decide +kernel
theorem dL_rest_13 : decode cL_rest 13 = .ok (.astore 4, 2) := by decide +kernel
theorem dL_rest_15 : decode cL_rest 15 = .ok (.iconst 1, 1) := by decide +kernel
theorem dL_rest_16 : decode cL_rest 16 = .ok (.ireturn, 1) := by decide +kernel
theorem dL_rest_17 : decode cL_rest 17 = .ok (.astore 4, 2) := by decide +kernel
theorem dL_rest_19 : decode cL_rest 19 = .ok (.iconst 2, 1) := by decide +kernel
theorem dL_rest_20 : decode cL_rest 20 = .ok (.ireturn, 1) := by decide +kernel
theorem dL_rest_21 : decode cL_rest 21 = .ok (.iconst 0, 1) := by decide +kernel
theorem dL_rest_22 : decode cL_rest 22 = .ok (.ireturn, 1) := by decide +kernel
theorem dL_mirror_0 : decode cL_mirror 0 = .ok (.aload_n 2, 1) := by decide +kernel
theorem dL_mirror_1 : decode cL_mirror 1 = .ok (.iconst 0, 1) := by decide +kernel
theorem dL_mirror_2 : decode cL_mirror 2 = .ok (.aload_n 0, 1) := by decide +kernel
theorem dL_mirror_3 : decode cL_mirror 3 = .ok (.iload_n 1, 1) := by decide +kernel
theorem dL_mirror_4 : decode cL_mirror 4 = .ok (.invokevirtual 52, 3) := by decide +kernel
theorem dL_mirror_7 : decode cL_mirror 7 = .ok (.ifCond .eq 7, 3) := by decide +kernel
theorem dL_mirror_10 : decode cL_mirror 10 = .ok (.lconst 1, 1) := by decide +kernel
theorem dL_mirror_11 : decode cL_mirror 11 = .ok (.goto 4, 3) := by decide +kernel
theorem dL_mirror_14 : decode cL_mirror 14 = .ok (.lconst 0, 1) := by decide +kernel
theorem dL_mirror_15 : decode cL_mirror 15 = .ok (.lastore, 1) := by decide +kernel
theorem dL_mirror_16 : decode cL_mirror 16 = .ok (.goto 6, 3) := by decide +kernel
theorem dL_mirror_19 : decode cL_mirror 19 = .ok (.astore_n 3, 1) := by decide +kernel
theorem dL_mirror_20 : decode cL_mirror 20 = .ok (.iconst 1, 1) := by decide +kernel
theorem dL_mirror_21 : decode cL_mirror 21 = .ok (.ireturn, 1) := by decide +kernel
theorem dL_mirror_22 : decode cL_mirror 22 = .ok (.iconst 0, 1) := by decide +kernel
theorem dL_mirror_23 : decode cL_mirror 23 = .ok (.ireturn, 1) := by decide +kernel
theorem dL_needed_0 : decode cL_needed 0 = .ok (.aload_n 2, 1) := by decide +kernel
theorem dL_needed_1 : decode cL_needed 1 = .ok (.iconst 0, 1) := by decide +kernel
theorem dL_needed_2 : decode cL_needed 2 = .ok (.aload_n 0, 1) := by decide +kernel
theorem dL_needed_3 : decode cL_needed 3 = .ok (.iload_n 1, 1) := by decide +kernel
theorem dL_needed_4 : decode cL_needed 4 = .ok (.invokevirtual 55, 3) := by decide +kernel
theorem dL_needed_7 : decode cL_needed 7 = .ok (.i2l, 1) := by decide +kernel
theorem dL_needed_8 : decode cL_needed 8 = .ok (.lastore, 1) := by decide +kernel
theorem dL_needed_9 : decode cL_needed 9 = .ok (.goto 6, 3) := by decide +kernel
theorem dL_needed_12 : decode cL_needed 12 = .ok (.astore_n 3, 1) := by decide +kernel
theorem dL_needed_13 : decode cL_needed 13 = .ok (.iconst 1, 1) := by decide +kernel
theorem dL_needed_14 : decode cL_needed 14 = .ok (.ireturn, 1) := by decide +kernel
theorem dL_needed_15 : decode cL_needed 15 = .ok (.iconst 0, 1) := by decide +kernel
theorem dL_needed_16 : decode cL_needed 16 = .ok (.ireturn, 1) := by decide +kernel
theorem dL_same_0 : decode cL_same 0 = .ok (.aload_n 3, 1) := by decide +kernel
theorem dL_same_1 : decode cL_same 1 = .ok (.iconst 0, 1) := by decide +kernel
theorem dL_same_2 : decode cL_same 2 = .ok (.aload_n 0, 1) := by decide +kernel
theorem dL_same_3 : decode cL_same 3 = .ok (.iload_n 1, 1) := by decide +kernel
theorem dL_same_4 : decode cL_same 4 = .ok (.iload_n 2, 1) := by decide +kernel
theorem dL_same_5 : decode cL_same 5 = .ok (.invokevirtual 58, 3) := by decide +kernel
theorem dL_same_8 : decode cL_same 8 = .ok (.ifCond .eq 7, 3) := by decide +kernel
theorem dL_same_11 : decode cL_same 11 = .ok (.lconst 1, 1) := by decide +kernel
theorem dL_same_12 : decode cL_same 12 = .ok (.goto 4, 3) := by decide +kernel
theorem dL_same_15 : decode cL_same 15 = .ok (.lconst 0, 1) := by decide +kernel
theorem dL_same_16 : decode cL_same 16 = .ok (.lastore, 1) := by decide +kernel
theorem dL_same_17 : decode cL_same 17 = .ok (.goto 7, 3) := by decide +kernel
theorem dL_same_20 : decode cL_same 20 = .ok (.astore 4, 2) := by decide +kernel
theorem dL_same_22 : decode cL_same 22 = .ok (.iconst 1, 1) := by decide +kernel
theorem dL_same_23 : decode cL_same 23 = .ok (.ireturn, 1) := by decide +kernel
theorem dL_same_24 : decode cL_same 24 = .ok (.iconst 0, 1) := by decide +kernel
theorem dL_same_25 : decode cL_same 25 = .ok (.ireturn, 1) := by decide +kernel
theorem dL_join_0 : decode cL_join 0 = .ok (.aload 4, 2) := by decide +kernel
theorem dL_join_2 : decode cL_join 2 = .ok (.iconst 0, 1) := by decide +kernel
theorem dL_join_3 : decode cL_join 3 = .ok (.aload_n 0, 1) := by decide +kernel
theorem dL_join_4 : decode cL_join 4 = .ok (.iload_n 1, 1) := by decide +kernel
theorem dL_join_5 : decode cL_join 5 = .ok (.iload_n 2, 1) := by decide +kernel
theorem dL_join_6 : decode cL_join 6 = .ok (.iload_n 3, 1) := by decide +kernel
theorem dL_join_7 : decode cL_join 7 = .ok (.invokevirtual 62, 3) := by decide +kernel
theorem dL_join_10 : decode cL_join 10 = .ok (.i2l, 1) := by decide +kernel
theorem dL_join_11 : decode cL_join 11 = .ok (.lastore, 1) := by decide +kernel
theorem dL_join_12 : decode cL_join 12 = .ok (.goto 7, 3) := by decide +kernel
theorem dL_join_15 : decode cL_join 15 = .ok (.astore 5, 2) := by decide +kernel
theorem dL_join_17 : decode cL_join 17 = .ok (.iconst 1, 1) := by decide +kernel
theorem dL_join_18 : decode cL_join 18 = .ok (.ireturn, 1) := by decide +kernel
theorem dL_join_19 : decode cL_join 19 = .ok (.iconst 0, 1) := by decide +kernel
theorem dL_join_20 : decode cL_join 20 = .ok (.ireturn, 1) := by decide +kernel
theorem dL_part_0 : decode cL_part 0 = .ok (.aload 4, 2) := by decide +kernel
theorem dL_part_2 : decode cL_part 2 = .ok (.iconst 0, 1) := by decide +kernel
theorem dL_part_3 : decode cL_part 3 = .ok (.aload_n 0, 1) := by decide +kernel
theorem dL_part_4 : decode cL_part 4 = .ok (.iload_n 1, 1) := by decide +kernel
theorem dL_part_5 : decode cL_part 5 = .ok (.iload_n 2, 1) := by decide +kernel
theorem dL_part_6 : decode cL_part 6 = .ok (.iload_n 3, 1) := by decide +kernel
theorem dL_part_7 : decode cL_part 7 = .ok (.invokevirtual 66, 3) := by decide +kernel
theorem dL_part_10 : decode cL_part 10 = .ok (.i2l, 1) := by decide +kernel
theorem dL_part_11 : decode cL_part 11 = .ok (.lastore, 1) := by decide +kernel
theorem dL_part_12 : decode cL_part 12 = .ok (.goto 7, 3) := by decide +kernel
theorem dL_part_15 : decode cL_part 15 = .ok (.astore 5, 2) := by decide +kernel
theorem dL_part_17 : decode cL_part 17 = .ok (.iconst 1, 1) := by decide +kernel
theorem dL_part_18 : decode cL_part 18 = .ok (.ireturn, 1) := by decide +kernel
theorem dL_part_19 : decode cL_part 19 = .ok (.iconst 0, 1) := by decide +kernel
theorem dL_part_20 : decode cL_part 20 = .ok (.ireturn, 1) := by decide +kernel
theorem dL_factor_0 : decode cL_factor 0 = .ok (.aload 4, 2) := by decide +kernel
theorem dL_factor_2 : decode cL_factor 2 = .ok (.iconst 0, 1) := by decide +kernel
theorem dL_factor_3 : decode cL_factor 3 = .ok (.aload_n 0, 1) := by decide +kernel
theorem dL_factor_4 : decode cL_factor 4 = .ok (.iload_n 1, 1) := by decide +kernel
theorem dL_factor_5 : decode cL_factor 5 = .ok (.iload_n 2, 1) := by decide +kernel
theorem dL_factor_6 : decode cL_factor 6 = .ok (.iload_n 3, 1) := by decide +kernel
theorem dL_factor_7 : decode cL_factor 7 = .ok (.invokevirtual 69, 3) := by decide +kernel
theorem dL_factor_10 : decode cL_factor 10 = .ok (.i2l, 1) := by decide +kernel
theorem dL_factor_11 : decode cL_factor 11 = .ok (.lastore, 1) := by decide +kernel
theorem dL_factor_12 : decode cL_factor 12 = .ok (.goto 11, 3) := by decide +kernel
theorem dL_factor_15 : decode cL_factor 15 = .ok (.astore 5, 2) := by decide +kernel
theorem dL_factor_17 : decode cL_factor 17 = .ok (.iconst 1, 1) := by decide +kernel
theorem dL_factor_18 : decode cL_factor 18 = .ok (.ireturn, 1) := by decide +kernel
theorem dL_factor_19 : decode cL_factor 19 = .ok (.astore 5, 2) := by decide +kernel
theorem dL_factor_21 : decode cL_factor 21 = .ok (.iconst 2, 1) := by decide +kernel
theorem dL_factor_22 : decode cL_factor 22 = .ok (.ireturn, 1) := by decide +kernel
theorem dL_factor_23 : decode cL_factor 23 = .ok (.iconst 0, 1) := by decide +kernel
theorem dL_factor_24 : decode cL_factor 24 = .ok (.ireturn, 1) := by decide +kernel
theorem dL_ways_0 : decode cL_ways 0 = .ok (.aload_n 3, 1) := by decide +kernel
theorem dL_ways_1 : decode cL_ways 1 = .ok (.iconst 0, 1) := by decide +kernel
theorem dL_ways_2 : decode cL_ways 2 = .ok (.aload_n 0, 1) := by decide +kernel
theorem dL_ways_3 : decode cL_ways 3 = .ok (.iload_n 1, 1) := by decide +kernel
theorem dL_ways_4 : decode cL_ways 4 = .ok (.iload_n 2, 1) := by decide +kernel
theorem dL_ways_5 : decode cL_ways 5 = .ok (.invokevirtual 72, 3) := by decide +kernel
theorem dL_ways_8 : decode cL_ways 8 = .ok (.lastore, 1) := by decide +kernel
theorem dL_ways_9 : decode cL_ways 9 = .ok (.goto 11, 3) := by decide +kernel
theorem dL_ways_12 : decode cL_ways 12 = .ok (.astore 4, 2) := by decide +kernel
theorem dL_ways_14 : decode cL_ways 14 = .ok (.iconst 1, 1) := by decide +kernel
theorem dL_ways_15 : decode cL_ways 15 = .ok (.ireturn, 1) := by decide +kernel
theorem dL_ways_16 : decode cL_ways 16 = .ok (.astore 4, 2) := by decide +kernel
theorem dL_ways_18 : decode cL_ways 18 = .ok (.iconst 2, 1) := by decide +kernel
theorem dL_ways_19 : decode cL_ways 19 = .ok (.ireturn, 1) := by decide +kernel
theorem dL_ways_20 : decode cL_ways 20 = .ok (.iconst 0, 1) := by decide +kernel
theorem dL_ways_21 : decode cL_ways 21 = .ok (.ireturn, 1) := by decide +kernel
theorem dL_of_0 : decode cL_of 0 = .ok (.aload 5, 2) := by decide +kernel
theorem dL_of_2 : decode cL_of 2 = .ok (.iconst 0, 1) := by decide +kernel
theorem dL_of_3 : decode cL_of 3 = .ok (.aload_n 0, 1) := by decide +kernel
theorem dL_of_4 : decode cL_of 4 = .ok (.iload_n 1, 1) := by decide +kernel
theorem dL_of_5 : decode cL_of 5 = .ok (.iload_n 2, 1) := by decide +kernel
theorem dL_of_6 : decode cL_of 6 = .ok (.lload_n 3, 1) := by decide +kernel
theorem dL_of_7 : decode cL_of 7 = .ok (.invokevirtual 76, 3) := by decide +kernel
theorem dL_of_10 : decode cL_of 10 = .ok (.ifCond .eq 7, 3) := by decide +kernel
theorem dL_of_13 : decode cL_of 13 = .ok (.lconst 1, 1) := by decide +kernel
theorem dL_of_14 : decode cL_of 14 = .ok (.goto 4, 3) := by decide +kernel
theorem dL_of_17 : decode cL_of 17 = .ok (.lconst 0, 1) := by decide +kernel
theorem dL_of_18 : decode cL_of 18 = .ok (.lastore, 1) := by decide +kernel
theorem dL_of_19 : decode cL_of 19 = .ok (.goto 11, 3) := by decide +kernel
theorem dL_of_22 : decode cL_of 22 = .ok (.astore 6, 2) := by decide +kernel
theorem dL_of_24 : decode cL_of 24 = .ok (.iconst 1, 1) := by decide +kernel
theorem dL_of_25 : decode cL_of 25 = .ok (.ireturn, 1) := by decide +kernel
theorem dL_of_26 : decode cL_of 26 = .ok (.astore 6, 2) := by decide +kernel
theorem dL_of_28 : decode cL_of 28 = .ok (.iconst 2, 1) := by decide +kernel
theorem dL_of_29 : decode cL_of 29 = .ok (.ireturn, 1) := by decide +kernel
theorem dL_of_30 : decode cL_of 30 = .ok (.iconst 0, 1) := by decide +kernel
theorem dL_of_31 : decode cL_of 31 = .ok (.ireturn, 1) := by decide +kernel
theorem dL_hand_0 : decode cL_hand 0 = .ok (.aload_n 2, 1) := by decide +kernel
theorem dL_hand_1 : decode cL_hand 1 = .ok (.iconst 0, 1) := by decide +kernel
theorem dL_hand_2 : decode cL_hand 2 = .ok (.aload_n 0, 1) := by decide +kernel
theorem dL_hand_3 : decode cL_hand 3 = .ok (.iload_n 1, 1) := by decide +kernel
theorem dL_hand_4 : decode cL_hand 4 = .ok (.invokevirtual 80, 3) := by decide +kernel
theorem dL_hand_7 : decode cL_hand 7 = .ok (.i2l, 1) := by decide +kernel
theorem dL_hand_8 : decode cL_hand 8 = .ok (.lastore, 1) := by decide +kernel
theorem dL_hand_9 : decode cL_hand 9 = .ok (.goto 6, 3) := by decide +kernel
theorem dL_hand_12 : decode cL_hand 12 = .ok (.astore_n 3, 1) := by decide +kernel
theorem dL_hand_13 : decode cL_hand 13 = .ok (.iconst 1, 1) := by decide +kernel
theorem dL_hand_14 : decode cL_hand 14 = .ok (.ireturn, 1) := by decide +kernel
theorem dL_hand_15 : decode cL_hand 15 = .ok (.iconst 0, 1) := by decide +kernel
theorem dL_hand_16 : decode cL_hand 16 = .ok (.ireturn, 1) := by decide +kernel
theorem dL_put_0 : decode cL_put 0 = .ok (.aload_n 3, 1) := by decide +kernel
theorem dL_put_1 : decode cL_put 1 = .ok (.iconst 0, 1) := by decide +kernel
theorem dL_put_2 : decode cL_put 2 = .ok (.aload_n 0, 1) := by decide +kernel
theorem dL_put_3 : decode cL_put 3 = .ok (.iload_n 1, 1) := by decide +kernel
theorem dL_put_4 : decode cL_put 4 = .ok (.iload_n 2, 1) := by decide +kernel
theorem dL_put_5 : decode cL_put 5 = .ok (.invokevirtual 83, 3) := by decide +kernel
theorem dL_put_8 : decode cL_put 8 = .ok (.i2l, 1) := by decide +kernel
theorem dL_put_9 : decode cL_put 9 = .ok (.lastore, 1) := by decide +kernel
theorem dL_put_10 : decode cL_put 10 = .ok (.goto 11, 3) := by decide +kernel
theorem dL_put_13 : decode cL_put 13 = .ok (.astore 4, 2) := by decide +kernel
theorem dL_put_15 : decode cL_put 15 = .ok (.iconst 1, 1) := by decide +kernel
theorem dL_put_16 : decode cL_put 16 = .ok (.ireturn, 1) := by decide +kernel
theorem dL_put_17 : decode cL_put 17 = .ok (.astore 4, 2) := by decide +kernel
theorem dL_put_19 : decode cL_put 19 = .ok (.iconst 2, 1) := by decide +kernel
theorem dL_put_20 : decode cL_put 20 = .ok (.ireturn, 1) := by decide +kernel
theorem dL_put_21 : decode cL_put 21 = .ok (.iconst 0, 1) := by decide +kernel
theorem dL_put_22 : decode cL_put 22 = .ok (.ireturn, 1) := by decide +kernel
theorem dL_rank_0 : decode cL_rank 0 = .ok (.aload_n 1, 1) := by decide +kernel
theorem dL_rank_1 : decode cL_rank 1 = .ok (.iconst 0, 1) := by decide +kernel
theorem dL_rank_2 : decode cL_rank 2 = .ok (.aload_n 0, 1) := by decide +kernel
theorem dL_rank_3 : decode cL_rank 3 = .ok (.invokevirtual 86, 3) := by decide +kernel
theorem dL_rank_6 : decode cL_rank 6 = .ok (.lastore, 1) := by decide +kernel
theorem dL_rank_7 : decode cL_rank 7 = .ok (.goto 6, 3) := by decide +kernel
theorem dL_rank_10 : decode cL_rank 10 = .ok (.astore_n 2, 1) := by decide +kernel
theorem dL_rank_11 : decode cL_rank 11 = .ok (.iconst 1, 1) := by decide +kernel
theorem dL_rank_12 : decode cL_rank 12 = .ok (.ireturn, 1) := by decide +kernel
theorem dL_rank_13 : decode cL_rank 13 = .ok (.iconst 0, 1) := by decide +kernel
theorem dL_rank_14 : decode cL_rank 14 = .ok (.ireturn, 1) := by decide +kernel
theorem dL_apart_0 : decode cL_apart 0 = .ok (.aload_n 3, 1) := by decide +kernel
theorem dL_apart_1 : decode cL_apart 1 = .ok (.iconst 0, 1) := by decide +kernel
theorem dL_apart_2 : decode cL_apart 2 = .ok (.aload_n 0, 1) := by decide +kernel
theorem dL_apart_3 : decode cL_apart 3 = .ok (.iload_n 1, 1) := by decide +kernel
theorem dL_apart_4 : decode cL_apart 4 = .ok (.iload_n 2, 1) := by decide +kernel
theorem dL_apart_5 : decode cL_apart 5 = .ok (.invokevirtual 90, 3) := by decide +kernel
theorem dL_apart_8 : decode cL_apart 8 = .ok (.i2l, 1) := by decide +kernel
theorem dL_apart_9 : decode cL_apart 9 = .ok (.lastore, 1) := by decide +kernel
theorem dL_apart_10 : decode cL_apart 10 = .ok (.goto 11, 3) := by decide +kernel
theorem dL_apart_13 : decode cL_apart 13 = .ok (.astore 4, 2) := by decide +kernel
theorem dL_apart_15 : decode cL_apart 15 = .ok (.iconst 1, 1) := by decide +kernel
theorem dL_apart_16 : decode cL_apart 16 = .ok (.ireturn, 1) := by decide +kernel
theorem dL_apart_17 : decode cL_apart 17 = .ok (.astore 4, 2) := by decide +kernel
theorem dL_apart_19 : decode cL_apart 19 = .ok (.iconst 2, 1) := by decide +kernel
theorem dL_apart_20 : decode cL_apart 20 = .ok (.ireturn, 1) := by decide +kernel
theorem dL_apart_21 : decode cL_apart 21 = .ok (.iconst 0, 1) := by decide +kernel
theorem dL_apart_22 : decode cL_apart 22 = .ok (.ireturn, 1) := by decide +kernel
theorem dL_stamps_0 : decode cL_stamps 0 = .ok (.aload_n 3, 1) := by decide +kernel
theorem dL_stamps_1 : decode cL_stamps 1 = .ok (.iconst 0, 1) := by decide +kernel
theorem dL_stamps_2 : decode cL_stamps 2 = .ok (.aload_n 0, 1) := by decide +kernel
theorem dL_stamps_3 : decode cL_stamps 3 = .ok (.iload_n 1, 1) := by decide +kernel
theorem dL_stamps_4 : decode cL_stamps 4 = .ok (.iload_n 2, 1) := by decide +kernel
theorem dL_stamps_5 : decode cL_stamps 5 = .ok (.invokevirtual 93, 3) := by decide +kernel
theorem dL_stamps_8 : decode cL_stamps 8 = .ok (.i2l, 1) := by decide +kernel
theorem dL_stamps_9 : decode cL_stamps 9 = .ok (.lastore, 1) := by decide +kernel
theorem dL_stamps_10 : decode cL_stamps 10 = .ok (.goto 11, 3) := by decide +kernel
theorem dL_stamps_13 : decode cL_stamps 13 = .ok (.astore 4, 2) := by decide +kernel
theorem dL_stamps_15 : decode cL_stamps 15 = .ok (.iconst 1, 1) := by decide +kernel
theorem dL_stamps_16 : decode cL_stamps 16 = .ok (.ireturn, 1) := by decide +kernel
theorem dL_stamps_17 : decode cL_stamps 17 = .ok (.astore 4, 2) := by decide +kernel
theorem dL_stamps_19 : decode cL_stamps 19 = .ok (.iconst 2, 1) := by decide +kernel
theorem dL_stamps_20 : decode cL_stamps 20 = .ok (.ireturn, 1) := by decide +kernel
theorem dL_stamps_21 : decode cL_stamps 21 = .ok (.iconst 0, 1) := by decide +kernel
theorem dL_stamps_22 : decode cL_stamps 22 = .ok (.ireturn, 1) := by decide +kernel
theorem dL_span_0 : decode cL_span 0 = .ok (.aload 4, 2) := by decide +kernel
theorem dL_span_2 : decode cL_span 2 = .ok (.iconst 0, 1) := by decide +kernel
theorem dL_span_3 : decode cL_span 3 = .ok (.aload_n 0, 1) := by decide +kernel
theorem dL_span_4 : decode cL_span 4 = .ok (.iload_n 1, 1) := by decide +kernel
theorem dL_span_5 : decode cL_span 5 = .ok (.iload_n 2, 1) := by decide +kernel
theorem dL_span_6 : decode cL_span 6 = .ok (.iload_n 3, 1) := by decide +kernel
theorem dL_span_7 : decode cL_span 7 = .ok (.invokevirtual 96, 3) := by decide +kernel
theorem dL_span_10 : decode cL_span 10 = .ok (.lastore, 1) := by decide +kernel
theorem dL_span_11 : decode cL_span 11 = .ok (.goto 11, 3) := by decide +kernel
theorem dL_span_14 : decode cL_span 14 = .ok (.astore 5, 2) := by decide +kernel
theorem dL_span_16 : decode cL_span 16 = .ok (.iconst 1, 1) := by decide +kernel
theorem dL_span_17 : decode cL_span 17 = .ok (.ireturn, 1) := by decide +kernel
theorem dL_span_18 : decode cL_span 18 = .ok (.astore 5, 2) := by decide +kernel
theorem dL_span_20 : decode cL_span 20 = .ok (.iconst 2, 1) := by decide +kernel
theorem dL_span_21 : decode cL_span 21 = .ok (.ireturn, 1) := by decide +kernel
theorem dL_span_22 : decode cL_span 22 = .ok (.iconst 0, 1) := by decide +kernel
theorem dL_span_23 : decode cL_span 23 = .ok (.ireturn, 1) := by decide +kernel
theorem dL_best_0 : decode cL_best 0 = .ok (.aload 4, 2) := by decide +kernel
theorem dL_best_2 : decode cL_best 2 = .ok (.iconst 0, 1) := by decide +kernel
theorem dL_best_3 : decode cL_best 3 = .ok (.aload_n 0, 1) := by decide +kernel
theorem dL_best_4 : decode cL_best 4 = .ok (.iload_n 1, 1) := by decide +kernel
theorem dL_best_5 : decode cL_best 5 = .ok (.iload_n 2, 1) := by decide +kernel
theorem dL_best_6 : decode cL_best 6 = .ok (.iload_n 3, 1) := by decide +kernel
theorem dL_best_7 : decode cL_best 7 = .ok (.invokevirtual 100, 3) := by decide +kernel
theorem dL_best_10 : decode cL_best 10 = .ok (.i2l, 1) := by decide +kernel
theorem dL_best_11 : decode cL_best 11 = .ok (.lastore, 1) := by decide +kernel
theorem dL_best_12 : decode cL_best 12 = .ok (.goto 11, 3) := by decide +kernel
theorem dL_best_15 : decode cL_best 15 = .ok (.astore 5, 2) := by decide +kernel
theorem dL_best_17 : decode cL_best 17 = .ok (.iconst 1, 1) := by decide +kernel
theorem dL_best_18 : decode cL_best 18 = .ok (.ireturn, 1) := by decide +kernel
theorem dL_best_19 : decode cL_best 19 = .ok (.astore 5, 2) := by decide +kernel
theorem dL_best_21 : decode cL_best 21 = .ok (.iconst 2, 1) := by decide +kernel
theorem dL_best_22 : decode cL_best 22 = .ok (.ireturn, 1) := by decide +kernel
theorem dL_best_23 : decode cL_best 23 = .ok (.iconst 0, 1) := by decide +kernel
theorem dL_best_24 : decode cL_best 24 = .ok (.ireturn, 1) := by decide +kernel
theorem dL_open_0 : decode cL_open 0 = .ok (.aload_n 0, 1) := by decide +kernel
theorem dL_open_1 : decode cL_open 1 = .ok (.iload_n 1, 1) := by decide +kernel
theorem dL_open_2 : decode cL_open 2 = .ok (.iload_n 2, 1) := by decide +kernel
theorem dL_open_3 : decode cL_open 3 = .ok (.invokevirtual 103, 3) := by decide +kernel
theorem dL_open_6 : decode cL_open 6 = .ok (.goto 6, 3) := by decide +kernel
theorem dL_open_9 : decode cL_open 9 = .ok (.astore_n 3, 1) := by decide +kernel
theorem dL_open_10 : decode cL_open 10 = .ok (.iconst 1, 1) := by decide +kernel
theorem dL_open_11 : decode cL_open 11 = .ok (.ireturn, 1) := by decide +kernel
theorem dL_open_12 : decode cL_open 12 = .ok (.iconst 0, 1) := by decide +kernel
theorem dL_open_13 : decode cL_open 13 = .ok (.ireturn, 1) := by decide +kernel
theorem dL_fill_0 : decode cL_fill 0 = .ok (.aload 4, 2) := by decide +kernel
theorem dL_fill_2 : decode cL_fill 2 = .ok (.iconst 0, 1) := by decide +kernel
theorem dL_fill_3 : decode cL_fill 3 = .ok (.aload_n 0, 1) := by decide +kernel
theorem dL_fill_4 : decode cL_fill 4 = .ok (.iload_n 1, 1) := by decide +kernel
theorem dL_fill_5 : decode cL_fill 5 = .ok (.iload_n 2, 1) := by decide +kernel
theorem dL_fill_6 : decode cL_fill 6 = .ok (.iload_n 3, 1) := by decide +kernel
theorem dL_fill_7 : decode cL_fill 7 = .ok (.invokevirtual 107, 3) := by decide +kernel
theorem dL_fill_10 : decode cL_fill 10 = .ok (.i2l, 1) := by decide +kernel
theorem dL_fill_11 : decode cL_fill 11 = .ok (.lastore, 1) := by decide +kernel
theorem dL_fill_12 : decode cL_fill 12 = .ok (.goto 7, 3) := by decide +kernel
theorem dL_fill_15 : decode cL_fill 15 = .ok (.astore 5, 2) := by decide +kernel
theorem dL_fill_17 : decode cL_fill 17 = .ok (.iconst 1, 1) := by decide +kernel
theorem dL_fill_18 : decode cL_fill 18 = .ok (.ireturn, 1) := by decide +kernel
theorem dL_fill_19 : decode cL_fill 19 = .ok (.iconst 0, 1) := by decide +kernel
theorem dL_fill_20 : decode cL_fill 20 = .ok (.ireturn, 1) := by decide +kernel
theorem dL_has_0 : decode cL_has 0 = .ok (.aload_n 3, 1) := by decide +kernel
theorem dL_has_1 : decode cL_has 1 = .ok (.iconst 0, 1) := by decide +kernel
theorem dL_has_2 : decode cL_has 2 = .ok (.aload_n 0, 1) := by decide +kernel
theorem dL_has_3 : decode cL_has 3 = .ok (.iload_n 1, 1) := by decide +kernel
theorem dL_has_4 : decode cL_has 4 = .ok (.iload_n 2, 1) := by decide +kernel
theorem dL_has_5 : decode cL_has 5 = .ok (.invokevirtual 110, 3) := by decide +kernel
theorem dL_has_8 : decode cL_has 8 = .ok (.i2l, 1) := by decide +kernel
theorem dL_has_9 : decode cL_has 9 = .ok (.lastore, 1) := by decide +kernel
theorem dL_has_10 : decode cL_has 10 = .ok (.goto 7, 3) := by decide +kernel
theorem dL_has_13 : decode cL_has 13 = .ok (.astore 4, 2) := by decide +kernel
theorem dL_has_15 : decode cL_has 15 = .ok (.iconst 1, 1) := by decide +kernel
theorem dL_has_16 : decode cL_has 16 = .ok (.ireturn, 1) := by decide +kernel
theorem dL_has_17 : decode cL_has 17 = .ok (.iconst 0, 1) := by decide +kernel
theorem dL_has_18 : decode cL_has 18 = .ok (.ireturn, 1) := by decide +kernel
theorem dL_pays_0 : decode cL_pays 0 = .ok (.aload_n 3, 1) := by decide +kernel
theorem dL_pays_1 : decode cL_pays 1 = .ok (.iconst 0, 1) := by decide +kernel
theorem dL_pays_2 : decode cL_pays 2 = .ok (.aload_n 0, 1) := by decide +kernel
theorem dL_pays_3 : decode cL_pays 3 = .ok (.iload_n 1, 1) := by decide +kernel
theorem dL_pays_4 : decode cL_pays 4 = .ok (.iload_n 2, 1) := by decide +kernel
theorem dL_pays_5 : decode cL_pays 5 = .ok (.invokevirtual 113, 3) := by decide +kernel
theorem dL_pays_8 : decode cL_pays 8 = .ok (.i2l, 1) := by decide +kernel
theorem dL_pays_9 : decode cL_pays 9 = .ok (.lastore, 1) := by decide +kernel
theorem dL_pays_10 : decode cL_pays 10 = .ok (.goto 7, 3) := by decide +kernel
theorem dL_pays_13 : decode cL_pays 13 = .ok (.astore 4, 2) := by decide +kernel
theorem dL_pays_15 : decode cL_pays 15 = .ok (.iconst 1, 1) := by decide +kernel
theorem dL_pays_16 : decode cL_pays 16 = .ok (.ireturn, 1) := by decide +kernel
theorem dL_pays_17 : decode cL_pays 17 = .ok (.iconst 0, 1) := by decide +kernel
theorem dL_pays_18 : decode cL_pays 18 = .ok (.ireturn, 1) := by decide +kernel
theorem dL_holes_0 : decode cL_holes 0 = .ok (.aload_n 2, 1) := by decide +kernel
theorem dL_holes_1 : decode cL_holes 1 = .ok (.iconst 0, 1) := by decide +kernel
theorem dL_holes_2 : decode cL_holes 2 = .ok (.aload_n 0, 1) := by decide +kernel
theorem dL_holes_3 : decode cL_holes 3 = .ok (.iload_n 1, 1) := by decide +kernel
theorem dL_holes_4 : decode cL_holes 4 = .ok (.invokevirtual 116, 3) := by decide +kernel
theorem dL_holes_7 : decode cL_holes 7 = .ok (.i2l, 1) := by decide +kernel
theorem dL_holes_8 : decode cL_holes 8 = .ok (.lastore, 1) := by decide +kernel
theorem dL_holes_9 : decode cL_holes 9 = .ok (.goto 6, 3) := by decide +kernel
theorem dL_holes_12 : decode cL_holes 12 = .ok (.astore_n 3, 1) := by decide +kernel
theorem dL_holes_13 : decode cL_holes 13 = .ok (.iconst 1, 1) := by decide +kernel
theorem dL_holes_14 : decode cL_holes 14 = .ok (.ireturn, 1) := by decide +kernel
theorem dL_holes_15 : decode cL_holes 15 = .ok (.iconst 0, 1) := by decide +kernel
theorem dL_holes_16 : decode cL_holes 16 = .ok (.ireturn, 1) := by decide +kernel
theorem dL_change_0 : decode cL_change 0 = .ok (.aload 4, 2) := by decide +kernel
theorem dL_change_2 : decode cL_change 2 = .ok (.iconst 0, 1) := by decide +kernel
theorem dL_change_3 : decode cL_change 3 = .ok (.aload_n 0, 1) := by decide +kernel
theorem dL_change_4 : decode cL_change 4 = .ok (.iload_n 1, 1) := by decide +kernel
theorem dL_change_5 : decode cL_change 5 = .ok (.iload_n 2, 1) := by decide +kernel
theorem dL_change_6 : decode cL_change 6 = .ok (.iload_n 3, 1) := by decide +kernel
theorem dL_change_7 : decode cL_change 7 = .ok (.invokevirtual 119, 3) := by decide +kernel
theorem dL_change_10 : decode cL_change 10 = .ok (.i2l, 1) := by decide +kernel
theorem dL_change_11 : decode cL_change 11 = .ok (.lastore, 1) := by decide +kernel
theorem dL_change_12 : decode cL_change 12 = .ok (.goto 11, 3) := by decide +kernel
theorem dL_change_15 : decode cL_change 15 = .ok (.astore 5, 2) := by decide +kernel
theorem dL_change_17 : decode cL_change 17 = .ok (.iconst 1, 1) := by decide +kernel
theorem dL_change_18 : decode cL_change 18 = .ok (.ireturn, 1) := by decide +kernel
theorem dL_change_19 : decode cL_change 19 = .ok (.astore 5, 2) := by decide +kernel
theorem dL_change_21 : decode cL_change 21 = .ok (.iconst 2, 1) := by decide +kernel
theorem dL_change_22 : decode cL_change 22 = .ok (.ireturn, 1) := by decide +kernel
theorem dL_change_23 : decode cL_change 23 = .ok (.iconst 0, 1) := by decide +kernel
theorem dL_change_24 : decode cL_change 24 = .ok (.ireturn, 1) := by decide +kernel
theorem dL_deal_0 : decode cL_deal 0 = .ok (.aload 4, 2) := by decide +kernel
theorem dL_deal_2 : decode cL_deal 2 = .ok (.iconst 0, 1) := by decide +kernel
theorem dL_deal_3 : decode cL_deal 3 = .ok (.aload_n 0, 1) := by decide +kernel
theorem dL_deal_4 : decode cL_deal 4 = .ok (.iload_n 1, 1) := by decide +kernel
theorem dL_deal_5 : decode cL_deal 5 = .ok (.iload_n 2, 1) := by decide +kernel
theorem dL_deal_6 : decode cL_deal 6 = .ok (.iload_n 3, 1) := by decide +kernel
theorem dL_deal_7 : decode cL_deal 7 = .ok (.invokevirtual 122, 3) := by decide +kernel
theorem dL_deal_10 : decode cL_deal 10 = .ok (.i2l, 1) := by decide +kernel
theorem dL_deal_11 : decode cL_deal 11 = .ok (.lastore, 1) := by decide +kernel
theorem dL_deal_12 : decode cL_deal 12 = .ok (.goto 11, 3) := by decide +kernel
theorem dL_deal_15 : decode cL_deal 15 = .ok (.astore 5, 2) := by decide +kernel
theorem dL_deal_17 : decode cL_deal 17 = .ok (.iconst 1, 1) := by decide +kernel
theorem dL_deal_18 : decode cL_deal 18 = .ok (.ireturn, 1) := by decide +kernel
theorem dL_deal_19 : decode cL_deal 19 = .ok (.astore 5, 2) := by decide +kernel
theorem dL_deal_21 : decode cL_deal 21 = .ok (.iconst 2, 1) := by decide +kernel
theorem dL_deal_22 : decode cL_deal 22 = .ok (.ireturn, 1) := by decide +kernel
theorem dL_deal_23 : decode cL_deal 23 = .ok (.iconst 0, 1) := by decide +kernel
theorem dL_deal_24 : decode cL_deal 24 = .ok (.ireturn, 1) := by decide +kernel
