theorem dX10_init_0 : decode cX10_init 0 = .ok (.aload_n 0, 1) := by decide +kernel
theorem dX10_init_1 : decode cX10_init 1 = .ok (.invokespecial 1, 3) := by decide +kernel
theorem dX10_init_4 : decode cX10_init 4 = .ok (.aload_n 0, 1) := by decide +kernel
theorem dX10_init_5 : decode cX10_init 5 = .ok (.sipush 900, 3) := by decide +kernel
theorem dX10_init_8 : decode cX10_init 8 = .ok (.newarray .int, 2) := by decide +kernel
theorem dX10_init_10 : decode cX10_init 10 = .ok (.putfield 7, 3) := by decide +kernel
theorem dX10_init_13 : decode cX10_init 13 = .ok (.aload_n 0, 1) := by decide +kernel
theorem dX10_init_14 : decode cX10_init 14 = .ok (.iconst (-1), 1) := by decide +kernel
theorem dX10_init_15 : decode cX10_init 15 = .ok (.putfield 13, 3) := by decide +kernel
theorem dX10_init_18 : decode cX10_init 18 = .ok (.aload_n 0, 1) := by decide +kernel
theorem dX10_init_19 : decode cX10_init 19 = .ok (.bipush 8, 2) := by decide +kernel
theorem dX10_init_21 : decode cX10_init 21 = .ok (.newarray .int, 2) := by decide +kernel
theorem dX10_init_23 : decode cX10_init 23 = .ok (.putfield 17, 3) := by decide +kernel
theorem dX10_init_26 : decode cX10_init 26 = .ok (.aload_n 0, 1) := by decide +kernel
theorem dX10_init_27 : decode cX10_init 27 = .ok (.sipush 167, 3) := by decide +kernel
theorem dX10_init_30 : decode cX10_init 30 = .ok (.newarray .int, 2) := by decide +kernel
theorem dX10_init_32 : decode cX10_init 32 = .ok (.putfield 20, 3) := by decide +kernel
theorem dX10_init_35 : decode cX10_init 35 = .ok (.aload_n 0, 1) := by decide +kernel
theorem dX10_init_36 : decode cX10_init 36 = .ok (.sipush 167, 3) := by decide +kernel
theorem dX10_init_39 : decode cX10_init 39 = .ok (.newarray .int, 2) := by decide +kernel
theorem dX10_init_41 : decode cX10_init 41 = .ok (.putfield 23, 3) := by decide +kernel
theorem dX10_init_44 : decode cX10_init 44 = .ok (.aload_n 0, 1) := by decide +kernel
theorem dX10_init_45 : decode cX10_init 45 = .ok (.bipush 13, 2) := by decide +kernel
theorem dX10_init_47 : decode cX10_init 47 = .ok (.newarray .int, 2) := by decide +kernel
theorem dX10_init_49 : decode cX10_init 49 = .ok (.putfield 26, 3) := by decide +kernel
theorem dX10_init_52 : decode cX10_init 52 = .ok (.aload_n 0, 1) := by decide +kernel
theorem dX10_init_53 : decode cX10_init 53 = .ok (.sipush 208, 3) := by decide +kernel
theorem dX10_init_56 : decode cX10_init 56 = .ok (.newarray .int, 2) := by decide +kernel
theorem dX10_init_58 : decode cX10_init 58 = .ok (.putfield 29, 3) := by decide +kernel
theorem dX10_init_61 : decode cX10_init 61 = .ok (.aload_n 0, 1) := by decide +kernel
theorem dX10_init_62 : decode cX10_init 62 = .ok (.bipush 39, 2) := by decide +kernel
theorem dX10_init_64 : decode cX10_init 64 = .ok (.newarray .int, 2) := by decide +kernel
theorem dX10_init_66 : decode cX10_init 66 = .ok (.putfield 32, 3) := by decide +kernel
theorem dX10_init_69 : decode cX10_init 69 = .ok (.aload_n 0, 1) := by decide +kernel
theorem dX10_init_70 : decode cX10_init 70 = .ok (.bipush 13, 2) := by decide +kernel
theorem dX10_init_72 : decode cX10_init 72 = .ok (.newarray .int, 2) := by decide +kernel
theorem dX10_init_74 : decode cX10_init 74 = .ok (.putfield 35, 3) := by decide +kernel
theorem dX10_init_77 : decode cX10_init 77 = .ok (.aload_n 0, 1) := by decide +kernel
theorem dX10_init_78 : decode cX10_init 78 = .ok (.iconst 5, 1) := by decide +kernel
theorem dX10_init_79 : decode cX10_init 79 = .ok (.newarray .int, 2) := by decide +kernel
theorem dX10_init_81 : decode cX10_init 81 = .ok (.putfield 38, 3) := by decide +kernel
theorem dX10_init_84 : decode cX10_init 84 = .ok (.aload_n 0, 1) := by decide +kernel
theorem dX10_init_85 : decode cX10_init 85 = .ok (.iconst 5, 1) := by decide +kernel
theorem dX10_init_86 : decode cX10_init 86 = .ok (.newarray .int, 2) := by decide +kernel
theorem dX10_init_88 : decode cX10_init 88 = .ok (.putfield 41, 3) := by decide +kernel
theorem dX10_init_91 : decode cX10_init 91 = .ok (.aload_n 0, 1) := by decide +kernel
theorem dX10_init_92 : decode cX10_init 92 = .ok (.iconst 5, 1) := by decide +kernel
theorem dX10_init_93 : decode cX10_init 93 = .ok (.newarray .int, 2) := by decide +kernel
theorem dX10_init_95 : decode cX10_init 95 = .ok (.putfield 44, 3) := by decide +kernel
theorem dX10_init_98 : decode cX10_init 98 = .ok (.aload_n 0, 1) := by decide +kernel
theorem dX10_init_99 : decode cX10_init 99 = .ok (.iconst 5, 1) := by decide +kernel
theorem dX10_init_100 : decode cX10_init 100 = .ok (.newarray .int, 2) := by decide +kernel
theorem dX10_init_102 : decode cX10_init 102 = .ok (.putfield 47, 3) := by decide +kernel
theorem dX10_init_105 : decode cX10_init 105 = .ok (.return_, 1) := by decide +kernel
theorem dX10_thrown_0 : decode cX10_thrown 0 = .ok (.aload_n 0, 1) := by decide +kernel
theorem dX10_thrown_1 : decode cX10_thrown 1 = .ok (.getfield 50, 3) := by decide +kernel
theorem dX10_thrown_4 : decode cX10_thrown 4 = .ok (.ireturn, 1) := by decide +kernel
theorem dX10_good_0 : decode cX10_good 0 = .ok (.aload_n 0, 1) := by decide +kernel
theorem dX10_good_1 : decode cX10_good 1 = .ok (.iconst 0, 1) := by decide +kernel
theorem dX10_good_2 : decode cX10_good 2 = .ok (.putfield 50, 3) := by decide +kernel
theorem dX10_good_5 : decode cX10_good 5 = .ok (.aload_n 0, 1) := by decide +kernel
theorem dX10_good_6 : decode cX10_good 6 = .ok (.iconst 0, 1) := by decide +kernel
theorem dX10_good_7 : decode cX10_good 7 = .ok (.putfield 53, 3) := by decide +kernel
theorem dX10_good_10 : decode cX10_good 10 = .ok (.return_, 1) := by decide +kernel
theorem dX10_no_0 : decode cX10_no 0 = .ok (.aload_n 0, 1) := by decide +kernel
theorem dX10_no_1 : decode cX10_no 1 = .ok (.iload_n 1, 1) := by decide +kernel
theorem dX10_no_2 : decode cX10_no 2 = .ok (.putfield 53, 3) := by decide +kernel
theorem dX10_no_5 : decode cX10_no 5 = .ok (.iconst (-1), 1) := by decide +kernel
theorem dX10_no_6 : decode cX10_no 6 = .ok (.ireturn, 1) := by decide +kernel
theorem dX10_isNot_0 : decode cX10_isNot 0 = .ok (.aload_n 0, 1) := by decide +kernel
theorem dX10_isNot_1 : decode cX10_isNot 1 = .ok (.iload_n 1, 1) := by decide +kernel
theorem dX10_isNot_2 : decode cX10_isNot 2 = .ok (.putfield 53, 3) := by decide +kernel
theorem dX10_isNot_5 : decode cX10_isNot 5 = .ok (.iconst 0, 1) := by decide +kernel
theorem dX10_isNot_6 : decode cX10_isNot 6 = .ok (.ireturn, 1) := by decide +kernel
theorem dX10_in_0 : decode cX10_in 0 = .ok (.iload_n 0, 1) := by decide +kernel
theorem dX10_in_1 : decode cX10_in 1 = .ok (.iload_n 1, 1) := by decide +kernel
theorem dX10_in_2 : decode cX10_in 2 = .ok (.if_icmp .lt 12, 3) := by decide +kernel
theorem dX10_in_5 : decode cX10_in 5 = .ok (.iload_n 0, 1) := by decide +kernel
theorem dX10_in_6 : decode cX10_in 6 = .ok (.iload_n 2, 1) := by decide +kernel
theorem dX10_in_7 : decode cX10_in 7 = .ok (.if_icmp .gt 7, 3) := by decide +kernel
theorem dX10_in_10 : decode cX10_in 10 = .ok (.iconst 1, 1) := by decide +kernel
theorem dX10_in_11 : decode cX10_in 11 = .ok (.goto 4, 3) := by decide +kernel
theorem dX10_in_14 : decode cX10_in 14 = .ok (.iconst 0, 1) := by decide +kernel
theorem dX10_in_15 : decode cX10_in 15 = .ok (.ireturn, 1) := by decide +kernel
theorem dX10_hasBit_0 : decode cX10_hasBit 0 = .ok (.iload_n 0, 1) := by decide +kernel
theorem dX10_hasBit_1 : decode cX10_hasBit 1 = .ok (.iload_n 1, 1) := by decide +kernel
theorem dX10_hasBit_2 : decode cX10_hasBit 2 = .ok (.ishr, 1) := by decide +kernel
theorem dX10_hasBit_3 : decode cX10_hasBit 3 = .ok (.iconst 1, 1) := by decide +kernel
theorem dX10_hasBit_4 : decode cX10_hasBit 4 = .ok (.iand, 1) := by decide +kernel
theorem dX10_hasBit_5 : decode cX10_hasBit 5 = .ok (.iconst 1, 1) := by decide +kernel
theorem dX10_hasBit_6 : decode cX10_hasBit 6 = .ok (.if_icmp .ne 7, 3) := by decide +kernel
theorem dX10_hasBit_9 : decode cX10_hasBit 9 = .ok (.iconst 1, 1) := by decide +kernel
theorem dX10_hasBit_10 : decode cX10_hasBit 10 = .ok (.goto 4, 3) := by decide +kernel
theorem dX10_hasBit_13 : decode cX10_hasBit 13 = .ok (.iconst 0, 1) := by decide +kernel
theorem dX10_hasBit_14 : decode cX10_hasBit 14 = .ok (.ireturn, 1) := by decide +kernel
theorem dX10_upwards_0 : decode cX10_upwards 0 = .ok (.iload_n 0, 1) := by decide +kernel
theorem dX10_upwards_1 : decode cX10_upwards 1 = .ok (.iload_n 1, 1) := by decide +kernel
theorem dX10_upwards_2 : decode cX10_upwards 2 = .ok (.iadd, 1) := by decide +kernel
theorem dX10_upwards_3 : decode cX10_upwards 3 = .ok (.iconst 1, 1) := by decide +kernel
theorem dX10_upwards_4 : decode cX10_upwards 4 = .ok (.isub, 1) := by decide +kernel
theorem dX10_upwards_5 : decode cX10_upwards 5 = .ok (.iload_n 1, 1) := by decide +kernel
theorem dX10_upwards_6 : decode cX10_upwards 6 = .ok (.idiv, 1) := by decide +kernel
theorem dX10_upwards_7 : decode cX10_upwards 7 = .ok (.ireturn, 1) := by decide +kernel
theorem dX10_copy_0 : decode cX10_copy 0 = .ok (.iconst 0, 1) := by decide +kernel
theorem dX10_copy_1 : decode cX10_copy 1 = .ok (.istore 5, 2) := by decide +kernel
theorem dX10_copy_3 : decode cX10_copy 3 = .ok (.iload 5, 2) := by decide +kernel
theorem dX10_copy_5 : decode cX10_copy 5 = .ok (.iload 4, 2) := by decide +kernel
theorem dX10_copy_7 : decode cX10_copy 7 = .ok (.if_icmp .ge 21, 3) := by decide +kernel
theorem dX10_copy_10 : decode cX10_copy 10 = .ok (.aload_n 2, 1) := by decide +kernel
theorem dX10_copy_11 : decode cX10_copy 11 = .ok (.iload_n 3, 1) := by decide +kernel
theorem dX10_copy_12 : decode cX10_copy 12 = .ok (.iload 5, 2) := by decide +kernel
theorem dX10_copy_14 : decode cX10_copy 14 = .ok (.iadd, 1) := by decide +kernel
theorem dX10_copy_15 : decode cX10_copy 15 = .ok (.aload_n 0, 1) := by decide +kernel
theorem dX10_copy_16 : decode cX10_copy 16 = .ok (.iload_n 1, 1) := by decide +kernel
theorem dX10_copy_17 : decode cX10_copy 17 = .ok (.iload 5, 2) := by decide +kernel
theorem dX10_copy_19 : decode cX10_copy 19 = .ok (.iadd, 1) := by decide +kernel
theorem dX10_copy_20 : decode cX10_copy 20 = .ok (.iaload, 1) := by decide +kernel
theorem dX10_copy_21 : decode cX10_copy 21 = .ok (.iastore, 1) := by decide +kernel
theorem dX10_copy_22 : decode cX10_copy 22 = .ok (.iinc 5 1, 3) := by decide +kernel
theorem dX10_copy_25 : decode cX10_copy 25 = .ok (.goto (-22), 3) := by decide +kernel
theorem dX10_copy_28 : decode cX10_copy 28 = .ok (.return_, 1) := by decide +kernel
theorem dX10_lowest_0 : decode cX10_lowest 0 = .ok (.lload_n 2, 1) := by decide +kernel
theorem dX10_lowest_1 : decode cX10_lowest 1 = .ok (.lstore 5, 2) := by decide +kernel
theorem dX10_lowest_3 : decode cX10_lowest 3 = .ok (.lload_n 0, 1) := by decide +kernel
theorem dX10_lowest_4 : decode cX10_lowest 4 = .ok (.lstore 7, 2) := by decide +kernel
theorem dX10_lowest_6 : decode cX10_lowest 6 = .ok (.lload 7, 2) := by decide +kernel
theorem dX10_lowest_8 : decode cX10_lowest 8 = .ok (.lconst 0, 1) := by decide +kernel
theorem dX10_lowest_9 : decode cX10_lowest 9 = .ok (.lcmp, 1) := by decide +kernel
theorem dX10_lowest_10 : decode cX10_lowest 10 = .ok (.ifCond .eq 21, 3) := by decide +kernel
theorem dX10_lowest_13 : decode cX10_lowest 13 = .ok (.lload 5, 2) := by decide +kernel
theorem dX10_lowest_15 : decode cX10_lowest 15 = .ok (.lload 7, 2) := by decide +kernel
theorem dX10_lowest_17 : decode cX10_lowest 17 = .ok (.lrem, 1) := by decide +kernel
theorem dX10_lowest_18 : decode cX10_lowest 18 = .ok (.lstore 9, 2) := by decide +kernel
theorem dX10_lowest_20 : decode cX10_lowest 20 = .ok (.lload 7, 2) := by decide +kernel
theorem dX10_lowest_22 : decode cX10_lowest 22 = .ok (.lstore 5, 2) := by decide +kernel
theorem dX10_lowest_24 : decode cX10_lowest 24 = .ok (.lload 9, 2) := by decide +kernel
theorem dX10_lowest_26 : decode cX10_lowest 26 = .ok (.lstore 7, 2) := by decide +kernel
theorem dX10_lowest_28 : decode cX10_lowest 28 = .ok (.goto (-22), 3) := by decide +kernel
theorem dX10_lowest_31 : decode cX10_lowest 31 = .ok (.iload 4, 2) := by decide +kernel
theorem dX10_lowest_33 : decode cX10_lowest 33 = .ok (.ifCond .eq 7, 3) := by decide +kernel
theorem dX10_lowest_36 : decode cX10_lowest 36 = .ok (.lload_n 2, 1) := by decide +kernel
theorem dX10_lowest_37 : decode cX10_lowest 37 = .ok (.goto 4, 3) := by decide +kernel
theorem dX10_lowest_40 : decode cX10_lowest 40 = .ok (.lload_n 0, 1) := by decide +kernel
theorem dX10_lowest_41 : decode cX10_lowest 41 = .ok (.lload 5, 2) := by decide +kernel
theorem dX10_lowest_43 : decode cX10_lowest 43 = .ok (.ldiv, 1) := by decide +kernel
theorem dX10_lowest_44 : decode cX10_lowest 44 = .ok (.lreturn, 1) := by decide +kernel
theorem dX10_power_0 : decode cX10_power 0 = .ok (.lconst 1, 1) := by decide +kernel
theorem dX10_power_1 : decode cX10_power 1 = .ok (.lstore_n 3, 1) := by decide +kernel
theorem dX10_power_2 : decode cX10_power 2 = .ok (.iconst 0, 1) := by decide +kernel
theorem dX10_power_3 : decode cX10_power 3 = .ok (.istore 5, 2) := by decide +kernel
theorem dX10_power_5 : decode cX10_power 5 = .ok (.iload 5, 2) := by decide +kernel
theorem dX10_power_7 : decode cX10_power 7 = .ok (.iload_n 2, 1) := by decide +kernel
theorem dX10_power_8 : decode cX10_power 8 = .ok (.if_icmp .ge 13, 3) := by decide +kernel
theorem dX10_power_11 : decode cX10_power 11 = .ok (.lload_n 3, 1) := by decide +kernel
theorem dX10_power_12 : decode cX10_power 12 = .ok (.lload_n 0, 1) := by decide +kernel
theorem dX10_power_13 : decode cX10_power 13 = .ok (.lmul, 1) := by decide +kernel
theorem dX10_power_14 : decode cX10_power 14 = .ok (.lstore_n 3, 1) := by decide +kernel
theorem dX10_power_15 : decode cX10_power 15 = .ok (.iinc 5 1, 3) := by decide +kernel
theorem dX10_power_18 : decode cX10_power 18 = .ok (.goto (-13), 3) := by decide +kernel
theorem dX10_power_21 : decode cX10_power 21 = .ok (.lload_n 3, 1) := by decide +kernel
theorem dX10_power_22 : decode cX10_power 22 = .ok (.lreturn, 1) := by decide +kernel
theorem dX10_feed_0 : decode cX10_feed 0 = .ok (.aload_n 0, 1) := by decide +kernel
theorem dX10_feed_1 : decode cX10_feed 1 = .ok (.iconst 0, 1) := by decide +kernel
theorem dX10_feed_2 : decode cX10_feed 2 = .ok (.putfield 50, 3) := by decide +kernel
theorem dX10_feed_5 : decode cX10_feed 5 = .ok (.aload_n 0, 1) := by decide +kernel
theorem dX10_feed_6 : decode cX10_feed 6 = .ok (.getfield 56, 3) := by decide +kernel
theorem dX10_feed_9 : decode cX10_feed 9 = .ok (.bipush 20, 2) := by decide +kernel
theorem dX10_feed_11 : decode cX10_feed 11 = .ok (.iadd, 1) := by decide +kernel
theorem dX10_feed_12 : decode cX10_feed 12 = .ok (.sipush 900, 3) := by decide +kernel
theorem dX10_feed_15 : decode cX10_feed 15 = .ok (.if_icmp .le 5, 3) := by decide +kernel
theorem dX10_feed_18 : decode cX10_feed 18 = .ok (.iconst (-1), 1) := by decide +kernel
theorem dX10_feed_19 : decode cX10_feed 19 = .ok (.ireturn, 1) := by decide +kernel
theorem dX10_feed_20 : decode cX10_feed 20 = .ok (.iconst 0, 1) := by decide +kernel
theorem dX10_feed_21 : decode cX10_feed 21 = .ok (.istore 6, 2) := by decide +kernel
theorem dX10_feed_23 : decode cX10_feed 23 = .ok (.iload 6, 2) := by decide +kernel
theorem dX10_feed_25 : decode cX10_feed 25 = .ok (.bipush 20, 2) := by decide +kernel
theorem dX10_feed_27 : decode cX10_feed 27 = .ok (.if_icmp .ge 93, 3) := by decide +kernel
theorem dX10_feed_30 : decode cX10_feed 30 = .ok (.iload 6, 2) := by decide +kernel
theorem dX10_feed_32 : decode cX10_feed 32 = .ok (.iconst 4, 1) := by decide +kernel
theorem dX10_feed_33 : decode cX10_feed 33 = .ok (.if_icmp .ge 7, 3) := by decide +kernel
theorem dX10_feed_36 : decode cX10_feed 36 = .ok (.iload_n 1, 1) := by decide +kernel
theorem dX10_feed_37 : decode cX10_feed 37 = .ok (.goto 39, 3) := by decide +kernel
theorem dX10_feed_40 : decode cX10_feed 40 = .ok (.iload 6, 2) := by decide +kernel
theorem dX10_feed_42 : decode cX10_feed 42 = .ok (.bipush 8, 2) := by decide +kernel
theorem dX10_feed_44 : decode cX10_feed 44 = .ok (.if_icmp .ge 7, 3) := by decide +kernel
theorem dX10_feed_47 : decode cX10_feed 47 = .ok (.iload_n 2, 1) := by decide +kernel
theorem dX10_feed_48 : decode cX10_feed 48 = .ok (.goto 28, 3) := by decide +kernel
theorem dX10_feed_51 : decode cX10_feed 51 = .ok (.iload 6, 2) := by decide +kernel
theorem dX10_feed_53 : decode cX10_feed 53 = .ok (.bipush 12, 2) := by decide +kernel
theorem dX10_feed_55 : decode cX10_feed 55 = .ok (.if_icmp .ge 7, 3) := by decide +kernel
theorem dX10_feed_58 : decode cX10_feed 58 = .ok (.iload_n 3, 1) := by decide +kernel
theorem dX10_feed_59 : decode cX10_feed 59 = .ok (.goto 17, 3) := by decide +kernel
theorem dX10_feed_62 : decode cX10_feed 62 = .ok (.iload 6, 2) := by decide +kernel
theorem dX10_feed_64 : decode cX10_feed 64 = .ok (.bipush 16, 2) := by decide +kernel
theorem dX10_feed_66 : decode cX10_feed 66 = .ok (.if_icmp .ge 8, 3) := by decide +kernel
theorem dX10_feed_69 : decode cX10_feed 69 = .ok (.iload 4, 2) := by decide +kernel
theorem dX10_feed_71 : decode cX10_feed 71 = .ok (.goto 5, 3) := by decide +kernel
theorem dX10_feed_74 : decode cX10_feed 74 = .ok (.iload 5, 2) := by decide +kernel
theorem dX10_feed_76 : decode cX10_feed 76 = .ok (.istore 7, 2) := by decide +kernel
theorem dX10_feed_78 : decode cX10_feed 78 = .ok (.aload_n 0, 1) := by decide +kernel
theorem dX10_feed_79 : decode cX10_feed 79 = .ok (.getfield 7, 3) := by decide +kernel
theorem dX10_feed_82 : decode cX10_feed 82 = .ok (.aload_n 0, 1) := by decide +kernel
theorem dX10_feed_83 : decode cX10_feed 83 = .ok (.getfield 56, 3) := by decide +kernel
theorem dX10_feed_86 : decode cX10_feed 86 = .ok (.iload 7, 2) := by decide +kernel
theorem dX10_feed_88 : decode cX10_feed 88 = .ok (.bipush 24, 2) := by decide +kernel
theorem dX10_feed_90 : decode cX10_feed 90 = .ok (.bipush 8, 2) := by decide +kernel
theorem dX10_feed_92 : decode cX10_feed 92 = .ok (.iload 6, 2) := by decide +kernel
theorem dX10_feed_94 : decode cX10_feed 94 = .ok (.iconst 4, 1) := by decide +kernel
theorem dX10_feed_95 : decode cX10_feed 95 = .ok (.irem, 1) := by decide +kernel
theorem dX10_feed_96 : decode cX10_feed 96 = .ok (.imul, 1) := by decide +kernel
theorem dX10_feed_97 : decode cX10_feed 97 = .ok (.isub, 1) := by decide +kernel
theorem dX10_feed_98 : decode cX10_feed 98 = .ok (.ishr, 1) := by decide +kernel
theorem dX10_feed_99 : decode cX10_feed 99 = .ok (.sipush 255, 3) := by decide +kernel
theorem dX10_feed_102 : decode cX10_feed 102 = .ok (.iand, 1) := by decide +kernel
theorem dX10_feed_103 : decode cX10_feed 103 = .ok (.iastore, 1) := by decide +kernel
theorem dX10_feed_104 : decode cX10_feed 104 = .ok (.aload_n 0, 1) := by decide +kernel
theorem dX10_feed_105 : decode cX10_feed 105 = .ok (.dup, 1) := by decide +kernel
theorem dX10_feed_106 : decode cX10_feed 106 = .ok (.getfield 56, 3) := by decide +kernel
theorem dX10_feed_109 : decode cX10_feed 109 = .ok (.iconst 1, 1) := by decide +kernel
theorem dX10_feed_110 : decode cX10_feed 110 = .ok (.iadd, 1) := by decide +kernel
theorem dX10_feed_111 : decode cX10_feed 111 = .ok (.putfield 56, 3) := by decide +kernel
theorem dX10_feed_114 : decode cX10_feed 114 = .ok (.iinc 6 1, 3) := by decide +kernel
theorem dX10_feed_117 : decode cX10_feed 117 = .ok (.goto (-94), 3) := by decide +kernel
theorem dX10_feed_120 : decode cX10_feed 120 = .ok (.aload_n 0, 1) := by decide +kernel
theorem dX10_feed_121 : decode cX10_feed 121 = .ok (.getfield 56, 3) := by decide +kernel
theorem dX10_feed_124 : decode cX10_feed 124 = .ok (.ireturn, 1) := by decide +kernel
theorem dX10_see_0 : decode cX10_see 0 = .ok (.iload_n 1, 1) := by decide +kernel
theorem dX10_see_1 : decode cX10_see 1 = .ok (.aload_n 0, 1) := by decide +kernel
theorem dX10_see_2 : decode cX10_see 2 = .ok (.getfield 59, 3) := by decide +kernel
theorem dX10_see_5 : decode cX10_see 5 = .ok (.if_icmp .ge 12, 3) := by decide +kernel
theorem dX10_see_8 : decode cX10_see 8 = .ok (.aload_n 0, 1) := by decide +kernel
theorem dX10_see_9 : decode cX10_see 9 = .ok (.getfield 7, 3) := by decide +kernel
theorem dX10_see_12 : decode cX10_see 12 = .ok (.iload_n 1, 1) := by decide +kernel
theorem dX10_see_13 : decode cX10_see 13 = .ok (.iaload, 1) := by decide +kernel
theorem dX10_see_14 : decode cX10_see 14 = .ok (.goto 4, 3) := by decide +kernel
theorem dX10_see_17 : decode cX10_see 17 = .ok (.iconst (-1), 1) := by decide +kernel
theorem dX10_see_18 : decode cX10_see 18 = .ok (.ireturn, 1) := by decide +kernel
theorem dX10_isSmall_0 : decode cX10_isSmall 0 = .ok (.iload_n 0, 1) := by decide +kernel
theorem dX10_isSmall_1 : decode cX10_isSmall 1 = .ok (.bipush 97, 2) := by decide +kernel
theorem dX10_isSmall_3 : decode cX10_isSmall 3 = .ok (.if_icmp .lt 13, 3) := by decide +kernel
theorem dX10_isSmall_6 : decode cX10_isSmall 6 = .ok (.iload_n 0, 1) := by decide +kernel
theorem dX10_isSmall_7 : decode cX10_isSmall 7 = .ok (.bipush 122, 2) := by decide +kernel
theorem dX10_isSmall_9 : decode cX10_isSmall 9 = .ok (.if_icmp .gt 7, 3) := by decide +kernel
theorem dX10_isSmall_12 : decode cX10_isSmall 12 = .ok (.iconst 1, 1) := by decide +kernel
theorem dX10_isSmall_13 : decode cX10_isSmall 13 = .ok (.goto 4, 3) := by decide +kernel
theorem dX10_isSmall_16 : decode cX10_isSmall 16 = .ok (.iconst 0, 1) := by decide +kernel
theorem dX10_isSmall_17 : decode cX10_isSmall 17 = .ok (.ireturn, 1) := by decide +kernel
theorem dX10_isDigit_0 : decode cX10_isDigit 0 = .ok (.iload_n 0, 1) := by decide +kernel
theorem dX10_isDigit_1 : decode cX10_isDigit 1 = .ok (.bipush 48, 2) := by decide +kernel
theorem dX10_isDigit_3 : decode cX10_isDigit 3 = .ok (.if_icmp .lt 13, 3) := by decide +kernel
theorem dX10_isDigit_6 : decode cX10_isDigit 6 = .ok (.iload_n 0, 1) := by decide +kernel
theorem dX10_isDigit_7 : decode cX10_isDigit 7 = .ok (.bipush 57, 2) := by decide +kernel
theorem dX10_isDigit_9 : decode cX10_isDigit 9 = .ok (.if_icmp .gt 7, 3) := by decide +kernel
theorem dX10_isDigit_12 : decode cX10_isDigit 12 = .ok (.iconst 1, 1) := by decide +kernel
theorem dX10_isDigit_13 : decode cX10_isDigit 13 = .ok (.goto 4, 3) := by decide +kernel
theorem dX10_isDigit_16 : decode cX10_isDigit 16 = .ok (.iconst 0, 1) := by decide +kernel
theorem dX10_isDigit_17 : decode cX10_isDigit 17 = .ok (.ireturn, 1) := by decide +kernel
theorem dX10_next_0 : decode cX10_next 0 = .ok (.aload_n 0, 1) := by decide +kernel
theorem dX10_next_1 : decode cX10_next 1 = .ok (.getfield 62, 3) := by decide +kernel
theorem dX10_next_4 : decode cX10_next 4 = .ok (.istore_n 1, 1) := by decide +kernel
theorem dX10_next_5 : decode cX10_next 5 = .ok (.aload_n 0, 1) := by decide +kernel
theorem dX10_next_6 : decode cX10_next 6 = .ok (.iload_n 1, 1) := by decide +kernel
theorem dX10_next_7 : decode cX10_next 7 = .ok (.invokevirtual 65, 3) := by decide +kernel
theorem dX10_next_10 : decode cX10_next 10 = .ok (.bipush 32, 2) := by decide +kernel
theorem dX10_next_12 : decode cX10_next 12 = .ok (.if_icmp .ne 9, 3) := by decide +kernel
theorem dX10_next_15 : decode cX10_next 15 = .ok (.iinc 1 1, 3) := by decide +kernel
theorem dX10_next_18 : decode cX10_next 18 = .ok (.goto (-13), 3) := by decide +kernel
theorem dX10_next_21 : decode cX10_next 21 = .ok (.aload_n 0, 1) := by decide +kernel
theorem dX10_next_22 : decode cX10_next 22 = .ok (.iload_n 1, 1) := by decide +kernel
theorem dX10_next_23 : decode cX10_next 23 = .ok (.putfield 69, 3) := by decide +kernel
theorem dX10_next_26 : decode cX10_next 26 = .ok (.aload_n 0, 1) := by decide +kernel
theorem dX10_next_27 : decode cX10_next 27 = .ok (.iload_n 1, 1) := by decide +kernel
theorem dX10_next_28 : decode cX10_next 28 = .ok (.invokevirtual 65, 3) := by decide +kernel
theorem dX10_next_31 : decode cX10_next 31 = .ok (.istore_n 2, 1) := by decide +kernel
theorem dX10_next_32 : decode cX10_next 32 = .ok (.aload_n 0, 1) := by decide +kernel
theorem dX10_next_33 : decode cX10_next 33 = .ok (.iconst 0, 1) := by decide +kernel
theorem dX10_next_34 : decode cX10_next 34 = .ok (.putfield 72, 3) := by decide +kernel
theorem dX10_next_37 : decode cX10_next 37 = .ok (.aload_n 0, 1) := by decide +kernel
theorem dX10_next_38 : decode cX10_next 38 = .ok (.iconst 0, 1) := by decide +kernel
theorem dX10_next_39 : decode cX10_next 39 = .ok (.putfield 75, 3) := by decide +kernel
theorem dX10_next_42 : decode cX10_next 42 = .ok (.iload_n 2, 1) := by decide +kernel
theorem dX10_next_43 : decode cX10_next 43 = .ok (.iconst (-1), 1) := by decide +kernel
theorem dX10_next_44 : decode cX10_next 44 = .ok (.if_icmp .ne 16, 3) := by decide +kernel
theorem dX10_next_47 : decode cX10_next 47 = .ok (.aload_n 0, 1) := by decide +kernel
theorem dX10_next_48 : decode cX10_next 48 = .ok (.iconst 0, 1) := by decide +kernel
theorem dX10_next_49 : decode cX10_next 49 = .ok (.putfield 78, 3) := by decide +kernel
theorem dX10_next_52 : decode cX10_next 52 = .ok (.aload_n 0, 1) := by decide +kernel
theorem dX10_next_53 : decode cX10_next 53 = .ok (.iload_n 1, 1) := by decide +kernel
theorem dX10_next_54 : decode cX10_next 54 = .ok (.putfield 62, 3) := by decide +kernel
theorem dX10_next_57 : decode cX10_next 57 = .ok (.goto 184, 3) := by decide +kernel
theorem dX10_next_60 : decode cX10_next 60 = .ok (.iload_n 2, 1) := by decide +kernel
theorem dX10_next_61 : decode cX10_next 61 = .ok (.invokestatic 81, 3) := by decide +kernel
theorem dX10_next_64 : decode cX10_next 64 = .ok (.ifCond .eq 79, 3) := by decide +kernel
theorem dX10_next_67 : decode cX10_next 67 = .ok (.aload_n 0, 1) := by decide +kernel
theorem dX10_next_68 : decode cX10_next 68 = .ok (.iload_n 1, 1) := by decide +kernel
theorem dX10_next_69 : decode cX10_next 69 = .ok (.invokevirtual 65, 3) := by decide +kernel
theorem dX10_next_72 : decode cX10_next 72 = .ok (.invokestatic 81, 3) := by decide +kernel
theorem dX10_next_75 : decode cX10_next 75 = .ok (.ifCond .eq 42, 3) := by decide +kernel
theorem dX10_next_78 : decode cX10_next 78 = .ok (.aload_n 0, 1) := by decide +kernel
theorem dX10_next_79 : decode cX10_next 79 = .ok (.getfield 72, 3) := by decide +kernel
theorem dX10_next_82 : decode cX10_next 82 = .ok (.bipush 8, 2) := by decide +kernel
theorem dX10_next_84 : decode cX10_next 84 = .ok (.if_icmp .ge 17, 3) := by decide +kernel
theorem dX10_next_87 : decode cX10_next 87 = .ok (.aload_n 0, 1) := by decide +kernel
theorem dX10_next_88 : decode cX10_next 88 = .ok (.getfield 17, 3) := by decide +kernel
theorem dX10_next_91 : decode cX10_next 91 = .ok (.aload_n 0, 1) := by decide +kernel
theorem dX10_next_92 : decode cX10_next 92 = .ok (.getfield 72, 3) := by decide +kernel
theorem dX10_next_95 : decode cX10_next 95 = .ok (.aload_n 0, 1) := by decide +kernel
theorem dX10_next_96 : decode cX10_next 96 = .ok (.iload_n 1, 1) := by decide +kernel
theorem dX10_next_97 : decode cX10_next 97 = .ok (.invokevirtual 65, 3) := by decide +kernel
theorem dX10_next_100 : decode cX10_next 100 = .ok (.iastore, 1) := by decide +kernel
theorem dX10_next_101 : decode cX10_next 101 = .ok (.aload_n 0, 1) := by decide +kernel
theorem dX10_next_102 : decode cX10_next 102 = .ok (.dup, 1) := by decide +kernel
theorem dX10_next_103 : decode cX10_next 103 = .ok (.getfield 72, 3) := by decide +kernel
theorem dX10_next_106 : decode cX10_next 106 = .ok (.iconst 1, 1) := by decide +kernel
theorem dX10_next_107 : decode cX10_next 107 = .ok (.iadd, 1) := by decide +kernel
theorem dX10_next_108 : decode cX10_next 108 = .ok (.putfield 72, 3) := by decide +kernel
theorem dX10_next_111 : decode cX10_next 111 = .ok (.iinc 1 1, 3) := by decide +kernel
theorem dX10_next_114 : decode cX10_next 114 = .ok (.goto (-47), 3) := by decide +kernel
theorem dX10_next_117 : decode cX10_next 117 = .ok (.aload_n 0, 1) := by decide +kernel
theorem dX10_next_118 : decode cX10_next 118 = .ok (.iload_n 1, 1) := by decide +kernel
theorem dX10_next_119 : decode cX10_next 119 = .ok (.putfield 62, 3) := by decide +kernel
theorem dX10_next_122 : decode cX10_next 122 = .ok (.aload_n 0, 1) := by decide +kernel
theorem dX10_next_123 : decode cX10_next 123 = .ok (.aload_n 0, 1) := by decide +kernel
theorem dX10_next_124 : decode cX10_next 124 = .ok (.getfield 72, 3) := by decide +kernel
theorem dX10_next_127 : decode cX10_next 127 = .ok (.bipush 8, 2) := by decide +kernel
theorem dX10_next_129 : decode cX10_next 129 = .ok (.if_icmp .le 7, 3) := by decide +kernel
theorem dX10_next_132 : decode cX10_next 132 = .ok (.iconst 1, 1) := by decide +kernel
theorem dX10_next_133 : decode cX10_next 133 = .ok (.goto 4, 3) := by decide +kernel
theorem dX10_next_136 : decode cX10_next 136 = .ok (.iconst 2, 1) := by decide +kernel
theorem dX10_next_137 : decode cX10_next 137 = .ok (.putfield 78, 3) := by decide +kernel
theorem dX10_next_140 : decode cX10_next 140 = .ok (.goto 101, 3) := by decide +kernel
theorem dX10_next_143 : decode cX10_next 143 = .ok (.iload_n 2, 1) := by decide +kernel
theorem dX10_next_144 : decode cX10_next 144 = .ok (.invokestatic 85, 3) := by decide +kernel
theorem dX10_next_147 : decode cX10_next 147 = .ok (.ifCond .eq 72, 3) := by decide +kernel
theorem dX10_next_150 : decode cX10_next 150 = .ok (.iconst 0, 1) := by decide +kernel
theorem dX10_next_151 : decode cX10_next 151 = .ok (.istore_n 3, 1) := by decide +kernel
theorem dX10_next_152 : decode cX10_next 152 = .ok (.aload_n 0, 1) := by decide +kernel
theorem dX10_next_153 : decode cX10_next 153 = .ok (.iload_n 1, 1) := by decide +kernel
theorem dX10_next_154 : decode cX10_next 154 = .ok (.invokevirtual 65, 3) := by decide +kernel
theorem dX10_next_157 : decode cX10_next 157 = .ok (.invokestatic 85, 3) := by decide +kernel
theorem dX10_next_160 : decode cX10_next 160 = .ok (.ifCond .eq 37, 3) := by decide +kernel
theorem dX10_next_163 : decode cX10_next 163 = .ok (.iload_n 3, 1) := by decide +kernel
theorem dX10_next_164 : decode cX10_next 164 = .ok (.iconst 3, 1) := by decide +kernel
theorem dX10_next_165 : decode cX10_next 165 = .ok (.if_icmp .ge 23, 3) := by decide +kernel
theorem dX10_next_168 : decode cX10_next 168 = .ok (.aload_n 0, 1) := by decide +kernel
theorem dX10_next_169 : decode cX10_next 169 = .ok (.bipush 10, 2) := by decide +kernel
theorem dX10_next_171 : decode cX10_next 171 = .ok (.aload_n 0, 1) := by decide +kernel
theorem dX10_next_172 : decode cX10_next 172 = .ok (.getfield 75, 3) := by decide +kernel
theorem dX10_next_175 : decode cX10_next 175 = .ok (.imul, 1) := by decide +kernel
theorem dX10_next_176 : decode cX10_next 176 = .ok (.aload_n 0, 1) := by decide +kernel
theorem dX10_next_177 : decode cX10_next 177 = .ok (.iload_n 1, 1) := by decide +kernel
theorem dX10_next_178 : decode cX10_next 178 = .ok (.invokevirtual 65, 3) := by decide +kernel
theorem dX10_next_181 : decode cX10_next 181 = .ok (.iadd, 1) := by decide +kernel
theorem dX10_next_182 : decode cX10_next 182 = .ok (.bipush 48, 2) := by decide +kernel
theorem dX10_next_184 : decode cX10_next 184 = .ok (.isub, 1) := by decide +kernel
theorem dX10_next_185 : decode cX10_next 185 = .ok (.putfield 75, 3) := by decide +kernel
theorem dX10_next_188 : decode cX10_next 188 = .ok (.iinc 3 1, 3) := by decide +kernel
theorem dX10_next_191 : decode cX10_next 191 = .ok (.iinc 1 1, 3) := by decide +kernel
theorem dX10_next_194 : decode cX10_next 194 = .ok (.goto (-42), 3) := by decide +kernel
theorem dX10_next_197 : decode cX10_next 197 = .ok (.aload_n 0, 1) := by decide +kernel
theorem dX10_next_198 : decode cX10_next 198 = .ok (.iload_n 1, 1) := by decide +kernel
theorem dX10_next_199 : decode cX10_next 199 = .ok (.putfield 62, 3) := by decide +kernel
theorem dX10_next_202 : decode cX10_next 202 = .ok (.aload_n 0, 1) := by decide +kernel
theorem dX10_next_203 : decode cX10_next 203 = .ok (.iload_n 3, 1) := by decide +kernel
theorem dX10_next_204 : decode cX10_next 204 = .ok (.iconst 3, 1) := by decide +kernel
theorem dX10_next_205 : decode cX10_next 205 = .ok (.if_icmp .le 7, 3) := by decide +kernel
theorem dX10_next_208 : decode cX10_next 208 = .ok (.iconst 1, 1) := by decide +kernel
theorem dX10_next_209 : decode cX10_next 209 = .ok (.goto 4, 3) := by decide +kernel
theorem dX10_next_212 : decode cX10_next 212 = .ok (.iconst 3, 1) := by decide +kernel
theorem dX10_next_213 : decode cX10_next 213 = .ok (.putfield 78, 3) := by decide +kernel
theorem dX10_next_216 : decode cX10_next 216 = .ok (.goto 25, 3) := by decide +kernel
theorem dX10_next_219 : decode cX10_next 219 = .ok (.aload_n 0, 1) := by decide +kernel
theorem dX10_next_220 : decode cX10_next 220 = .ok (.iload_n 1, 1) := by decide +kernel
theorem dX10_next_221 : decode cX10_next 221 = .ok (.iconst 1, 1) := by decide +kernel
theorem dX10_next_222 : decode cX10_next 222 = .ok (.iadd, 1) := by decide +kernel
theorem dX10_next_223 : decode cX10_next 223 = .ok (.putfield 62, 3) := by decide +kernel
theorem dX10_next_226 : decode cX10_next 226 = .ok (.aload_n 0, 1) := by decide +kernel
theorem dX10_next_227 : decode cX10_next 227 = .ok (.iload_n 2, 1) := by decide +kernel
theorem dX10_next_228 : decode cX10_next 228 = .ok (.bipush 59, 2) := by decide +kernel
theorem dX10_next_230 : decode cX10_next 230 = .ok (.if_icmp .ne 7, 3) := by decide +kernel
theorem dX10_next_233 : decode cX10_next 233 = .ok (.iload_n 2, 1) := by decide +kernel
theorem dX10_next_234 : decode cX10_next 234 = .ok (.goto 4, 3) := by decide +kernel
theorem dX10_next_237 : decode cX10_next 237 = .ok (.iconst 1, 1) := by decide +kernel
theorem dX10_next_238 : decode cX10_next 238 = .ok (.putfield 78, 3) := by decide +kernel
theorem dX10_next_241 : decode cX10_next 241 = .ok (.return_, 1) := by decide +kernel
theorem dX10_wrong_0 : decode cX10_wrong 0 = .ok (.aload_n 0, 1) := by decide +kernel
theorem dX10_wrong_1 : decode cX10_wrong 1 = .ok (.getfield 88, 3) := by decide +kernel
theorem dX10_wrong_4 : decode cX10_wrong 4 = .ok (.ifCond .eq 4, 3) := by decide +kernel
theorem dX10_wrong_7 : decode cX10_wrong 7 = .ok (.return_, 1) := by decide +kernel
theorem dX10_wrong_8 : decode cX10_wrong 8 = .ok (.aload_n 0, 1) := by decide +kernel
theorem dX10_wrong_9 : decode cX10_wrong 9 = .ok (.iconst 1, 1) := by decide +kernel
theorem dX10_wrong_10 : decode cX10_wrong 10 = .ok (.putfield 88, 3) := by decide +kernel
theorem dX10_wrong_13 : decode cX10_wrong 13 = .ok (.aload_n 0, 1) := by decide +kernel
theorem dX10_wrong_14 : decode cX10_wrong 14 = .ok (.iload_n 1, 1) := by decide +kernel
theorem dX10_wrong_15 : decode cX10_wrong 15 = .ok (.putfield 92, 3) := by decide +kernel
theorem dX10_wrong_18 : decode cX10_wrong 18 = .ok (.aload_n 0, 1) := by decide +kernel
theorem dX10_wrong_19 : decode cX10_wrong 19 = .ok (.iload_n 2, 1) := by decide +kernel
theorem dX10_wrong_20 : decode cX10_wrong 20 = .ok (.putfield 13, 3) := by decide +kernel
theorem dX10_wrong_23 : decode cX10_wrong 23 = .ok (.return_, 1) := by decide +kernel
theorem dX10_isWord_0 : decode cX10_isWord 0 = .ok (.aload_n 0, 1) := by decide +kernel
theorem dX10_isWord_1 : decode cX10_isWord 1 = .ok (.getfield 88, 3) := by decide +kernel
theorem dX10_isWord_4 : decode cX10_isWord 4 = .ok (.ifCond .ne 22, 3) := by decide +kernel
theorem dX10_isWord_7 : decode cX10_isWord 7 = .ok (.aload_n 0, 1) := by decide +kernel
theorem dX10_isWord_8 : decode cX10_isWord 8 = .ok (.getfield 78, 3) := by decide +kernel
theorem dX10_isWord_11 : decode cX10_isWord 11 = .ok (.iconst 2, 1) := by decide +kernel
theorem dX10_isWord_12 : decode cX10_isWord 12 = .ok (.if_icmp .ne 14, 3) := by decide +kernel
theorem dX10_isWord_15 : decode cX10_isWord 15 = .ok (.aload_n 0, 1) := by decide +kernel
theorem dX10_isWord_16 : decode cX10_isWord 16 = .ok (.getfield 72, 3) := by decide +kernel
theorem dX10_isWord_19 : decode cX10_isWord 19 = .ok (.aload_n 1, 1) := by decide +kernel
theorem dX10_isWord_20 : decode cX10_isWord 20 = .ok (.invokevirtual 95, 3) := by decide +kernel
theorem dX10_isWord_23 : decode cX10_isWord 23 = .ok (.if_icmp .eq 5, 3) := by decide +kernel
theorem dX10_isWord_26 : decode cX10_isWord 26 = .ok (.iconst 0, 1) := by decide +kernel
theorem dX10_isWord_27 : decode cX10_isWord 27 = .ok (.ireturn, 1) := by decide +kernel
theorem dX10_isWord_28 : decode cX10_isWord 28 = .ok (.iconst 1, 1) := by decide +kernel
theorem dX10_isWord_29 : decode cX10_isWord 29 = .ok (.istore_n 2, 1) := by decide +kernel
theorem dX10_isWord_30 : decode cX10_isWord 30 = .ok (.iconst 0, 1) := by decide +kernel
theorem dX10_isWord_31 : decode cX10_isWord 31 = .ok (.istore_n 3, 1) := by decide +kernel
theorem dX10_isWord_32 : decode cX10_isWord 32 = .ok (.iload_n 3, 1) := by decide +kernel
theorem dX10_isWord_33 : decode cX10_isWord 33 = .ok (.aload_n 0, 1) := by decide +kernel
theorem dX10_isWord_34 : decode cX10_isWord 34 = .ok (.getfield 72, 3) := by decide +kernel
theorem dX10_isWord_37 : decode cX10_isWord 37 = .ok (.if_icmp .ge 33, 3) := by decide +kernel
theorem dX10_isWord_40 : decode cX10_isWord 40 = .ok (.iload_n 2, 1) := by decide +kernel
theorem dX10_isWord_41 : decode cX10_isWord 41 = .ok (.ifCond .eq 21, 3) := by decide +kernel
theorem dX10_isWord_44 : decode cX10_isWord 44 = .ok (.aload_n 0, 1) := by decide +kernel
theorem dX10_isWord_45 : decode cX10_isWord 45 = .ok (.getfield 17, 3) := by decide +kernel
theorem dX10_isWord_48 : decode cX10_isWord 48 = .ok (.iload_n 3, 1) := by decide +kernel
theorem dX10_isWord_49 : decode cX10_isWord 49 = .ok (.iaload, 1) := by decide +kernel
theorem dX10_isWord_50 : decode cX10_isWord 50 = .ok (.aload_n 1, 1) := by decide +kernel
theorem dX10_isWord_51 : decode cX10_isWord 51 = .ok (.iload_n 3, 1) := by decide +kernel
theorem dX10_isWord_52 : decode cX10_isWord 52 = .ok (.invokevirtual 101, 3) := by decide +kernel
theorem dX10_isWord_55 : decode cX10_isWord 55 = .ok (.if_icmp .ne 7, 3) := by decide +kernel
theorem dX10_isWord_58 : decode cX10_isWord 58 = .ok (.iconst 1, 1) := by decide +kernel
theorem dX10_isWord_59 : decode cX10_isWord 59 = .ok (.goto 4, 3) := by decide +kernel
theorem dX10_isWord_62 : decode cX10_isWord 62 = .ok (.iconst 0, 1) := by decide +kernel
theorem dX10_isWord_63 : decode cX10_isWord 63 = .ok (.istore_n 2, 1) := by decide +kernel
theorem dX10_isWord_64 : decode cX10_isWord 64 = .ok (.iinc 3 1, 3) := by decide +kernel
theorem dX10_isWord_67 : decode cX10_isWord 67 = .ok (.goto (-35), 3) := by decide +kernel
theorem dX10_isWord_70 : decode cX10_isWord 70 = .ok (.iload_n 2, 1) := by decide +kernel
theorem dX10_isWord_71 : decode cX10_isWord 71 = .ok (.ireturn, 1) := by decide +kernel
theorem dX10_takesWord_0 : decode cX10_takesWord 0 = .ok (.aload_n 0, 1) := by decide +kernel
theorem dX10_takesWord_1 : decode cX10_takesWord 1 = .ok (.aload_n 1, 1) := by decide +kernel
theorem dX10_takesWord_2 : decode cX10_takesWord 2 = .ok (.invokevirtual 105, 3) := by decide +kernel
theorem dX10_takesWord_5 : decode cX10_takesWord 5 = .ok (.ifCond .ne 5, 3) := by decide +kernel
theorem dX10_takesWord_8 : decode cX10_takesWord 8 = .ok (.iconst 0, 1) := by decide +kernel
theorem dX10_takesWord_9 : decode cX10_takesWord 9 = .ok (.ireturn, 1) := by decide +kernel
theorem dX10_takesWord_10 : decode cX10_takesWord 10 = .ok (.aload_n 0, 1) := by decide +kernel
theorem dX10_takesWord_11 : decode cX10_takesWord 11 = .ok (.invokevirtual 109, 3) := by decide +kernel
theorem dX10_takesWord_14 : decode cX10_takesWord 14 = .ok (.iconst 1, 1) := by decide +kernel
theorem dX10_takesWord_15 : decode cX10_takesWord 15 = .ok (.ireturn, 1) := by decide +kernel
theorem dX10_must_0 : decode cX10_must 0 = .ok (.aload_n 0, 1) := by decide +kernel
theorem dX10_must_1 : decode cX10_must 1 = .ok (.getfield 88, 3) := by decide +kernel
theorem dX10_must_4 : decode cX10_must 4 = .ok (.ifCond .ne 20, 3) := by decide +kernel
theorem dX10_must_7 : decode cX10_must 7 = .ok (.aload_n 0, 1) := by decide +kernel
theorem dX10_must_8 : decode cX10_must 8 = .ok (.aload_n 1, 1) := by decide +kernel
theorem dX10_must_9 : decode cX10_must 9 = .ok (.invokevirtual 112, 3) := by decide +kernel
theorem dX10_must_12 : decode cX10_must 12 = .ok (.ifCond .ne 12, 3) := by decide +kernel
theorem dX10_must_15 : decode cX10_must 15 = .ok (.aload_n 0, 1) := by decide +kernel
theorem dX10_must_16 : decode cX10_must 16 = .ok (.iconst 1, 1) := by decide +kernel
theorem dX10_must_17 : decode cX10_must 17 = .ok (.aload_n 0, 1) := by decide +kernel
theorem dX10_must_18 : decode cX10_must 18 = .ok (.getfield 69, 3) := by decide +kernel
theorem dX10_must_21 : decode cX10_must 21 = .ok (.invokevirtual 115, 3) := by decide +kernel
theorem dX10_must_24 : decode cX10_must 24 = .ok (.return_, 1) := by decide +kernel
theorem dX10_mustName_0 : decode cX10_mustName 0 = .ok (.aload_n 0, 1) := by decide +kernel
theorem dX10_mustName_1 : decode cX10_mustName 1 = .ok (.getfield 78, 3) := by decide +kernel
theorem dX10_mustName_4 : decode cX10_mustName 4 = .ok (.iconst 2, 1) := by decide +kernel
theorem dX10_mustName_5 : decode cX10_mustName 5 = .ok (.if_icmp .ne 66, 3) := by decide +kernel
theorem dX10_mustName_8 : decode cX10_mustName 8 = .ok (.aload_n 0, 1) := by decide +kernel
theorem dX10_mustName_9 : decode cX10_mustName 9 = .ok (.ldc 119, 2) := by decide +kernel
theorem dX10_mustName_11 : decode cX10_mustName 11 = .ok (.invokevirtual 105, 3) := by decide +kernel
theorem dX10_mustName_14 : decode cX10_mustName 14 = .ok (.ifCond .ne 57, 3) := by decide +kernel
theorem dX10_mustName_17 : decode cX10_mustName 17 = .ok (.aload_n 0, 1) := by decide +kernel
theorem dX10_mustName_18 : decode cX10_mustName 18 = .ok (.ldc 121, 2) := by decide +kernel
theorem dX10_mustName_20 : decode cX10_mustName 20 = .ok (.invokevirtual 105, 3) := by decide +kernel
theorem dX10_mustName_23 : decode cX10_mustName 23 = .ok (.ifCond .ne 48, 3) := by decide +kernel
theorem dX10_mustName_26 : decode cX10_mustName 26 = .ok (.aload_n 0, 1) := by decide +kernel
theorem dX10_mustName_27 : decode cX10_mustName 27 = .ok (.ldc 123, 2) := by decide +kernel
theorem dX10_mustName_29 : decode cX10_mustName 29 = .ok (.invokevirtual 105, 3) := by decide +kernel
theorem dX10_mustName_32 : decode cX10_mustName 32 = .ok (.ifCond .ne 39, 3) := by decide +kernel
theorem dX10_mustName_35 : decode cX10_mustName 35 = .ok (.aload_n 0, 1) := by decide +kernel
theorem dX10_mustName_36 : decode cX10_mustName 36 = .ok (.ldc 125, 2) := by decide +kernel
theorem dX10_mustName_38 : decode cX10_mustName 38 = .ok (.invokevirtual 105, 3) := by decide +kernel
theorem dX10_mustName_41 : decode cX10_mustName 41 = .ok (.ifCond .ne 30, 3) := by decide +kernel
theorem dX10_mustName_44 : decode cX10_mustName 44 = .ok (.aload_n 0, 1) := by decide +kernel
theorem dX10_mustName_45 : decode cX10_mustName 45 = .ok (.ldc 127, 2) := by decide +kernel
theorem dX10_mustName_47 : decode cX10_mustName 47 = .ok (.invokevirtual 105, 3) := by decide +kernel
theorem dX10_mustName_50 : decode cX10_mustName 50 = .ok (.ifCond .ne 21, 3) := by decide +kernel
theorem dX10_mustName_53 : decode cX10_mustName 53 = .ok (.aload_n 0, 1) := by decide +kernel
theorem dX10_mustName_54 : decode cX10_mustName 54 = .ok (.ldc 129, 2) := by decide +kernel
theorem dX10_mustName_56 : decode cX10_mustName 56 = .ok (.invokevirtual 105, 3) := by decide +kernel
theorem dX10_mustName_59 : decode cX10_mustName 59 = .ok (.ifCond .ne 12, 3) := by decide +kernel
theorem dX10_mustName_62 : decode cX10_mustName 62 = .ok (.aload_n 0, 1) := by decide +kernel
theorem dX10_mustName_63 : decode cX10_mustName 63 = .ok (.ldc 131, 2) := by decide +kernel
theorem dX10_mustName_65 : decode cX10_mustName 65 = .ok (.invokevirtual 105, 3) := by decide +kernel
theorem dX10_mustName_68 : decode cX10_mustName 68 = .ok (.ifCond .eq 12, 3) := by decide +kernel
theorem dX10_mustName_71 : decode cX10_mustName 71 = .ok (.aload_n 0, 1) := by decide +kernel
theorem dX10_mustName_72 : decode cX10_mustName 72 = .ok (.iconst 1, 1) := by decide +kernel
theorem dX10_mustName_73 : decode cX10_mustName 73 = .ok (.aload_n 0, 1) := by decide +kernel
theorem dX10_mustName_74 : decode cX10_mustName 74 = .ok (.getfield 69, 3) := by decide +kernel
theorem dX10_mustName_77 : decode cX10_mustName 77 = .ok (.invokevirtual 115, 3) := by decide +kernel
theorem dX10_mustName_80 : decode cX10_mustName 80 = .ok (.return_, 1) := by decide +kernel
theorem dX10_find_0 : decode cX10_find 0 = .ok (.iconst 0, 1) := by decide +kernel
theorem dX10_find_1 : decode cX10_find 1 = .ok (.istore_n 1, 1) := by decide +kernel
theorem dX10_find_2 : decode cX10_find 2 = .ok (.iload_n 1, 1) := by decide +kernel
theorem dX10_find_3 : decode cX10_find 3 = .ok (.bipush 9, 2) := by decide +kernel
theorem dX10_find_5 : decode cX10_find 5 = .ok (.if_icmp .ge 98, 3) := by decide +kernel
theorem dX10_find_8 : decode cX10_find 8 = .ok (.aload_n 0, 1) := by decide +kernel
theorem dX10_find_9 : decode cX10_find 9 = .ok (.getfield 23, 3) := by decide +kernel
theorem dX10_find_12 : decode cX10_find 12 = .ok (.bipush 86, 2) := by decide +kernel
theorem dX10_find_14 : decode cX10_find 14 = .ok (.iload_n 1, 1) := by decide +kernel
theorem dX10_find_15 : decode cX10_find 15 = .ok (.iadd, 1) := by decide +kernel
theorem dX10_find_16 : decode cX10_find 16 = .ok (.iaload, 1) := by decide +kernel
theorem dX10_find_17 : decode cX10_find 17 = .ok (.ifCond .le 23, 3) := by decide +kernel
theorem dX10_find_20 : decode cX10_find 20 = .ok (.aload_n 0, 1) := by decide +kernel
theorem dX10_find_21 : decode cX10_find 21 = .ok (.getfield 23, 3) := by decide +kernel
theorem dX10_find_24 : decode cX10_find 24 = .ok (.bipush 86, 2) := by decide +kernel
theorem dX10_find_26 : decode cX10_find 26 = .ok (.iload_n 1, 1) := by decide +kernel
theorem dX10_find_27 : decode cX10_find 27 = .ok (.iadd, 1) := by decide +kernel
theorem dX10_find_28 : decode cX10_find 28 = .ok (.iaload, 1) := by decide +kernel
theorem dX10_find_29 : decode cX10_find 29 = .ok (.aload_n 0, 1) := by decide +kernel
theorem dX10_find_30 : decode cX10_find 30 = .ok (.getfield 72, 3) := by decide +kernel
theorem dX10_find_33 : decode cX10_find 33 = .ok (.if_icmp .ne 7, 3) := by decide +kernel
theorem dX10_find_36 : decode cX10_find 36 = .ok (.iconst 1, 1) := by decide +kernel
theorem dX10_find_37 : decode cX10_find 37 = .ok (.goto 4, 3) := by decide +kernel
theorem dX10_find_40 : decode cX10_find 40 = .ok (.iconst 0, 1) := by decide +kernel
theorem dX10_find_41 : decode cX10_find 41 = .ok (.istore_n 2, 1) := by decide +kernel
theorem dX10_find_42 : decode cX10_find 42 = .ok (.iconst 0, 1) := by decide +kernel
theorem dX10_find_43 : decode cX10_find 43 = .ok (.istore_n 3, 1) := by decide +kernel
theorem dX10_find_44 : decode cX10_find 44 = .ok (.iload_n 3, 1) := by decide +kernel
theorem dX10_find_45 : decode cX10_find 45 = .ok (.aload_n 0, 1) := by decide +kernel
theorem dX10_find_46 : decode cX10_find 46 = .ok (.getfield 72, 3) := by decide +kernel
theorem dX10_find_49 : decode cX10_find 49 = .ok (.if_icmp .ge 42, 3) := by decide +kernel
theorem dX10_find_52 : decode cX10_find 52 = .ok (.iload_n 2, 1) := by decide +kernel
theorem dX10_find_53 : decode cX10_find 53 = .ok (.ifCond .eq 38, 3) := by decide +kernel
theorem dX10_find_56 : decode cX10_find 56 = .ok (.aload_n 0, 1) := by decide +kernel
theorem dX10_find_57 : decode cX10_find 57 = .ok (.getfield 23, 3) := by decide +kernel
theorem dX10_find_60 : decode cX10_find 60 = .ok (.bipush 95, 2) := by decide +kernel
theorem dX10_find_62 : decode cX10_find 62 = .ok (.bipush 8, 2) := by decide +kernel
theorem dX10_find_64 : decode cX10_find 64 = .ok (.iload_n 1, 1) := by decide +kernel
theorem dX10_find_65 : decode cX10_find 65 = .ok (.imul, 1) := by decide +kernel
theorem dX10_find_66 : decode cX10_find 66 = .ok (.iadd, 1) := by decide +kernel
theorem dX10_find_67 : decode cX10_find 67 = .ok (.iload_n 3, 1) := by decide +kernel
theorem dX10_find_68 : decode cX10_find 68 = .ok (.iadd, 1) := by decide +kernel
theorem dX10_find_69 : decode cX10_find 69 = .ok (.iaload, 1) := by decide +kernel
theorem dX10_find_70 : decode cX10_find 70 = .ok (.aload_n 0, 1) := by decide +kernel
theorem dX10_find_71 : decode cX10_find 71 = .ok (.getfield 17, 3) := by decide +kernel
theorem dX10_find_74 : decode cX10_find 74 = .ok (.iload_n 3, 1) := by decide +kernel
theorem dX10_find_75 : decode cX10_find 75 = .ok (.iaload, 1) := by decide +kernel
theorem dX10_find_76 : decode cX10_find 76 = .ok (.if_icmp .ne 7, 3) := by decide +kernel
theorem dX10_find_79 : decode cX10_find 79 = .ok (.iconst 1, 1) := by decide +kernel
theorem dX10_find_80 : decode cX10_find 80 = .ok (.goto 4, 3) := by decide +kernel
theorem dX10_find_83 : decode cX10_find 83 = .ok (.iconst 0, 1) := by decide +kernel
theorem dX10_find_84 : decode cX10_find 84 = .ok (.istore_n 2, 1) := by decide +kernel
theorem dX10_find_85 : decode cX10_find 85 = .ok (.iinc 3 1, 3) := by decide +kernel
theorem dX10_find_88 : decode cX10_find 88 = .ok (.goto (-44), 3) := by decide +kernel
theorem dX10_find_91 : decode cX10_find 91 = .ok (.iload_n 2, 1) := by decide +kernel
theorem dX10_find_92 : decode cX10_find 92 = .ok (.ifCond .eq 5, 3) := by decide +kernel
theorem dX10_find_95 : decode cX10_find 95 = .ok (.iload_n 1, 1) := by decide +kernel
theorem dX10_find_96 : decode cX10_find 96 = .ok (.ireturn, 1) := by decide +kernel
theorem dX10_find_97 : decode cX10_find 97 = .ok (.iinc 1 1, 3) := by decide +kernel
theorem dX10_find_100 : decode cX10_find 100 = .ok (.goto (-98), 3) := by decide +kernel
theorem dX10_find_103 : decode cX10_find 103 = .ok (.iconst (-1), 1) := by decide +kernel
theorem dX10_find_104 : decode cX10_find 104 = .ok (.ireturn, 1) := by decide +kernel
theorem dX10_newName_0 : decode cX10_newName 0 = .ok (.aload_n 0, 1) := by decide +kernel
theorem dX10_newName_1 : decode cX10_newName 1 = .ok (.getfield 88, 3) := by decide +kernel
theorem dX10_newName_4 : decode cX10_newName 4 = .ok (.ifCond .eq 4, 3) := by decide +kernel
theorem dX10_newName_7 : decode cX10_newName 7 = .ok (.return_, 1) := by decide +kernel
theorem dX10_newName_8 : decode cX10_newName 8 = .ok (.aload_n 0, 1) := by decide +kernel
theorem dX10_newName_9 : decode cX10_newName 9 = .ok (.invokevirtual 133, 3) := by decide +kernel
theorem dX10_newName_12 : decode cX10_newName 12 = .ok (.aload_n 0, 1) := by decide +kernel
theorem dX10_newName_13 : decode cX10_newName 13 = .ok (.getfield 88, 3) := by decide +kernel
theorem dX10_newName_16 : decode cX10_newName 16 = .ok (.ifCond .ne 19, 3) := by decide +kernel
theorem dX10_newName_19 : decode cX10_newName 19 = .ok (.aload_n 0, 1) := by decide +kernel
theorem dX10_newName_20 : decode cX10_newName 20 = .ok (.invokevirtual 136, 3) := by decide +kernel
theorem dX10_newName_23 : decode cX10_newName 23 = .ok (.ifCond .lt 12, 3) := by decide +kernel
theorem dX10_newName_26 : decode cX10_newName 26 = .ok (.aload_n 0, 1) := by decide +kernel
theorem dX10_newName_27 : decode cX10_newName 27 = .ok (.iconst 3, 1) := by decide +kernel
theorem dX10_newName_28 : decode cX10_newName 28 = .ok (.aload_n 0, 1) := by decide +kernel
theorem dX10_newName_29 : decode cX10_newName 29 = .ok (.getfield 69, 3) := by decide +kernel
theorem dX10_newName_32 : decode cX10_newName 32 = .ok (.invokevirtual 115, 3) := by decide +kernel
theorem dX10_newName_35 : decode cX10_newName 35 = .ok (.aload_n 0, 1) := by decide +kernel
theorem dX10_newName_36 : decode cX10_newName 36 = .ok (.getfield 88, 3) := by decide +kernel
theorem dX10_newName_39 : decode cX10_newName 39 = .ok (.ifCond .eq 4, 3) := by decide +kernel
theorem dX10_newName_42 : decode cX10_newName 42 = .ok (.return_, 1) := by decide +kernel
theorem dX10_newName_43 : decode cX10_newName 43 = .ok (.iconst 0, 1) := by decide +kernel
theorem dX10_newName_44 : decode cX10_newName 44 = .ok (.istore_n 2, 1) := by decide +kernel
theorem dX10_newName_45 : decode cX10_newName 45 = .ok (.iload_n 2, 1) := by decide +kernel
theorem dX10_newName_46 : decode cX10_newName 46 = .ok (.aload_n 0, 1) := by decide +kernel
theorem dX10_newName_47 : decode cX10_newName 47 = .ok (.getfield 72, 3) := by decide +kernel
theorem dX10_newName_50 : decode cX10_newName 50 = .ok (.if_icmp .ge 29, 3) := by decide +kernel
theorem dX10_newName_53 : decode cX10_newName 53 = .ok (.aload_n 0, 1) := by decide +kernel
theorem dX10_newName_54 : decode cX10_newName 54 = .ok (.getfield 23, 3) := by decide +kernel
theorem dX10_newName_57 : decode cX10_newName 57 = .ok (.bipush 95, 2) := by decide +kernel
theorem dX10_newName_59 : decode cX10_newName 59 = .ok (.bipush 8, 2) := by decide +kernel
theorem dX10_newName_61 : decode cX10_newName 61 = .ok (.iload_n 1, 1) := by decide +kernel
theorem dX10_newName_62 : decode cX10_newName 62 = .ok (.imul, 1) := by decide +kernel
theorem dX10_newName_63 : decode cX10_newName 63 = .ok (.iadd, 1) := by decide +kernel
theorem dX10_newName_64 : decode cX10_newName 64 = .ok (.iload_n 2, 1) := by decide +kernel
theorem dX10_newName_65 : decode cX10_newName 65 = .ok (.iadd, 1) := by decide +kernel
theorem dX10_newName_66 : decode cX10_newName 66 = .ok (.aload_n 0, 1) := by decide +kernel
theorem dX10_newName_67 : decode cX10_newName 67 = .ok (.getfield 17, 3) := by decide +kernel
theorem dX10_newName_70 : decode cX10_newName 70 = .ok (.iload_n 2, 1) := by decide +kernel
theorem dX10_newName_71 : decode cX10_newName 71 = .ok (.iaload, 1) := by decide +kernel
theorem dX10_newName_72 : decode cX10_newName 72 = .ok (.iastore, 1) := by decide +kernel
theorem dX10_newName_73 : decode cX10_newName 73 = .ok (.iinc 2 1, 3) := by decide +kernel
theorem dX10_newName_76 : decode cX10_newName 76 = .ok (.goto (-31), 3) := by decide +kernel
theorem dX10_newName_79 : decode cX10_newName 79 = .ok (.aload_n 0, 1) := by decide +kernel
theorem dX10_newName_80 : decode cX10_newName 80 = .ok (.getfield 23, 3) := by decide +kernel
theorem dX10_newName_83 : decode cX10_newName 83 = .ok (.bipush 86, 2) := by decide +kernel
theorem dX10_newName_85 : decode cX10_newName 85 = .ok (.iload_n 1, 1) := by decide +kernel
theorem dX10_newName_86 : decode cX10_newName 86 = .ok (.iadd, 1) := by decide +kernel
theorem dX10_newName_87 : decode cX10_newName 87 = .ok (.aload_n 0, 1) := by decide +kernel
theorem dX10_newName_88 : decode cX10_newName 88 = .ok (.getfield 72, 3) := by decide +kernel
theorem dX10_newName_91 : decode cX10_newName 91 = .ok (.iastore, 1) := by decide +kernel
theorem dX10_newName_92 : decode cX10_newName 92 = .ok (.aload_n 0, 1) := by decide +kernel
theorem dX10_newName_93 : decode cX10_newName 93 = .ok (.invokevirtual 109, 3) := by decide +kernel
theorem dX10_newName_96 : decode cX10_newName 96 = .ok (.return_, 1) := by decide +kernel
theorem dX10_named_0 : decode cX10_named 0 = .ok (.aload_n 0, 1) := by decide +kernel
theorem dX10_named_1 : decode cX10_named 1 = .ok (.getfield 88, 3) := by decide +kernel
theorem dX10_named_4 : decode cX10_named 4 = .ok (.ifCond .eq 5, 3) := by decide +kernel
theorem dX10_named_7 : decode cX10_named 7 = .ok (.iconst 0, 1) := by decide +kernel
theorem dX10_named_8 : decode cX10_named 8 = .ok (.ireturn, 1) := by decide +kernel
theorem dX10_named_9 : decode cX10_named 9 = .ok (.aload_n 0, 1) := by decide +kernel
theorem dX10_named_10 : decode cX10_named 10 = .ok (.invokevirtual 133, 3) := by decide +kernel
theorem dX10_named_13 : decode cX10_named 13 = .ok (.aload_n 0, 1) := by decide +kernel
theorem dX10_named_14 : decode cX10_named 14 = .ok (.getfield 88, 3) := by decide +kernel
theorem dX10_named_17 : decode cX10_named 17 = .ok (.ifCond .eq 5, 3) := by decide +kernel
theorem dX10_named_20 : decode cX10_named 20 = .ok (.iconst 0, 1) := by decide +kernel
theorem dX10_named_21 : decode cX10_named 21 = .ok (.ireturn, 1) := by decide +kernel
theorem dX10_named_22 : decode cX10_named 22 = .ok (.aload_n 0, 1) := by decide +kernel
theorem dX10_named_23 : decode cX10_named 23 = .ok (.invokevirtual 136, 3) := by decide +kernel
theorem dX10_named_26 : decode cX10_named 26 = .ok (.istore_n 3, 1) := by decide +kernel
theorem dX10_named_27 : decode cX10_named 27 = .ok (.iload_n 3, 1) := by decide +kernel
theorem dX10_named_28 : decode cX10_named 28 = .ok (.iload_n 1, 1) := by decide +kernel
theorem dX10_named_29 : decode cX10_named 29 = .ok (.iload_n 2, 1) := by decide +kernel
theorem dX10_named_30 : decode cX10_named 30 = .ok (.invokestatic 139, 3) := by decide +kernel
theorem dX10_named_33 : decode cX10_named 33 = .ok (.ifCond .ne 12, 3) := by decide +kernel
theorem dX10_named_36 : decode cX10_named 36 = .ok (.aload_n 0, 1) := by decide +kernel
theorem dX10_named_37 : decode cX10_named 37 = .ok (.iconst 2, 1) := by decide +kernel
theorem dX10_named_38 : decode cX10_named 38 = .ok (.aload_n 0, 1) := by decide +kernel
theorem dX10_named_39 : decode cX10_named 39 = .ok (.getfield 69, 3) := by decide +kernel
theorem dX10_named_42 : decode cX10_named 42 = .ok (.invokevirtual 115, 3) := by decide +kernel
theorem dX10_named_45 : decode cX10_named 45 = .ok (.aload_n 0, 1) := by decide +kernel
theorem dX10_named_46 : decode cX10_named 46 = .ok (.getfield 88, 3) := by decide +kernel
theorem dX10_named_49 : decode cX10_named 49 = .ok (.ifCond .eq 7, 3) := by decide +kernel
theorem dX10_named_52 : decode cX10_named 52 = .ok (.iconst 0, 1) := by decide +kernel
theorem dX10_named_53 : decode cX10_named 53 = .ok (.goto 6, 3) := by decide +kernel
theorem dX10_named_56 : decode cX10_named 56 = .ok (.iload_n 3, 1) := by decide +kernel
theorem dX10_named_57 : decode cX10_named 57 = .ok (.iload_n 1, 1) := by decide +kernel
theorem dX10_named_58 : decode cX10_named 58 = .ok (.isub, 1) := by decide +kernel
theorem dX10_named_59 : decode cX10_named 59 = .ok (.ireturn, 1) := by decide +kernel
theorem dX10_manHere_0 : decode cX10_manHere 0 = .ok (.aload_n 0, 1) := by decide +kernel
theorem dX10_manHere_1 : decode cX10_manHere 1 = .ok (.iconst 0, 1) := by decide +kernel
theorem dX10_manHere_2 : decode cX10_manHere 2 = .ok (.iconst 4, 1) := by decide +kernel
theorem dX10_manHere_3 : decode cX10_manHere 3 = .ok (.invokevirtual 143, 3) := by decide +kernel
theorem dX10_manHere_6 : decode cX10_manHere 6 = .ok (.ireturn, 1) := by decide +kernel
theorem dX10_pass_0 : decode cX10_pass 0 = .ok (.aload_n 0, 1) := by decide +kernel
theorem dX10_pass_1 : decode cX10_pass 1 = .ok (.getfield 88, 3) := by decide +kernel
theorem dX10_pass_4 : decode cX10_pass 4 = .ok (.ifCond .ne 7, 3) := by decide +kernel
theorem dX10_pass_7 : decode cX10_pass 7 = .ok (.aload_n 0, 1) := by decide +kernel
theorem dX10_pass_8 : decode cX10_pass 8 = .ok (.invokevirtual 109, 3) := by decide +kernel
theorem dX10_pass_11 : decode cX10_pass 11 = .ok (.return_, 1) := by decide +kernel
theorem dX10_number_0 : decode cX10_number 0 = .ok (.aload_n 0, 1) := by decide +kernel
theorem dX10_number_1 : decode cX10_number 1 = .ok (.getfield 88, 3) := by decide +kernel
theorem dX10_number_4 : decode cX10_number 4 = .ok (.ifCond .eq 5, 3) := by decide +kernel
theorem dX10_number_7 : decode cX10_number 7 = .ok (.iload_n 1, 1) := by decide +kernel
theorem dX10_number_8 : decode cX10_number 8 = .ok (.ireturn, 1) := by decide +kernel
theorem dX10_number_9 : decode cX10_number 9 = .ok (.aload_n 0, 1) := by decide +kernel
theorem dX10_number_10 : decode cX10_number 10 = .ok (.getfield 78, 3) := by decide +kernel
theorem dX10_number_13 : decode cX10_number 13 = .ok (.iconst 3, 1) := by decide +kernel
theorem dX10_number_14 : decode cX10_number 14 = .ok (.if_icmp .eq 15, 3) := by decide +kernel
theorem dX10_number_17 : decode cX10_number 17 = .ok (.aload_n 0, 1) := by decide +kernel
theorem dX10_number_18 : decode cX10_number 18 = .ok (.iconst 1, 1) := by decide +kernel
theorem dX10_number_19 : decode cX10_number 19 = .ok (.aload_n 0, 1) := by decide +kernel
theorem dX10_number_20 : decode cX10_number 20 = .ok (.getfield 69, 3) := by decide +kernel
theorem dX10_number_23 : decode cX10_number 23 = .ok (.invokevirtual 115, 3) := by decide +kernel
theorem dX10_number_26 : decode cX10_number 26 = .ok (.goto 24, 3) := by decide +kernel
theorem dX10_number_29 : decode cX10_number 29 = .ok (.aload_n 0, 1) := by decide +kernel
theorem dX10_number_30 : decode cX10_number 30 = .ok (.getfield 75, 3) := by decide +kernel
theorem dX10_number_33 : decode cX10_number 33 = .ok (.iload_n 1, 1) := by decide +kernel
theorem dX10_number_34 : decode cX10_number 34 = .ok (.iload_n 2, 1) := by decide +kernel
theorem dX10_number_35 : decode cX10_number 35 = .ok (.invokestatic 139, 3) := by decide +kernel
theorem dX10_number_38 : decode cX10_number 38 = .ok (.ifCond .ne 12, 3) := by decide +kernel
theorem dX10_number_41 : decode cX10_number 41 = .ok (.aload_n 0, 1) := by decide +kernel
theorem dX10_number_42 : decode cX10_number 42 = .ok (.iconst 4, 1) := by decide +kernel
theorem dX10_number_43 : decode cX10_number 43 = .ok (.aload_n 0, 1) := by decide +kernel
theorem dX10_number_44 : decode cX10_number 44 = .ok (.getfield 69, 3) := by decide +kernel
theorem dX10_number_47 : decode cX10_number 47 = .ok (.invokevirtual 115, 3) := by decide +kernel
theorem dX10_number_50 : decode cX10_number 50 = .ok (.aload_n 0, 1) := by decide +kernel
theorem dX10_number_51 : decode cX10_number 51 = .ok (.getfield 88, 3) := by decide +kernel
theorem dX10_number_54 : decode cX10_number 54 = .ok (.ifCond .eq 5, 3) := by decide +kernel
theorem dX10_number_57 : decode cX10_number 57 = .ok (.iload_n 1, 1) := by decide +kernel
theorem dX10_number_58 : decode cX10_number 58 = .ok (.ireturn, 1) := by decide +kernel
theorem dX10_number_59 : decode cX10_number 59 = .ok (.aload_n 0, 1) := by decide +kernel
theorem dX10_number_60 : decode cX10_number 60 = .ok (.getfield 75, 3) := by decide +kernel
theorem dX10_number_63 : decode cX10_number 63 = .ok (.istore_n 3, 1) := by decide +kernel
theorem dX10_number_64 : decode cX10_number 64 = .ok (.aload_n 0, 1) := by decide +kernel
theorem dX10_number_65 : decode cX10_number 65 = .ok (.invokevirtual 109, 3) := by decide +kernel
theorem dX10_number_68 : decode cX10_number 68 = .ok (.iload_n 3, 1) := by decide +kernel
theorem dX10_number_69 : decode cX10_number 69 = .ok (.ireturn, 1) := by decide +kernel
theorem dX10_after_0 : decode cX10_after 0 = .ok (.aload_n 0, 1) := by decide +kernel
theorem dX10_after_1 : decode cX10_after 1 = .ok (.aload_n 1, 1) := by decide +kernel
theorem dX10_after_2 : decode cX10_after 2 = .ok (.invokevirtual 147, 3) := by decide +kernel
theorem dX10_after_5 : decode cX10_after 5 = .ok (.aload_n 0, 1) := by decide +kernel
theorem dX10_after_6 : decode cX10_after 6 = .ok (.iload_n 2, 1) := by decide +kernel
theorem dX10_after_7 : decode cX10_after 7 = .ok (.iload_n 3, 1) := by decide +kernel
theorem dX10_after_8 : decode cX10_after 8 = .ok (.invokevirtual 151, 3) := by decide +kernel
theorem dX10_after_11 : decode cX10_after 11 = .ok (.ireturn, 1) := by decide +kernel
theorem dX10_duchy_0 : decode cX10_duchy 0 = .ok (.aload_n 0, 1) := by decide +kernel
theorem dX10_duchy_1 : decode cX10_duchy 1 = .ok (.invokevirtual 154, 3) := by decide +kernel
theorem dX10_duchy_4 : decode cX10_duchy 4 = .ok (.iload_n 1, 1) := by decide +kernel
theorem dX10_duchy_5 : decode cX10_duchy 5 = .ok (.iconst 0, 1) := by decide +kernel
theorem dX10_duchy_6 : decode cX10_duchy 6 = .ok (.aload_n 0, 1) := by decide +kernel
theorem dX10_duchy_7 : decode cX10_duchy 7 = .ok (.getfield 56, 3) := by decide +kernel
theorem dX10_duchy_10 : decode cX10_duchy 10 = .ok (.invokestatic 139, 3) := by decide +kernel
theorem dX10_duchy_13 : decode cX10_duchy 13 = .ok (.ifCond .ne 9, 3) := by decide +kernel
theorem dX10_duchy_16 : decode cX10_duchy 16 = .ok (.aload_n 0, 1) := by decide +kernel
theorem dX10_duchy_17 : decode cX10_duchy 17 = .ok (.iconst 2, 1) := by decide +kernel
theorem dX10_duchy_18 : decode cX10_duchy 18 = .ok (.invokevirtual 157, 3) := by decide +kernel
theorem dX10_duchy_21 : decode cX10_duchy 21 = .ok (.ireturn, 1) := by decide +kernel
theorem dX10_duchy_22 : decode cX10_duchy 22 = .ok (.aload_n 0, 1) := by decide +kernel
theorem dX10_duchy_23 : decode cX10_duchy 23 = .ok (.iconst 0, 1) := by decide +kernel
theorem dX10_duchy_24 : decode cX10_duchy 24 = .ok (.putfield 56, 3) := by decide +kernel
theorem dX10_duchy_27 : decode cX10_duchy 27 = .ok (.aload_n 0, 1) := by decide +kernel
theorem dX10_duchy_28 : decode cX10_duchy 28 = .ok (.iconst 0, 1) := by decide +kernel
theorem dX10_duchy_29 : decode cX10_duchy 29 = .ok (.putfield 92, 3) := by decide +kernel
theorem dX10_duchy_32 : decode cX10_duchy 32 = .ok (.aload_n 0, 1) := by decide +kernel
theorem dX10_duchy_33 : decode cX10_duchy 33 = .ok (.iconst 0, 1) := by decide +kernel
theorem dX10_duchy_34 : decode cX10_duchy 34 = .ok (.putfield 88, 3) := by decide +kernel
theorem dX10_duchy_37 : decode cX10_duchy 37 = .ok (.iconst 0, 1) := by decide +kernel
theorem dX10_duchy_38 : decode cX10_duchy 38 = .ok (.istore_n 2, 1) := by decide +kernel
theorem dX10_duchy_39 : decode cX10_duchy 39 = .ok (.iload_n 2, 1) := by decide +kernel
theorem dX10_duchy_40 : decode cX10_duchy 40 = .ok (.sipush 167, 3) := by decide +kernel
theorem dX10_duchy_43 : decode cX10_duchy 43 = .ok (.if_icmp .ge 16, 3) := by decide +kernel
theorem dX10_duchy_46 : decode cX10_duchy 46 = .ok (.aload_n 0, 1) := by decide +kernel
theorem dX10_duchy_47 : decode cX10_duchy 47 = .ok (.getfield 23, 3) := by decide +kernel
theorem dX10_duchy_50 : decode cX10_duchy 50 = .ok (.iload_n 2, 1) := by decide +kernel
theorem dX10_duchy_51 : decode cX10_duchy 51 = .ok (.iconst 0, 1) := by decide +kernel
theorem dX10_duchy_52 : decode cX10_duchy 52 = .ok (.iastore, 1) := by decide +kernel
theorem dX10_duchy_53 : decode cX10_duchy 53 = .ok (.iinc 2 1, 3) := by decide +kernel
theorem dX10_duchy_56 : decode cX10_duchy 56 = .ok (.goto (-17), 3) := by decide +kernel
theorem dX10_duchy_59 : decode cX10_duchy 59 = .ok (.aload_n 0, 1) := by decide +kernel
theorem dX10_duchy_60 : decode cX10_duchy 60 = .ok (.iload_n 1, 1) := by decide +kernel
theorem dX10_duchy_61 : decode cX10_duchy 61 = .ok (.putfield 59, 3) := by decide +kernel
theorem dX10_duchy_64 : decode cX10_duchy 64 = .ok (.aload_n 0, 1) := by decide +kernel
theorem dX10_duchy_65 : decode cX10_duchy 65 = .ok (.iconst 0, 1) := by decide +kernel
theorem dX10_duchy_66 : decode cX10_duchy 66 = .ok (.putfield 62, 3) := by decide +kernel
theorem dX10_duchy_69 : decode cX10_duchy 69 = .ok (.aload_n 0, 1) := by decide +kernel
theorem dX10_duchy_70 : decode cX10_duchy 70 = .ok (.invokevirtual 109, 3) := by decide +kernel
theorem dX10_duchy_73 : decode cX10_duchy 73 = .ok (.aload_n 0, 1) := by decide +kernel
theorem dX10_duchy_74 : decode cX10_duchy 74 = .ok (.invokevirtual 160, 3) := by decide +kernel
theorem dX10_duchy_77 : decode cX10_duchy 77 = .ok (.aload_n 0, 1) := by decide +kernel
theorem dX10_duchy_78 : decode cX10_duchy 78 = .ok (.getfield 88, 3) := by decide +kernel
theorem dX10_duchy_81 : decode cX10_duchy 81 = .ok (.ifCond .ne 23, 3) := by decide +kernel
theorem dX10_duchy_84 : decode cX10_duchy 84 = .ok (.aload_n 0, 1) := by decide +kernel
theorem dX10_duchy_85 : decode cX10_duchy 85 = .ok (.getfield 78, 3) := by decide +kernel
theorem dX10_duchy_88 : decode cX10_duchy 88 = .ok (.bipush 59, 2) := by decide +kernel
theorem dX10_duchy_90 : decode cX10_duchy 90 = .ok (.if_icmp .ne 14, 3) := by decide +kernel
theorem dX10_duchy_93 : decode cX10_duchy 93 = .ok (.aload_n 0, 1) := by decide +kernel
theorem dX10_duchy_94 : decode cX10_duchy 94 = .ok (.invokevirtual 109, 3) := by decide +kernel
theorem dX10_duchy_97 : decode cX10_duchy 97 = .ok (.aload_n 0, 1) := by decide +kernel
theorem dX10_duchy_98 : decode cX10_duchy 98 = .ok (.invokevirtual 160, 3) := by decide +kernel
theorem dX10_duchy_101 : decode cX10_duchy 101 = .ok (.goto (-24), 3) := by decide +kernel
theorem dX10_duchy_104 : decode cX10_duchy 104 = .ok (.aload_n 0, 1) := by decide +kernel
theorem dX10_duchy_105 : decode cX10_duchy 105 = .ok (.getfield 88, 3) := by decide +kernel
theorem dX10_duchy_108 : decode cX10_duchy 108 = .ok (.ifCond .ne 19, 3) := by decide +kernel
theorem dX10_duchy_111 : decode cX10_duchy 111 = .ok (.aload_n 0, 1) := by decide +kernel
theorem dX10_duchy_112 : decode cX10_duchy 112 = .ok (.getfield 78, 3) := by decide +kernel
theorem dX10_duchy_115 : decode cX10_duchy 115 = .ok (.ifCond .eq 12, 3) := by decide +kernel
theorem dX10_duchy_118 : decode cX10_duchy 118 = .ok (.aload_n 0, 1) := by decide +kernel
theorem dX10_duchy_119 : decode cX10_duchy 119 = .ok (.iconst 1, 1) := by decide +kernel
theorem dX10_duchy_120 : decode cX10_duchy 120 = .ok (.aload_n 0, 1) := by decide +kernel
theorem dX10_duchy_121 : decode cX10_duchy 121 = .ok (.getfield 69, 3) := by decide +kernel
theorem dX10_duchy_124 : decode cX10_duchy 124 = .ok (.invokevirtual 115, 3) := by decide +kernel
theorem dX10_duchy_127 : decode cX10_duchy 127 = .ok (.aload_n 0, 1) := by decide +kernel
theorem dX10_duchy_128 : decode cX10_duchy 128 = .ok (.getfield 88, 3) := by decide +kernel
theorem dX10_duchy_131 : decode cX10_duchy 131 = .ok (.ifCond .ne 31, 3) := by decide +kernel
theorem dX10_duchy_134 : decode cX10_duchy 134 = .ok (.aload_n 0, 1) := by decide +kernel
theorem dX10_duchy_135 : decode cX10_duchy 135 = .ok (.getfield 23, 3) := by decide +kernel
theorem dX10_duchy_138 : decode cX10_duchy 138 = .ok (.iconst 0, 1) := by decide +kernel
theorem dX10_duchy_139 : decode cX10_duchy 139 = .ok (.iaload, 1) := by decide +kernel
theorem dX10_duchy_140 : decode cX10_duchy 140 = .ok (.ifCond .eq 12, 3) := by decide +kernel
theorem dX10_duchy_143 : decode cX10_duchy 143 = .ok (.aload_n 0, 1) := by decide +kernel
theorem dX10_duchy_144 : decode cX10_duchy 144 = .ok (.getfield 23, 3) := by decide +kernel
theorem dX10_duchy_147 : decode cX10_duchy 147 = .ok (.iconst 4, 1) := by decide +kernel
theorem dX10_duchy_148 : decode cX10_duchy 148 = .ok (.iaload, 1) := by decide +kernel
theorem dX10_duchy_149 : decode cX10_duchy 149 = .ok (.ifCond .ne 13, 3) := by decide +kernel
theorem dX10_duchy_152 : decode cX10_duchy 152 = .ok (.aload_n 0, 1) := by decide +kernel
theorem dX10_duchy_153 : decode cX10_duchy 153 = .ok (.bipush 6, 2) := by decide +kernel
theorem dX10_duchy_155 : decode cX10_duchy 155 = .ok (.aload_n 0, 1) := by decide +kernel
theorem dX10_duchy_156 : decode cX10_duchy 156 = .ok (.getfield 69, 3) := by decide +kernel
theorem dX10_duchy_159 : decode cX10_duchy 159 = .ok (.invokevirtual 115, 3) := by decide +kernel
theorem dX10_duchy_162 : decode cX10_duchy 162 = .ok (.aload_n 0, 1) := by decide +kernel
theorem dX10_duchy_163 : decode cX10_duchy 163 = .ok (.getfield 88, 3) := by decide +kernel
theorem dX10_duchy_166 : decode cX10_duchy 166 = .ok (.ifCond .eq 9, 3) := by decide +kernel
theorem dX10_duchy_169 : decode cX10_duchy 169 = .ok (.aload_n 0, 1) := by decide +kernel
theorem dX10_duchy_170 : decode cX10_duchy 170 = .ok (.iconst 4, 1) := by decide +kernel
theorem dX10_duchy_171 : decode cX10_duchy 171 = .ok (.invokevirtual 157, 3) := by decide +kernel
theorem dX10_duchy_174 : decode cX10_duchy 174 = .ok (.ireturn, 1) := by decide +kernel
theorem dX10_duchy_175 : decode cX10_duchy 175 = .ok (.aload_n 0, 1) := by decide +kernel
theorem dX10_duchy_176 : decode cX10_duchy 176 = .ok (.getfield 23, 3) := by decide +kernel
theorem dX10_duchy_179 : decode cX10_duchy 179 = .ok (.iconst 0, 1) := by decide +kernel
theorem dX10_duchy_180 : decode cX10_duchy 180 = .ok (.aload_n 0, 1) := by decide +kernel
theorem dX10_duchy_181 : decode cX10_duchy 181 = .ok (.getfield 20, 3) := by decide +kernel
theorem dX10_duchy_184 : decode cX10_duchy 184 = .ok (.iconst 0, 1) := by decide +kernel
theorem dX10_duchy_185 : decode cX10_duchy 185 = .ok (.sipush 167, 3) := by decide +kernel
theorem dX10_duchy_188 : decode cX10_duchy 188 = .ok (.invokestatic 163, 3) := by decide +kernel
theorem dX10_duchy_191 : decode cX10_duchy 191 = .ok (.iconst 0, 1) := by decide +kernel
theorem dX10_duchy_192 : decode cX10_duchy 192 = .ok (.istore_n 2, 1) := by decide +kernel
theorem dX10_duchy_193 : decode cX10_duchy 193 = .ok (.iload_n 2, 1) := by decide +kernel
theorem dX10_duchy_194 : decode cX10_duchy 194 = .ok (.bipush 13, 2) := by decide +kernel
theorem dX10_duchy_196 : decode cX10_duchy 196 = .ok (.if_icmp .ge 16, 3) := by decide +kernel
theorem dX10_duchy_199 : decode cX10_duchy 199 = .ok (.aload_n 0, 1) := by decide +kernel
theorem dX10_duchy_200 : decode cX10_duchy 200 = .ok (.getfield 26, 3) := by decide +kernel
theorem dX10_duchy_203 : decode cX10_duchy 203 = .ok (.iload_n 2, 1) := by decide +kernel
theorem dX10_duchy_204 : decode cX10_duchy 204 = .ok (.iconst 0, 1) := by decide +kernel
theorem dX10_duchy_205 : decode cX10_duchy 205 = .ok (.iastore, 1) := by decide +kernel
theorem dX10_duchy_206 : decode cX10_duchy 206 = .ok (.iinc 2 1, 3) := by decide +kernel
theorem dX10_duchy_209 : decode cX10_duchy 209 = .ok (.goto (-16), 3) := by decide +kernel
theorem dX10_duchy_212 : decode cX10_duchy 212 = .ok (.iconst 0, 1) := by decide +kernel
theorem dX10_duchy_213 : decode cX10_duchy 213 = .ok (.istore_n 2, 1) := by decide +kernel
theorem dX10_duchy_214 : decode cX10_duchy 214 = .ok (.iload_n 2, 1) := by decide +kernel
theorem dX10_duchy_215 : decode cX10_duchy 215 = .ok (.aload_n 0, 1) := by decide +kernel
theorem dX10_duchy_216 : decode cX10_duchy 216 = .ok (.getfield 20, 3) := by decide +kernel
theorem dX10_duchy_219 : decode cX10_duchy 219 = .ok (.iconst 5, 1) := by decide +kernel
theorem dX10_duchy_220 : decode cX10_duchy 220 = .ok (.iaload, 1) := by decide +kernel
theorem dX10_duchy_221 : decode cX10_duchy 221 = .ok (.if_icmp .ge 28, 3) := by decide +kernel
theorem dX10_duchy_224 : decode cX10_duchy 224 = .ok (.aload_n 0, 1) := by decide +kernel
theorem dX10_duchy_225 : decode cX10_duchy 225 = .ok (.getfield 26, 3) := by decide +kernel
theorem dX10_duchy_228 : decode cX10_duchy 228 = .ok (.iload_n 2, 1) := by decide +kernel
theorem dX10_duchy_229 : decode cX10_duchy 229 = .ok (.aload_n 0, 1) := by decide +kernel
theorem dX10_duchy_230 : decode cX10_duchy 230 = .ok (.getfield 20, 3) := by decide +kernel
theorem dX10_duchy_233 : decode cX10_duchy 233 = .ok (.bipush 25, 2) := by decide +kernel
theorem dX10_duchy_235 : decode cX10_duchy 235 = .ok (.iconst 4, 1) := by decide +kernel
theorem dX10_duchy_236 : decode cX10_duchy 236 = .ok (.iload_n 2, 1) := by decide +kernel
theorem dX10_duchy_237 : decode cX10_duchy 237 = .ok (.imul, 1) := by decide +kernel
theorem dX10_duchy_238 : decode cX10_duchy 238 = .ok (.iadd, 1) := by decide +kernel
theorem dX10_duchy_239 : decode cX10_duchy 239 = .ok (.iconst 2, 1) := by decide +kernel
theorem dX10_duchy_240 : decode cX10_duchy 240 = .ok (.iadd, 1) := by decide +kernel
theorem dX10_duchy_241 : decode cX10_duchy 241 = .ok (.iaload, 1) := by decide +kernel
theorem dX10_duchy_242 : decode cX10_duchy 242 = .ok (.iastore, 1) := by decide +kernel
theorem dX10_duchy_243 : decode cX10_duchy 243 = .ok (.iinc 2 1, 3) := by decide +kernel
theorem dX10_duchy_246 : decode cX10_duchy 246 = .ok (.goto (-32), 3) := by decide +kernel
theorem dX10_duchy_249 : decode cX10_duchy 249 = .ok (.iconst 0, 1) := by decide +kernel
theorem dX10_duchy_250 : decode cX10_duchy 250 = .ok (.istore_n 2, 1) := by decide +kernel
theorem dX10_duchy_251 : decode cX10_duchy 251 = .ok (.iload_n 2, 1) := by decide +kernel
theorem dX10_duchy_252 : decode cX10_duchy 252 = .ok (.aload_n 0, 1) := by decide +kernel
theorem dX10_duchy_253 : decode cX10_duchy 253 = .ok (.getfield 20, 3) := by decide +kernel
theorem dX10_duchy_256 : decode cX10_duchy 256 = .ok (.iconst 4, 1) := by decide +kernel
theorem dX10_duchy_257 : decode cX10_duchy 257 = .ok (.iaload, 1) := by decide +kernel
theorem dX10_duchy_258 : decode cX10_duchy 258 = .ok (.if_icmp .ge 31, 3) := by decide +kernel
theorem dX10_duchy_261 : decode cX10_duchy 261 = .ok (.aload_n 0, 1) := by decide +kernel
theorem dX10_duchy_262 : decode cX10_duchy 262 = .ok (.getfield 26, 3) := by decide +kernel
theorem dX10_duchy_265 : decode cX10_duchy 265 = .ok (.bipush 7, 2) := by decide +kernel
theorem dX10_duchy_267 : decode cX10_duchy 267 = .ok (.iload_n 2, 1) := by decide +kernel
theorem dX10_duchy_268 : decode cX10_duchy 268 = .ok (.iadd, 1) := by decide +kernel
theorem dX10_duchy_269 : decode cX10_duchy 269 = .ok (.aload_n 0, 1) := by decide +kernel
theorem dX10_duchy_270 : decode cX10_duchy 270 = .ok (.getfield 20, 3) := by decide +kernel
theorem dX10_duchy_273 : decode cX10_duchy 273 = .ok (.bipush 10, 2) := by decide +kernel
theorem dX10_duchy_275 : decode cX10_duchy 275 = .ok (.iconst 3, 1) := by decide +kernel
theorem dX10_duchy_276 : decode cX10_duchy 276 = .ok (.iload_n 2, 1) := by decide +kernel
theorem dX10_duchy_277 : decode cX10_duchy 277 = .ok (.imul, 1) := by decide +kernel
theorem dX10_duchy_278 : decode cX10_duchy 278 = .ok (.iadd, 1) := by decide +kernel
theorem dX10_duchy_279 : decode cX10_duchy 279 = .ok (.iconst 1, 1) := by decide +kernel
theorem dX10_duchy_280 : decode cX10_duchy 280 = .ok (.iadd, 1) := by decide +kernel
theorem dX10_duchy_281 : decode cX10_duchy 281 = .ok (.iaload, 1) := by decide +kernel
theorem dX10_duchy_282 : decode cX10_duchy 282 = .ok (.iastore, 1) := by decide +kernel
theorem dX10_duchy_283 : decode cX10_duchy 283 = .ok (.iinc 2 1, 3) := by decide +kernel
theorem dX10_duchy_286 : decode cX10_duchy 286 = .ok (.goto (-35), 3) := by decide +kernel
theorem dX10_duchy_289 : decode cX10_duchy 289 = .ok (.aload_n 0, 1) := by decide +kernel
theorem dX10_duchy_290 : decode cX10_duchy 290 = .ok (.iconst 1, 1) := by decide +kernel
theorem dX10_duchy_291 : decode cX10_duchy 291 = .ok (.putfield 167, 3) := by decide +kernel
theorem dX10_duchy_294 : decode cX10_duchy 294 = .ok (.aload_n 0, 1) := by decide +kernel
theorem dX10_duchy_295 : decode cX10_duchy 295 = .ok (.iconst 0, 1) := by decide +kernel
theorem dX10_duchy_296 : decode cX10_duchy 296 = .ok (.putfield 170, 3) := by decide +kernel
theorem dX10_duchy_299 : decode cX10_duchy 299 = .ok (.aload_n 0, 1) := by decide +kernel
theorem dX10_duchy_300 : decode cX10_duchy 300 = .ok (.iconst 0, 1) := by decide +kernel
theorem dX10_duchy_301 : decode cX10_duchy 301 = .ok (.putfield 173, 3) := by decide +kernel
theorem dX10_duchy_304 : decode cX10_duchy 304 = .ok (.aload_n 0, 1) := by decide +kernel
theorem dX10_duchy_305 : decode cX10_duchy 305 = .ok (.getfield 20, 3) := by decide +kernel
theorem dX10_duchy_308 : decode cX10_duchy 308 = .ok (.iconst 4, 1) := by decide +kernel
theorem dX10_duchy_309 : decode cX10_duchy 309 = .ok (.iaload, 1) := by decide +kernel
theorem dX10_duchy_310 : decode cX10_duchy 310 = .ok (.ireturn, 1) := by decide +kernel
theorem dX10_begins_0 : decode cX10_begins 0 = .ok (.aload_n 0, 1) := by decide +kernel
theorem dX10_begins_1 : decode cX10_begins 1 = .ok (.aload_n 1, 1) := by decide +kernel
theorem dX10_begins_2 : decode cX10_begins 2 = .ok (.invokevirtual 105, 3) := by decide +kernel
theorem dX10_begins_5 : decode cX10_begins 5 = .ok (.ifCond .ne 5, 3) := by decide +kernel
theorem dX10_begins_8 : decode cX10_begins 8 = .ok (.iconst 0, 1) := by decide +kernel
theorem dX10_begins_9 : decode cX10_begins 9 = .ok (.ireturn, 1) := by decide +kernel
theorem dX10_begins_10 : decode cX10_begins 10 = .ok (.iload_n 2, 1) := by decide +kernel
theorem dX10_begins_11 : decode cX10_begins 11 = .ok (.ifCond .ne 12, 3) := by decide +kernel
theorem dX10_begins_14 : decode cX10_begins 14 = .ok (.aload_n 0, 1) := by decide +kernel
theorem dX10_begins_15 : decode cX10_begins 15 = .ok (.iconst 5, 1) := by decide +kernel
theorem dX10_begins_16 : decode cX10_begins 16 = .ok (.aload_n 0, 1) := by decide +kernel
theorem dX10_begins_17 : decode cX10_begins 17 = .ok (.getfield 69, 3) := by decide +kernel
theorem dX10_begins_20 : decode cX10_begins 20 = .ok (.invokevirtual 115, 3) := by decide +kernel
theorem dX10_begins_23 : decode cX10_begins 23 = .ok (.aload_n 0, 1) := by decide +kernel
theorem dX10_begins_24 : decode cX10_begins 24 = .ok (.getfield 23, 3) := by decide +kernel
theorem dX10_begins_27 : decode cX10_begins 27 = .ok (.iconst 0, 1) := by decide +kernel
theorem dX10_begins_28 : decode cX10_begins 28 = .ok (.iaload, 1) := by decide +kernel
theorem dX10_begins_29 : decode cX10_begins 29 = .ok (.ifCond .ne 13, 3) := by decide +kernel
theorem dX10_begins_32 : decode cX10_begins 32 = .ok (.aload_n 0, 1) := by decide +kernel
theorem dX10_begins_33 : decode cX10_begins 33 = .ok (.bipush 6, 2) := by decide +kernel
theorem dX10_begins_35 : decode cX10_begins 35 = .ok (.aload_n 0, 1) := by decide +kernel
theorem dX10_begins_36 : decode cX10_begins 36 = .ok (.getfield 69, 3) := by decide +kernel
theorem dX10_begins_39 : decode cX10_begins 39 = .ok (.invokevirtual 115, 3) := by decide +kernel
theorem dX10_begins_42 : decode cX10_begins 42 = .ok (.aload_n 0, 1) := by decide +kernel
theorem dX10_begins_43 : decode cX10_begins 43 = .ok (.invokevirtual 176, 3) := by decide +kernel
theorem dX10_begins_46 : decode cX10_begins 46 = .ok (.iconst 1, 1) := by decide +kernel
theorem dX10_begins_47 : decode cX10_begins 47 = .ok (.ireturn, 1) := by decide +kernel
theorem dX10_readLine_0 : decode cX10_readLine 0 = .ok (.aload_n 0, 1) := by decide +kernel
theorem dX10_readLine_1 : decode cX10_readLine 1 = .ok (.ldc 119, 2) := by decide +kernel
theorem dX10_readLine_3 : decode cX10_readLine 3 = .ok (.invokevirtual 105, 3) := by decide +kernel
theorem dX10_readLine_6 : decode cX10_readLine 6 = .ok (.ifCond .eq 10, 3) := by decide +kernel
theorem dX10_readLine_9 : decode cX10_readLine 9 = .ok (.aload_n 0, 1) := by decide +kernel
theorem dX10_readLine_10 : decode cX10_readLine 10 = .ok (.invokevirtual 179, 3) := by decide +kernel
theorem dX10_readLine_13 : decode cX10_readLine 13 = .ok (.goto 214, 3) := by decide +kernel
theorem dX10_readLine_16 : decode cX10_readLine 16 = .ok (.aload_n 0, 1) := by decide +kernel
theorem dX10_readLine_17 : decode cX10_readLine 17 = .ok (.ldc 121, 2) := by decide +kernel
theorem dX10_readLine_19 : decode cX10_readLine 19 = .ok (.aload_n 0, 1) := by decide +kernel
theorem dX10_readLine_20 : decode cX10_readLine 20 = .ok (.getfield 23, 3) := by decide +kernel
theorem dX10_readLine_23 : decode cX10_readLine 23 = .ok (.iconst 4, 1) := by decide +kernel
theorem dX10_readLine_24 : decode cX10_readLine 24 = .ok (.iaload, 1) := by decide +kernel
theorem dX10_readLine_25 : decode cX10_readLine 25 = .ok (.iconst 5, 1) := by decide +kernel
theorem dX10_readLine_26 : decode cX10_readLine 26 = .ok (.if_icmp .ge 7, 3) := by decide +kernel
theorem dX10_readLine_29 : decode cX10_readLine 29 = .ok (.iconst 1, 1) := by decide +kernel
theorem dX10_readLine_30 : decode cX10_readLine 30 = .ok (.goto 4, 3) := by decide +kernel
theorem dX10_readLine_33 : decode cX10_readLine 33 = .ok (.iconst 0, 1) := by decide +kernel
theorem dX10_readLine_34 : decode cX10_readLine 34 = .ok (.invokevirtual 182, 3) := by decide +kernel
theorem dX10_readLine_37 : decode cX10_readLine 37 = .ok (.ifCond .eq 10, 3) := by decide +kernel
theorem dX10_readLine_40 : decode cX10_readLine 40 = .ok (.aload_n 0, 1) := by decide +kernel
theorem dX10_readLine_41 : decode cX10_readLine 41 = .ok (.invokevirtual 186, 3) := by decide +kernel
theorem dX10_readLine_44 : decode cX10_readLine 44 = .ok (.goto 183, 3) := by decide +kernel
theorem dX10_readLine_47 : decode cX10_readLine 47 = .ok (.aload_n 0, 1) := by decide +kernel
theorem dX10_readLine_48 : decode cX10_readLine 48 = .ok (.ldc 123, 2) := by decide +kernel
theorem dX10_readLine_50 : decode cX10_readLine 50 = .ok (.aload_n 0, 1) := by decide +kernel
theorem dX10_readLine_51 : decode cX10_readLine 51 = .ok (.getfield 23, 3) := by decide +kernel
theorem dX10_readLine_54 : decode cX10_readLine 54 = .ok (.iconst 5, 1) := by decide +kernel
theorem dX10_readLine_55 : decode cX10_readLine 55 = .ok (.iaload, 1) := by decide +kernel
theorem dX10_readLine_56 : decode cX10_readLine 56 = .ok (.bipush 7, 2) := by decide +kernel
theorem dX10_readLine_58 : decode cX10_readLine 58 = .ok (.if_icmp .ge 7, 3) := by decide +kernel
theorem dX10_readLine_61 : decode cX10_readLine 61 = .ok (.iconst 1, 1) := by decide +kernel
theorem dX10_readLine_62 : decode cX10_readLine 62 = .ok (.goto 4, 3) := by decide +kernel
theorem dX10_readLine_65 : decode cX10_readLine 65 = .ok (.iconst 0, 1) := by decide +kernel
theorem dX10_readLine_66 : decode cX10_readLine 66 = .ok (.invokevirtual 182, 3) := by decide +kernel
theorem dX10_readLine_69 : decode cX10_readLine 69 = .ok (.ifCond .eq 22, 3) := by decide +kernel
theorem dX10_readLine_72 : decode cX10_readLine 72 = .ok (.aload_n 0, 1) := by decide +kernel
theorem dX10_readLine_73 : decode cX10_readLine 73 = .ok (.bipush 25, 2) := by decide +kernel
theorem dX10_readLine_75 : decode cX10_readLine 75 = .ok (.iconst 4, 1) := by decide +kernel
theorem dX10_readLine_76 : decode cX10_readLine 76 = .ok (.aload_n 0, 1) := by decide +kernel
theorem dX10_readLine_77 : decode cX10_readLine 77 = .ok (.getfield 23, 3) := by decide +kernel
theorem dX10_readLine_80 : decode cX10_readLine 80 = .ok (.iconst 5, 1) := by decide +kernel
theorem dX10_readLine_81 : decode cX10_readLine 81 = .ok (.iaload, 1) := by decide +kernel
theorem dX10_readLine_82 : decode cX10_readLine 82 = .ok (.imul, 1) := by decide +kernel
theorem dX10_readLine_83 : decode cX10_readLine 83 = .ok (.iadd, 1) := by decide +kernel
theorem dX10_readLine_84 : decode cX10_readLine 84 = .ok (.iconst 5, 1) := by decide +kernel
theorem dX10_readLine_85 : decode cX10_readLine 85 = .ok (.invokevirtual 189, 3) := by decide +kernel
theorem dX10_readLine_88 : decode cX10_readLine 88 = .ok (.goto 139, 3) := by decide +kernel
theorem dX10_readLine_91 : decode cX10_readLine 91 = .ok (.aload_n 0, 1) := by decide +kernel
theorem dX10_readLine_92 : decode cX10_readLine 92 = .ok (.ldc 125, 2) := by decide +kernel
theorem dX10_readLine_94 : decode cX10_readLine 94 = .ok (.aload_n 0, 1) := by decide +kernel
theorem dX10_readLine_95 : decode cX10_readLine 95 = .ok (.getfield 23, 3) := by decide +kernel
theorem dX10_readLine_98 : decode cX10_readLine 98 = .ok (.bipush 6, 2) := by decide +kernel
theorem dX10_readLine_100 : decode cX10_readLine 100 = .ok (.iaload, 1) := by decide +kernel
theorem dX10_readLine_101 : decode cX10_readLine 101 = .ok (.iconst 4, 1) := by decide +kernel
theorem dX10_readLine_102 : decode cX10_readLine 102 = .ok (.if_icmp .ge 7, 3) := by decide +kernel
theorem dX10_readLine_105 : decode cX10_readLine 105 = .ok (.iconst 1, 1) := by decide +kernel
theorem dX10_readLine_106 : decode cX10_readLine 106 = .ok (.goto 4, 3) := by decide +kernel
theorem dX10_readLine_109 : decode cX10_readLine 109 = .ok (.iconst 0, 1) := by decide +kernel
theorem dX10_readLine_110 : decode cX10_readLine 110 = .ok (.invokevirtual 182, 3) := by decide +kernel
theorem dX10_readLine_113 : decode cX10_readLine 113 = .ok (.ifCond .eq 24, 3) := by decide +kernel
theorem dX10_readLine_116 : decode cX10_readLine 116 = .ok (.aload_n 0, 1) := by decide +kernel
theorem dX10_readLine_117 : decode cX10_readLine 117 = .ok (.bipush 53, 2) := by decide +kernel
theorem dX10_readLine_119 : decode cX10_readLine 119 = .ok (.iconst 4, 1) := by decide +kernel
theorem dX10_readLine_120 : decode cX10_readLine 120 = .ok (.aload_n 0, 1) := by decide +kernel
theorem dX10_readLine_121 : decode cX10_readLine 121 = .ok (.getfield 23, 3) := by decide +kernel
theorem dX10_readLine_124 : decode cX10_readLine 124 = .ok (.bipush 6, 2) := by decide +kernel
theorem dX10_readLine_126 : decode cX10_readLine 126 = .ok (.iaload, 1) := by decide +kernel
theorem dX10_readLine_127 : decode cX10_readLine 127 = .ok (.imul, 1) := by decide +kernel
theorem dX10_readLine_128 : decode cX10_readLine 128 = .ok (.iadd, 1) := by decide +kernel
theorem dX10_readLine_129 : decode cX10_readLine 129 = .ok (.bipush 6, 2) := by decide +kernel
theorem dX10_readLine_131 : decode cX10_readLine 131 = .ok (.invokevirtual 189, 3) := by decide +kernel
theorem dX10_readLine_134 : decode cX10_readLine 134 = .ok (.goto 93, 3) := by decide +kernel
theorem dX10_readLine_137 : decode cX10_readLine 137 = .ok (.aload_n 0, 1) := by decide +kernel
theorem dX10_readLine_138 : decode cX10_readLine 138 = .ok (.ldc 127, 2) := by decide +kernel
theorem dX10_readLine_140 : decode cX10_readLine 140 = .ok (.aload_n 0, 1) := by decide +kernel
theorem dX10_readLine_141 : decode cX10_readLine 141 = .ok (.getfield 23, 3) := by decide +kernel
theorem dX10_readLine_144 : decode cX10_readLine 144 = .ok (.bipush 7, 2) := by decide +kernel
theorem dX10_readLine_146 : decode cX10_readLine 146 = .ok (.iaload, 1) := by decide +kernel
theorem dX10_readLine_147 : decode cX10_readLine 147 = .ok (.iconst 4, 1) := by decide +kernel
theorem dX10_readLine_148 : decode cX10_readLine 148 = .ok (.if_icmp .ge 7, 3) := by decide +kernel
theorem dX10_readLine_151 : decode cX10_readLine 151 = .ok (.iconst 1, 1) := by decide +kernel
theorem dX10_readLine_152 : decode cX10_readLine 152 = .ok (.goto 4, 3) := by decide +kernel
theorem dX10_readLine_155 : decode cX10_readLine 155 = .ok (.iconst 0, 1) := by decide +kernel
theorem dX10_readLine_156 : decode cX10_readLine 156 = .ok (.invokevirtual 182, 3) := by decide +kernel
theorem dX10_readLine_159 : decode cX10_readLine 159 = .ok (.ifCond .eq 10, 3) := by decide +kernel
theorem dX10_readLine_162 : decode cX10_readLine 162 = .ok (.aload_n 0, 1) := by decide +kernel
theorem dX10_readLine_163 : decode cX10_readLine 163 = .ok (.invokevirtual 192, 3) := by decide +kernel
theorem dX10_readLine_166 : decode cX10_readLine 166 = .ok (.goto 61, 3) := by decide +kernel
theorem dX10_readLine_169 : decode cX10_readLine 169 = .ok (.aload_n 0, 1) := by decide +kernel
theorem dX10_readLine_170 : decode cX10_readLine 170 = .ok (.ldc 129, 2) := by decide +kernel
theorem dX10_readLine_172 : decode cX10_readLine 172 = .ok (.iconst 1, 1) := by decide +kernel
theorem dX10_readLine_173 : decode cX10_readLine 173 = .ok (.invokevirtual 182, 3) := by decide +kernel
theorem dX10_readLine_176 : decode cX10_readLine 176 = .ok (.ifCond .eq 10, 3) := by decide +kernel
theorem dX10_readLine_179 : decode cX10_readLine 179 = .ok (.aload_n 0, 1) := by decide +kernel
theorem dX10_readLine_180 : decode cX10_readLine 180 = .ok (.invokevirtual 195, 3) := by decide +kernel
theorem dX10_readLine_183 : decode cX10_readLine 183 = .ok (.goto 44, 3) := by decide +kernel
theorem dX10_readLine_186 : decode cX10_readLine 186 = .ok (.aload_n 0, 1) := by decide +kernel
theorem dX10_readLine_187 : decode cX10_readLine 187 = .ok (.ldc 131, 2) := by decide +kernel
theorem dX10_readLine_189 : decode cX10_readLine 189 = .ok (.aload_n 0, 1) := by decide +kernel
theorem dX10_readLine_190 : decode cX10_readLine 190 = .ok (.getfield 23, 3) := by decide +kernel
theorem dX10_readLine_193 : decode cX10_readLine 193 = .ok (.bipush 9, 2) := by decide +kernel
theorem dX10_readLine_195 : decode cX10_readLine 195 = .ok (.iaload, 1) := by decide +kernel
theorem dX10_readLine_196 : decode cX10_readLine 196 = .ok (.iconst 4, 1) := by decide +kernel
theorem dX10_readLine_197 : decode cX10_readLine 197 = .ok (.if_icmp .ge 7, 3) := by decide +kernel
theorem dX10_readLine_200 : decode cX10_readLine 200 = .ok (.iconst 1, 1) := by decide +kernel
theorem dX10_readLine_201 : decode cX10_readLine 201 = .ok (.goto 4, 3) := by decide +kernel
theorem dX10_readLine_204 : decode cX10_readLine 204 = .ok (.iconst 0, 1) := by decide +kernel
theorem dX10_readLine_205 : decode cX10_readLine 205 = .ok (.invokevirtual 182, 3) := by decide +kernel
theorem dX10_readLine_208 : decode cX10_readLine 208 = .ok (.ifCond .eq 10, 3) := by decide +kernel
theorem dX10_readLine_211 : decode cX10_readLine 211 = .ok (.aload_n 0, 1) := by decide +kernel
theorem dX10_readLine_212 : decode cX10_readLine 212 = .ok (.invokevirtual 198, 3) := by decide +kernel
theorem dX10_readLine_215 : decode cX10_readLine 215 = .ok (.goto 12, 3) := by decide +kernel
theorem dX10_readLine_218 : decode cX10_readLine 218 = .ok (.aload_n 0, 1) := by decide +kernel
theorem dX10_readLine_219 : decode cX10_readLine 219 = .ok (.iconst 1, 1) := by decide +kernel
theorem dX10_readLine_220 : decode cX10_readLine 220 = .ok (.aload_n 0, 1) := by decide +kernel
theorem dX10_readLine_221 : decode cX10_readLine 221 = .ok (.getfield 69, 3) := by decide +kernel
theorem dX10_readLine_224 : decode cX10_readLine 224 = .ok (.invokevirtual 115, 3) := by decide +kernel
theorem dX10_readLine_227 : decode cX10_readLine 227 = .ok (.return_, 1) := by decide +kernel
theorem dX10_duchyLine_0 : decode cX10_duchyLine 0 = .ok (.aload_n 0, 1) := by decide +kernel
theorem dX10_duchyLine_1 : decode cX10_duchyLine 1 = .ok (.getfield 23, 3) := by decide +kernel
theorem dX10_duchyLine_4 : decode cX10_duchyLine 4 = .ok (.iconst 0, 1) := by decide +kernel
theorem dX10_duchyLine_5 : decode cX10_duchyLine 5 = .ok (.iaload, 1) := by decide +kernel
theorem dX10_duchyLine_6 : decode cX10_duchyLine 6 = .ok (.ifCond .le 12, 3) := by decide +kernel
theorem dX10_duchyLine_9 : decode cX10_duchyLine 9 = .ok (.aload_n 0, 1) := by decide +kernel
theorem dX10_duchyLine_10 : decode cX10_duchyLine 10 = .ok (.iconst 3, 1) := by decide +kernel
theorem dX10_duchyLine_11 : decode cX10_duchyLine 11 = .ok (.aload_n 0, 1) := by decide +kernel
theorem dX10_duchyLine_12 : decode cX10_duchyLine 12 = .ok (.getfield 69, 3) := by decide +kernel
theorem dX10_duchyLine_15 : decode cX10_duchyLine 15 = .ok (.invokevirtual 115, 3) := by decide +kernel
theorem dX10_duchyLine_18 : decode cX10_duchyLine 18 = .ok (.aload_n 0, 1) := by decide +kernel
theorem dX10_duchyLine_19 : decode cX10_duchyLine 19 = .ok (.getfield 88, 3) := by decide +kernel
theorem dX10_duchyLine_22 : decode cX10_duchyLine 22 = .ok (.ifCond .eq 4, 3) := by decide +kernel
theorem dX10_duchyLine_25 : decode cX10_duchyLine 25 = .ok (.return_, 1) := by decide +kernel
theorem dX10_duchyLine_26 : decode cX10_duchyLine 26 = .ok (.aload_n 0, 1) := by decide +kernel
theorem dX10_duchyLine_27 : decode cX10_duchyLine 27 = .ok (.invokevirtual 109, 3) := by decide +kernel
theorem dX10_duchyLine_30 : decode cX10_duchyLine 30 = .ok (.aload_n 0, 1) := by decide +kernel
theorem dX10_duchyLine_31 : decode cX10_duchyLine 31 = .ok (.ldc 201, 2) := by decide +kernel
theorem dX10_duchyLine_33 : decode cX10_duchyLine 33 = .ok (.iconst 1, 1) := by decide +kernel
theorem dX10_duchyLine_34 : decode cX10_duchyLine 34 = .ok (.bipush 20, 2) := by decide +kernel
theorem dX10_duchyLine_36 : decode cX10_duchyLine 36 = .ok (.invokevirtual 203, 3) := by decide +kernel
theorem dX10_duchyLine_39 : decode cX10_duchyLine 39 = .ok (.istore_n 1, 1) := by decide +kernel
theorem dX10_duchyLine_40 : decode cX10_duchyLine 40 = .ok (.aload_n 0, 1) := by decide +kernel
theorem dX10_duchyLine_41 : decode cX10_duchyLine 41 = .ok (.getfield 23, 3) := by decide +kernel
theorem dX10_duchyLine_44 : decode cX10_duchyLine 44 = .ok (.iconst 1, 1) := by decide +kernel
theorem dX10_duchyLine_45 : decode cX10_duchyLine 45 = .ok (.aload_n 0, 1) := by decide +kernel
theorem dX10_duchyLine_46 : decode cX10_duchyLine 46 = .ok (.ldc 207, 2) := by decide +kernel
theorem dX10_duchyLine_48 : decode cX10_duchyLine 48 = .ok (.iconst 0, 1) := by decide +kernel
theorem dX10_duchyLine_49 : decode cX10_duchyLine 49 = .ok (.bipush 100, 2) := by decide +kernel
theorem dX10_duchyLine_51 : decode cX10_duchyLine 51 = .ok (.invokevirtual 203, 3) := by decide +kernel
theorem dX10_duchyLine_54 : decode cX10_duchyLine 54 = .ok (.iastore, 1) := by decide +kernel
theorem dX10_duchyLine_55 : decode cX10_duchyLine 55 = .ok (.aload_n 0, 1) := by decide +kernel
theorem dX10_duchyLine_56 : decode cX10_duchyLine 56 = .ok (.getfield 23, 3) := by decide +kernel
theorem dX10_duchyLine_59 : decode cX10_duchyLine 59 = .ok (.iconst 2, 1) := by decide +kernel
theorem dX10_duchyLine_60 : decode cX10_duchyLine 60 = .ok (.aload_n 0, 1) := by decide +kernel
theorem dX10_duchyLine_61 : decode cX10_duchyLine 61 = .ok (.ldc 209, 2) := by decide +kernel
theorem dX10_duchyLine_63 : decode cX10_duchyLine 63 = .ok (.iconst 0, 1) := by decide +kernel
theorem dX10_duchyLine_64 : decode cX10_duchyLine 64 = .ok (.bipush 100, 2) := by decide +kernel
theorem dX10_duchyLine_66 : decode cX10_duchyLine 66 = .ok (.invokevirtual 203, 3) := by decide +kernel
theorem dX10_duchyLine_69 : decode cX10_duchyLine 69 = .ok (.iastore, 1) := by decide +kernel
theorem dX10_duchyLine_70 : decode cX10_duchyLine 70 = .ok (.aload_n 0, 1) := by decide +kernel
theorem dX10_duchyLine_71 : decode cX10_duchyLine 71 = .ok (.getfield 23, 3) := by decide +kernel
theorem dX10_duchyLine_74 : decode cX10_duchyLine 74 = .ok (.iconst 3, 1) := by decide +kernel
theorem dX10_duchyLine_75 : decode cX10_duchyLine 75 = .ok (.aload_n 0, 1) := by decide +kernel
theorem dX10_duchyLine_76 : decode cX10_duchyLine 76 = .ok (.ldc 211, 2) := by decide +kernel
theorem dX10_duchyLine_78 : decode cX10_duchyLine 78 = .ok (.iconst 0, 1) := by decide +kernel
theorem dX10_duchyLine_79 : decode cX10_duchyLine 79 = .ok (.bipush 100, 2) := by decide +kernel
theorem dX10_duchyLine_81 : decode cX10_duchyLine 81 = .ok (.invokevirtual 203, 3) := by decide +kernel
theorem dX10_duchyLine_84 : decode cX10_duchyLine 84 = .ok (.iastore, 1) := by decide +kernel
theorem dX10_duchyLine_85 : decode cX10_duchyLine 85 = .ok (.aload_n 0, 1) := by decide +kernel
theorem dX10_duchyLine_86 : decode cX10_duchyLine 86 = .ok (.getfield 88, 3) := by decide +kernel
theorem dX10_duchyLine_89 : decode cX10_duchyLine 89 = .ok (.ifCond .ne 10, 3) := by decide +kernel
theorem dX10_duchyLine_92 : decode cX10_duchyLine 92 = .ok (.aload_n 0, 1) := by decide +kernel
theorem dX10_duchyLine_93 : decode cX10_duchyLine 93 = .ok (.getfield 23, 3) := by decide +kernel
theorem dX10_duchyLine_96 : decode cX10_duchyLine 96 = .ok (.iconst 0, 1) := by decide +kernel
theorem dX10_duchyLine_97 : decode cX10_duchyLine 97 = .ok (.iload_n 1, 1) := by decide +kernel
theorem dX10_duchyLine_98 : decode cX10_duchyLine 98 = .ok (.iastore, 1) := by decide +kernel
theorem dX10_duchyLine_99 : decode cX10_duchyLine 99 = .ok (.return_, 1) := by decide +kernel
theorem dX10_manLine_0 : decode cX10_manLine 0 = .ok (.aload_n 0, 1) := by decide +kernel
theorem dX10_manLine_1 : decode cX10_manLine 1 = .ok (.getfield 88, 3) := by decide +kernel
theorem dX10_manLine_4 : decode cX10_manLine 4 = .ok (.ifCond .eq 4, 3) := by decide +kernel
theorem dX10_manLine_7 : decode cX10_manLine 7 = .ok (.return_, 1) := by decide +kernel
theorem dX10_manLine_8 : decode cX10_manLine 8 = .ok (.bipush 10, 2) := by decide +kernel
theorem dX10_manLine_10 : decode cX10_manLine 10 = .ok (.iconst 3, 1) := by decide +kernel
theorem dX10_manLine_11 : decode cX10_manLine 11 = .ok (.aload_n 0, 1) := by decide +kernel
theorem dX10_manLine_12 : decode cX10_manLine 12 = .ok (.getfield 23, 3) := by decide +kernel
theorem dX10_manLine_15 : decode cX10_manLine 15 = .ok (.iconst 4, 1) := by decide +kernel
theorem dX10_manLine_16 : decode cX10_manLine 16 = .ok (.iaload, 1) := by decide +kernel
theorem dX10_manLine_17 : decode cX10_manLine 17 = .ok (.imul, 1) := by decide +kernel
theorem dX10_manLine_18 : decode cX10_manLine 18 = .ok (.iadd, 1) := by decide +kernel
theorem dX10_manLine_19 : decode cX10_manLine 19 = .ok (.istore_n 1, 1) := by decide +kernel
theorem dX10_manLine_20 : decode cX10_manLine 20 = .ok (.aload_n 0, 1) := by decide +kernel
theorem dX10_manLine_21 : decode cX10_manLine 21 = .ok (.aload_n 0, 1) := by decide +kernel
theorem dX10_manLine_22 : decode cX10_manLine 22 = .ok (.getfield 23, 3) := by decide +kernel
theorem dX10_manLine_25 : decode cX10_manLine 25 = .ok (.iconst 4, 1) := by decide +kernel
theorem dX10_manLine_26 : decode cX10_manLine 26 = .ok (.iaload, 1) := by decide +kernel
theorem dX10_manLine_27 : decode cX10_manLine 27 = .ok (.invokevirtual 213, 3) := by decide +kernel
theorem dX10_manLine_30 : decode cX10_manLine 30 = .ok (.aload_n 0, 1) := by decide +kernel
theorem dX10_manLine_31 : decode cX10_manLine 31 = .ok (.ldc 217, 2) := by decide +kernel
theorem dX10_manLine_33 : decode cX10_manLine 33 = .ok (.invokevirtual 105, 3) := by decide +kernel
theorem dX10_manLine_36 : decode cX10_manLine 36 = .ok (.ifCond .eq 7, 3) := by decide +kernel
theorem dX10_manLine_39 : decode cX10_manLine 39 = .ok (.iconst 0, 1) := by decide +kernel
theorem dX10_manLine_40 : decode cX10_manLine 40 = .ok (.goto 43, 3) := by decide +kernel
theorem dX10_manLine_43 : decode cX10_manLine 43 = .ok (.aload_n 0, 1) := by decide +kernel
theorem dX10_manLine_44 : decode cX10_manLine 44 = .ok (.ldc 219, 2) := by decide +kernel
theorem dX10_manLine_46 : decode cX10_manLine 46 = .ok (.invokevirtual 105, 3) := by decide +kernel
theorem dX10_manLine_49 : decode cX10_manLine 49 = .ok (.ifCond .eq 7, 3) := by decide +kernel
theorem dX10_manLine_52 : decode cX10_manLine 52 = .ok (.iconst 1, 1) := by decide +kernel
theorem dX10_manLine_53 : decode cX10_manLine 53 = .ok (.goto 30, 3) := by decide +kernel
theorem dX10_manLine_56 : decode cX10_manLine 56 = .ok (.aload_n 0, 1) := by decide +kernel
theorem dX10_manLine_57 : decode cX10_manLine 57 = .ok (.ldc 221, 2) := by decide +kernel
theorem dX10_manLine_59 : decode cX10_manLine 59 = .ok (.invokevirtual 105, 3) := by decide +kernel
theorem dX10_manLine_62 : decode cX10_manLine 62 = .ok (.ifCond .eq 7, 3) := by decide +kernel
theorem dX10_manLine_65 : decode cX10_manLine 65 = .ok (.iconst 2, 1) := by decide +kernel
theorem dX10_manLine_66 : decode cX10_manLine 66 = .ok (.goto 17, 3) := by decide +kernel
theorem dX10_manLine_69 : decode cX10_manLine 69 = .ok (.aload_n 0, 1) := by decide +kernel
theorem dX10_manLine_70 : decode cX10_manLine 70 = .ok (.ldc 223, 2) := by decide +kernel
theorem dX10_manLine_72 : decode cX10_manLine 72 = .ok (.invokevirtual 105, 3) := by decide +kernel
theorem dX10_manLine_75 : decode cX10_manLine 75 = .ok (.ifCond .eq 7, 3) := by decide +kernel
theorem dX10_manLine_78 : decode cX10_manLine 78 = .ok (.iconst 3, 1) := by decide +kernel
theorem dX10_manLine_79 : decode cX10_manLine 79 = .ok (.goto 4, 3) := by decide +kernel
theorem dX10_manLine_82 : decode cX10_manLine 82 = .ok (.iconst (-1), 1) := by decide +kernel
theorem dX10_manLine_83 : decode cX10_manLine 83 = .ok (.istore_n 2, 1) := by decide +kernel
theorem dX10_manLine_84 : decode cX10_manLine 84 = .ok (.iload_n 2, 1) := by decide +kernel
theorem dX10_manLine_85 : decode cX10_manLine 85 = .ok (.ifCond .ge 12, 3) := by decide +kernel
theorem dX10_manLine_88 : decode cX10_manLine 88 = .ok (.aload_n 0, 1) := by decide +kernel
theorem dX10_manLine_89 : decode cX10_manLine 89 = .ok (.iconst 1, 1) := by decide +kernel
theorem dX10_manLine_90 : decode cX10_manLine 90 = .ok (.aload_n 0, 1) := by decide +kernel
theorem dX10_manLine_91 : decode cX10_manLine 91 = .ok (.getfield 69, 3) := by decide +kernel
theorem dX10_manLine_94 : decode cX10_manLine 94 = .ok (.invokevirtual 115, 3) := by decide +kernel
theorem dX10_manLine_97 : decode cX10_manLine 97 = .ok (.aload_n 0, 1) := by decide +kernel
theorem dX10_manLine_98 : decode cX10_manLine 98 = .ok (.getfield 88, 3) := by decide +kernel
theorem dX10_manLine_101 : decode cX10_manLine 101 = .ok (.ifCond .eq 4, 3) := by decide +kernel
theorem dX10_manLine_104 : decode cX10_manLine 104 = .ok (.return_, 1) := by decide +kernel
theorem dX10_manLine_105 : decode cX10_manLine 105 = .ok (.aload_n 0, 1) := by decide +kernel
theorem dX10_manLine_106 : decode cX10_manLine 106 = .ok (.invokevirtual 109, 3) := by decide +kernel
theorem dX10_manLine_109 : decode cX10_manLine 109 = .ok (.aload_n 0, 1) := by decide +kernel
theorem dX10_manLine_110 : decode cX10_manLine 110 = .ok (.getfield 23, 3) := by decide +kernel
theorem dX10_manLine_113 : decode cX10_manLine 113 = .ok (.iload_n 1, 1) := by decide +kernel
theorem dX10_manLine_114 : decode cX10_manLine 114 = .ok (.iload_n 2, 1) := by decide +kernel
theorem dX10_manLine_115 : decode cX10_manLine 115 = .ok (.iastore, 1) := by decide +kernel
theorem dX10_manLine_116 : decode cX10_manLine 116 = .ok (.aload_n 0, 1) := by decide +kernel
theorem dX10_manLine_117 : decode cX10_manLine 117 = .ok (.getfield 23, 3) := by decide +kernel
theorem dX10_manLine_120 : decode cX10_manLine 120 = .ok (.iload_n 1, 1) := by decide +kernel
theorem dX10_manLine_121 : decode cX10_manLine 121 = .ok (.iconst 1, 1) := by decide +kernel
theorem dX10_manLine_122 : decode cX10_manLine 122 = .ok (.iadd, 1) := by decide +kernel
theorem dX10_manLine_123 : decode cX10_manLine 123 = .ok (.aload_n 0, 1) := by decide +kernel
theorem dX10_manLine_124 : decode cX10_manLine 124 = .ok (.ldc 225, 2) := by decide +kernel
theorem dX10_manLine_126 : decode cX10_manLine 126 = .ok (.iconst 0, 1) := by decide +kernel
theorem dX10_manLine_127 : decode cX10_manLine 127 = .ok (.bipush 99, 2) := by decide +kernel
theorem dX10_manLine_129 : decode cX10_manLine 129 = .ok (.invokevirtual 203, 3) := by decide +kernel
theorem dX10_manLine_132 : decode cX10_manLine 132 = .ok (.iastore, 1) := by decide +kernel
theorem dX10_manLine_133 : decode cX10_manLine 133 = .ok (.aload_n 0, 1) := by decide +kernel
theorem dX10_manLine_134 : decode cX10_manLine 134 = .ok (.getfield 23, 3) := by decide +kernel
theorem dX10_manLine_137 : decode cX10_manLine 137 = .ok (.iload_n 1, 1) := by decide +kernel
theorem dX10_manLine_138 : decode cX10_manLine 138 = .ok (.iconst 2, 1) := by decide +kernel
theorem dX10_manLine_139 : decode cX10_manLine 139 = .ok (.iadd, 1) := by decide +kernel
theorem dX10_manLine_140 : decode cX10_manLine 140 = .ok (.aload_n 0, 1) := by decide +kernel
theorem dX10_manLine_141 : decode cX10_manLine 141 = .ok (.ldc 227, 2) := by decide +kernel
theorem dX10_manLine_143 : decode cX10_manLine 143 = .ok (.iconst 0, 1) := by decide +kernel
theorem dX10_manLine_144 : decode cX10_manLine 144 = .ok (.bipush 9, 2) := by decide +kernel
theorem dX10_manLine_146 : decode cX10_manLine 146 = .ok (.invokevirtual 203, 3) := by decide +kernel
theorem dX10_manLine_149 : decode cX10_manLine 149 = .ok (.iastore, 1) := by decide +kernel
theorem dX10_manLine_150 : decode cX10_manLine 150 = .ok (.aload_n 0, 1) := by decide +kernel
theorem dX10_manLine_151 : decode cX10_manLine 151 = .ok (.getfield 88, 3) := by decide +kernel
theorem dX10_manLine_154 : decode cX10_manLine 154 = .ok (.ifCond .ne 13, 3) := by decide +kernel
theorem dX10_manLine_157 : decode cX10_manLine 157 = .ok (.aload_n 0, 1) := by decide +kernel
theorem dX10_manLine_158 : decode cX10_manLine 158 = .ok (.getfield 23, 3) := by decide +kernel
theorem dX10_manLine_161 : decode cX10_manLine 161 = .ok (.iconst 4, 1) := by decide +kernel
theorem dX10_manLine_162 : decode cX10_manLine 162 = .ok (.dup2, 1) := by decide +kernel
theorem dX10_manLine_163 : decode cX10_manLine 163 = .ok (.iaload, 1) := by decide +kernel
theorem dX10_manLine_164 : decode cX10_manLine 164 = .ok (.iconst 1, 1) := by decide +kernel
theorem dX10_manLine_165 : decode cX10_manLine 165 = .ok (.iadd, 1) := by decide +kernel
theorem dX10_manLine_166 : decode cX10_manLine 166 = .ok (.iastore, 1) := by decide +kernel
theorem dX10_manLine_167 : decode cX10_manLine 167 = .ok (.return_, 1) := by decide +kernel
theorem dX10_owesLine_0 : decode cX10_owesLine 0 = .ok (.aload_n 0, 1) := by decide +kernel
theorem dX10_owesLine_1 : decode cX10_owesLine 1 = .ok (.getfield 88, 3) := by decide +kernel
theorem dX10_owesLine_4 : decode cX10_owesLine 4 = .ok (.ifCond .eq 4, 3) := by decide +kernel
theorem dX10_owesLine_7 : decode cX10_owesLine 7 = .ok (.return_, 1) := by decide +kernel
theorem dX10_owesLine_8 : decode cX10_owesLine 8 = .ok (.aload_n 0, 1) := by decide +kernel
theorem dX10_owesLine_9 : decode cX10_owesLine 9 = .ok (.getfield 23, 3) := by decide +kernel
theorem dX10_owesLine_12 : decode cX10_owesLine 12 = .ok (.iload_n 1, 1) := by decide +kernel
theorem dX10_owesLine_13 : decode cX10_owesLine 13 = .ok (.aload_n 0, 1) := by decide +kernel
theorem dX10_owesLine_14 : decode cX10_owesLine 14 = .ok (.invokevirtual 229, 3) := by decide +kernel
theorem dX10_owesLine_17 : decode cX10_owesLine 17 = .ok (.iastore, 1) := by decide +kernel
theorem dX10_owesLine_18 : decode cX10_owesLine 18 = .ok (.aload_n 0, 1) := by decide +kernel
theorem dX10_owesLine_19 : decode cX10_owesLine 19 = .ok (.invokevirtual 176, 3) := by decide +kernel
theorem dX10_owesLine_22 : decode cX10_owesLine 22 = .ok (.aload_n 0, 1) := by decide +kernel
theorem dX10_owesLine_23 : decode cX10_owesLine 23 = .ok (.getfield 23, 3) := by decide +kernel
theorem dX10_owesLine_26 : decode cX10_owesLine 26 = .ok (.iload_n 1, 1) := by decide +kernel
theorem dX10_owesLine_27 : decode cX10_owesLine 27 = .ok (.iconst 1, 1) := by decide +kernel
theorem dX10_owesLine_28 : decode cX10_owesLine 28 = .ok (.iadd, 1) := by decide +kernel
theorem dX10_owesLine_29 : decode cX10_owesLine 29 = .ok (.aload_n 0, 1) := by decide +kernel
theorem dX10_owesLine_30 : decode cX10_owesLine 30 = .ok (.invokevirtual 229, 3) := by decide +kernel
theorem dX10_owesLine_33 : decode cX10_owesLine 33 = .ok (.iastore, 1) := by decide +kernel
theorem dX10_owesLine_34 : decode cX10_owesLine 34 = .ok (.aload_n 0, 1) := by decide +kernel
theorem dX10_owesLine_35 : decode cX10_owesLine 35 = .ok (.getfield 88, 3) := by decide +kernel
theorem dX10_owesLine_38 : decode cX10_owesLine 38 = .ok (.ifCond .ne 29, 3) := by decide +kernel
theorem dX10_owesLine_41 : decode cX10_owesLine 41 = .ok (.aload_n 0, 1) := by decide +kernel
theorem dX10_owesLine_42 : decode cX10_owesLine 42 = .ok (.getfield 23, 3) := by decide +kernel
theorem dX10_owesLine_45 : decode cX10_owesLine 45 = .ok (.iload_n 1, 1) := by decide +kernel
theorem dX10_owesLine_46 : decode cX10_owesLine 46 = .ok (.iaload, 1) := by decide +kernel
theorem dX10_owesLine_47 : decode cX10_owesLine 47 = .ok (.aload_n 0, 1) := by decide +kernel
theorem dX10_owesLine_48 : decode cX10_owesLine 48 = .ok (.getfield 23, 3) := by decide +kernel
theorem dX10_owesLine_51 : decode cX10_owesLine 51 = .ok (.iload_n 1, 1) := by decide +kernel
theorem dX10_owesLine_52 : decode cX10_owesLine 52 = .ok (.iconst 1, 1) := by decide +kernel
theorem dX10_owesLine_53 : decode cX10_owesLine 53 = .ok (.iadd, 1) := by decide +kernel
theorem dX10_owesLine_54 : decode cX10_owesLine 54 = .ok (.iaload, 1) := by decide +kernel
theorem dX10_owesLine_55 : decode cX10_owesLine 55 = .ok (.if_icmp .ne 12, 3) := by decide +kernel
theorem dX10_owesLine_58 : decode cX10_owesLine 58 = .ok (.aload_n 0, 1) := by decide +kernel
theorem dX10_owesLine_59 : decode cX10_owesLine 59 = .ok (.iconst 3, 1) := by decide +kernel
theorem dX10_owesLine_60 : decode cX10_owesLine 60 = .ok (.aload_n 0, 1) := by decide +kernel
theorem dX10_owesLine_61 : decode cX10_owesLine 61 = .ok (.getfield 69, 3) := by decide +kernel
theorem dX10_owesLine_64 : decode cX10_owesLine 64 = .ok (.invokevirtual 115, 3) := by decide +kernel
theorem dX10_owesLine_67 : decode cX10_owesLine 67 = .ok (.aload_n 0, 1) := by decide +kernel
theorem dX10_owesLine_68 : decode cX10_owesLine 68 = .ok (.invokevirtual 176, 3) := by decide +kernel
theorem dX10_owesLine_71 : decode cX10_owesLine 71 = .ok (.aload_n 0, 1) := by decide +kernel
theorem dX10_owesLine_72 : decode cX10_owesLine 72 = .ok (.getfield 23, 3) := by decide +kernel
theorem dX10_owesLine_75 : decode cX10_owesLine 75 = .ok (.iload_n 1, 1) := by decide +kernel
theorem dX10_owesLine_76 : decode cX10_owesLine 76 = .ok (.iconst 2, 1) := by decide +kernel
theorem dX10_owesLine_77 : decode cX10_owesLine 77 = .ok (.iadd, 1) := by decide +kernel
theorem dX10_owesLine_78 : decode cX10_owesLine 78 = .ok (.aload_n 0, 1) := by decide +kernel
theorem dX10_owesLine_79 : decode cX10_owesLine 79 = .ok (.iconst 1, 1) := by decide +kernel
theorem dX10_owesLine_80 : decode cX10_owesLine 80 = .ok (.bipush 99, 2) := by decide +kernel
theorem dX10_owesLine_82 : decode cX10_owesLine 82 = .ok (.invokevirtual 151, 3) := by decide +kernel
theorem dX10_owesLine_85 : decode cX10_owesLine 85 = .ok (.iastore, 1) := by decide +kernel
theorem dX10_owesLine_86 : decode cX10_owesLine 86 = .ok (.aload_n 0, 1) := by decide +kernel
theorem dX10_owesLine_87 : decode cX10_owesLine 87 = .ok (.getfield 23, 3) := by decide +kernel
theorem dX10_owesLine_90 : decode cX10_owesLine 90 = .ok (.iload_n 1, 1) := by decide +kernel
theorem dX10_owesLine_91 : decode cX10_owesLine 91 = .ok (.iconst 3, 1) := by decide +kernel
theorem dX10_owesLine_92 : decode cX10_owesLine 92 = .ok (.iadd, 1) := by decide +kernel
theorem dX10_owesLine_93 : decode cX10_owesLine 93 = .ok (.aload_n 0, 1) := by decide +kernel
theorem dX10_owesLine_94 : decode cX10_owesLine 94 = .ok (.ldc 232, 2) := by decide +kernel
theorem dX10_owesLine_96 : decode cX10_owesLine 96 = .ok (.iconst 0, 1) := by decide +kernel
theorem dX10_owesLine_97 : decode cX10_owesLine 97 = .ok (.bipush 9, 2) := by decide +kernel
theorem dX10_owesLine_99 : decode cX10_owesLine 99 = .ok (.invokevirtual 203, 3) := by decide +kernel
theorem dX10_owesLine_102 : decode cX10_owesLine 102 = .ok (.iastore, 1) := by decide +kernel
theorem dX10_owesLine_103 : decode cX10_owesLine 103 = .ok (.aload_n 0, 1) := by decide +kernel
theorem dX10_owesLine_104 : decode cX10_owesLine 104 = .ok (.getfield 88, 3) := by decide +kernel
theorem dX10_owesLine_107 : decode cX10_owesLine 107 = .ok (.ifCond .ne 13, 3) := by decide +kernel
theorem dX10_owesLine_110 : decode cX10_owesLine 110 = .ok (.aload_n 0, 1) := by decide +kernel
theorem dX10_owesLine_111 : decode cX10_owesLine 111 = .ok (.getfield 23, 3) := by decide +kernel
theorem dX10_owesLine_114 : decode cX10_owesLine 114 = .ok (.iload_n 2, 1) := by decide +kernel
theorem dX10_owesLine_115 : decode cX10_owesLine 115 = .ok (.dup2, 1) := by decide +kernel
theorem dX10_owesLine_116 : decode cX10_owesLine 116 = .ok (.iaload, 1) := by decide +kernel
theorem dX10_owesLine_117 : decode cX10_owesLine 117 = .ok (.iconst 1, 1) := by decide +kernel
theorem dX10_owesLine_118 : decode cX10_owesLine 118 = .ok (.iadd, 1) := by decide +kernel
theorem dX10_owesLine_119 : decode cX10_owesLine 119 = .ok (.iastore, 1) := by decide +kernel
theorem dX10_owesLine_120 : decode cX10_owesLine 120 = .ok (.return_, 1) := by decide +kernel
theorem dX10_doorLine_0 : decode cX10_doorLine 0 = .ok (.aload_n 0, 1) := by decide +kernel
theorem dX10_doorLine_1 : decode cX10_doorLine 1 = .ok (.getfield 88, 3) := by decide +kernel
theorem dX10_doorLine_4 : decode cX10_doorLine 4 = .ok (.ifCond .eq 4, 3) := by decide +kernel
theorem dX10_doorLine_7 : decode cX10_doorLine 7 = .ok (.return_, 1) := by decide +kernel
theorem dX10_doorLine_8 : decode cX10_doorLine 8 = .ok (.aload_n 0, 1) := by decide +kernel
theorem dX10_doorLine_9 : decode cX10_doorLine 9 = .ok (.iconst 5, 1) := by decide +kernel
theorem dX10_doorLine_10 : decode cX10_doorLine 10 = .ok (.aload_n 0, 1) := by decide +kernel
theorem dX10_doorLine_11 : decode cX10_doorLine 11 = .ok (.getfield 23, 3) := by decide +kernel
theorem dX10_doorLine_14 : decode cX10_doorLine 14 = .ok (.bipush 7, 2) := by decide +kernel
theorem dX10_doorLine_16 : decode cX10_doorLine 16 = .ok (.iaload, 1) := by decide +kernel
theorem dX10_doorLine_17 : decode cX10_doorLine 17 = .ok (.iadd, 1) := by decide +kernel
theorem dX10_doorLine_18 : decode cX10_doorLine 18 = .ok (.invokevirtual 213, 3) := by decide +kernel
theorem dX10_doorLine_21 : decode cX10_doorLine 21 = .ok (.aload_n 0, 1) := by decide +kernel
theorem dX10_doorLine_22 : decode cX10_doorLine 22 = .ok (.getfield 23, 3) := by decide +kernel
theorem dX10_doorLine_25 : decode cX10_doorLine 25 = .ok (.bipush 69, 2) := by decide +kernel
theorem dX10_doorLine_27 : decode cX10_doorLine 27 = .ok (.aload_n 0, 1) := by decide +kernel
theorem dX10_doorLine_28 : decode cX10_doorLine 28 = .ok (.getfield 23, 3) := by decide +kernel
theorem dX10_doorLine_31 : decode cX10_doorLine 31 = .ok (.bipush 7, 2) := by decide +kernel
theorem dX10_doorLine_33 : decode cX10_doorLine 33 = .ok (.iaload, 1) := by decide +kernel
theorem dX10_doorLine_34 : decode cX10_doorLine 34 = .ok (.iadd, 1) := by decide +kernel
theorem dX10_doorLine_35 : decode cX10_doorLine 35 = .ok (.aload_n 0, 1) := by decide +kernel
theorem dX10_doorLine_36 : decode cX10_doorLine 36 = .ok (.ldc 234, 2) := by decide +kernel
theorem dX10_doorLine_38 : decode cX10_doorLine 38 = .ok (.iconst 0, 1) := by decide +kernel
theorem dX10_doorLine_39 : decode cX10_doorLine 39 = .ok (.bipush 40, 2) := by decide +kernel
theorem dX10_doorLine_41 : decode cX10_doorLine 41 = .ok (.invokevirtual 203, 3) := by decide +kernel
theorem dX10_doorLine_44 : decode cX10_doorLine 44 = .ok (.iastore, 1) := by decide +kernel
theorem dX10_doorLine_45 : decode cX10_doorLine 45 = .ok (.aload_n 0, 1) := by decide +kernel
theorem dX10_doorLine_46 : decode cX10_doorLine 46 = .ok (.getfield 88, 3) := by decide +kernel
theorem dX10_doorLine_49 : decode cX10_doorLine 49 = .ok (.ifCond .ne 14, 3) := by decide +kernel
theorem dX10_doorLine_52 : decode cX10_doorLine 52 = .ok (.aload_n 0, 1) := by decide +kernel
theorem dX10_doorLine_53 : decode cX10_doorLine 53 = .ok (.getfield 23, 3) := by decide +kernel
theorem dX10_doorLine_56 : decode cX10_doorLine 56 = .ok (.bipush 7, 2) := by decide +kernel
theorem dX10_doorLine_58 : decode cX10_doorLine 58 = .ok (.dup2, 1) := by decide +kernel
theorem dX10_doorLine_59 : decode cX10_doorLine 59 = .ok (.iaload, 1) := by decide +kernel
theorem dX10_doorLine_60 : decode cX10_doorLine 60 = .ok (.iconst 1, 1) := by decide +kernel
theorem dX10_doorLine_61 : decode cX10_doorLine 61 = .ok (.iadd, 1) := by decide +kernel
theorem dX10_doorLine_62 : decode cX10_doorLine 62 = .ok (.iastore, 1) := by decide +kernel
theorem dX10_doorLine_63 : decode cX10_doorLine 63 = .ok (.return_, 1) := by decide +kernel
theorem dX10_invitedLine_0 : decode cX10_invitedLine 0 = .ok (.aload_n 0, 1) := by decide +kernel
theorem dX10_invitedLine_1 : decode cX10_invitedLine 1 = .ok (.getfield 88, 3) := by decide +kernel
theorem dX10_invitedLine_4 : decode cX10_invitedLine 4 = .ok (.ifCond .eq 4, 3) := by decide +kernel
theorem dX10_invitedLine_7 : decode cX10_invitedLine 7 = .ok (.return_, 1) := by decide +kernel
theorem dX10_invitedLine_8 : decode cX10_invitedLine 8 = .ok (.aload_n 0, 1) := by decide +kernel
theorem dX10_invitedLine_9 : decode cX10_invitedLine 9 = .ok (.invokevirtual 229, 3) := by decide +kernel
theorem dX10_invitedLine_12 : decode cX10_invitedLine 12 = .ok (.istore_n 1, 1) := by decide +kernel
theorem dX10_invitedLine_13 : decode cX10_invitedLine 13 = .ok (.aload_n 0, 1) := by decide +kernel
theorem dX10_invitedLine_14 : decode cX10_invitedLine 14 = .ok (.getfield 88, 3) := by decide +kernel
theorem dX10_invitedLine_17 : decode cX10_invitedLine 17 = .ok (.ifCond .ne 24, 3) := by decide +kernel
theorem dX10_invitedLine_20 : decode cX10_invitedLine 20 = .ok (.aload_n 0, 1) := by decide +kernel
theorem dX10_invitedLine_21 : decode cX10_invitedLine 21 = .ok (.getfield 23, 3) := by decide +kernel
theorem dX10_invitedLine_24 : decode cX10_invitedLine 24 = .ok (.bipush 73, 2) := by decide +kernel
theorem dX10_invitedLine_26 : decode cX10_invitedLine 26 = .ok (.iload_n 1, 1) := by decide +kernel
theorem dX10_invitedLine_27 : decode cX10_invitedLine 27 = .ok (.iadd, 1) := by decide +kernel
theorem dX10_invitedLine_28 : decode cX10_invitedLine 28 = .ok (.iaload, 1) := by decide +kernel
theorem dX10_invitedLine_29 : decode cX10_invitedLine 29 = .ok (.ifCond .le 12, 3) := by decide +kernel
theorem dX10_invitedLine_32 : decode cX10_invitedLine 32 = .ok (.aload_n 0, 1) := by decide +kernel
theorem dX10_invitedLine_33 : decode cX10_invitedLine 33 = .ok (.iconst 3, 1) := by decide +kernel
theorem dX10_invitedLine_34 : decode cX10_invitedLine 34 = .ok (.aload_n 0, 1) := by decide +kernel
theorem dX10_invitedLine_35 : decode cX10_invitedLine 35 = .ok (.getfield 69, 3) := by decide +kernel
theorem dX10_invitedLine_38 : decode cX10_invitedLine 38 = .ok (.invokevirtual 115, 3) := by decide +kernel
theorem dX10_invitedLine_41 : decode cX10_invitedLine 41 = .ok (.aload_n 0, 1) := by decide +kernel
theorem dX10_invitedLine_42 : decode cX10_invitedLine 42 = .ok (.invokevirtual 176, 3) := by decide +kernel
theorem dX10_invitedLine_45 : decode cX10_invitedLine 45 = .ok (.aload_n 0, 1) := by decide +kernel
theorem dX10_invitedLine_46 : decode cX10_invitedLine 46 = .ok (.iconst 5, 1) := by decide +kernel
theorem dX10_invitedLine_47 : decode cX10_invitedLine 47 = .ok (.bipush 8, 2) := by decide +kernel
theorem dX10_invitedLine_49 : decode cX10_invitedLine 49 = .ok (.invokevirtual 143, 3) := by decide +kernel
theorem dX10_invitedLine_52 : decode cX10_invitedLine 52 = .ok (.istore_n 2, 1) := by decide +kernel
theorem dX10_invitedLine_53 : decode cX10_invitedLine 53 = .ok (.aload_n 0, 1) := by decide +kernel
theorem dX10_invitedLine_54 : decode cX10_invitedLine 54 = .ok (.invokevirtual 176, 3) := by decide +kernel
theorem dX10_invitedLine_57 : decode cX10_invitedLine 57 = .ok (.aload_n 0, 1) := by decide +kernel
theorem dX10_invitedLine_58 : decode cX10_invitedLine 58 = .ok (.getfield 88, 3) := by decide +kernel
theorem dX10_invitedLine_61 : decode cX10_invitedLine 61 = .ok (.ifCond .eq 4, 3) := by decide +kernel
theorem dX10_invitedLine_64 : decode cX10_invitedLine 64 = .ok (.return_, 1) := by decide +kernel
theorem dX10_invitedLine_65 : decode cX10_invitedLine 65 = .ok (.aload_n 0, 1) := by decide +kernel
theorem dX10_invitedLine_66 : decode cX10_invitedLine 66 = .ok (.getfield 23, 3) := by decide +kernel
theorem dX10_invitedLine_69 : decode cX10_invitedLine 69 = .ok (.bipush 73, 2) := by decide +kernel
theorem dX10_invitedLine_71 : decode cX10_invitedLine 71 = .ok (.iload_n 1, 1) := by decide +kernel
theorem dX10_invitedLine_72 : decode cX10_invitedLine 72 = .ok (.iadd, 1) := by decide +kernel
theorem dX10_invitedLine_73 : decode cX10_invitedLine 73 = .ok (.iload_n 2, 1) := by decide +kernel
theorem dX10_invitedLine_74 : decode cX10_invitedLine 74 = .ok (.iconst 1, 1) := by decide +kernel
theorem dX10_invitedLine_75 : decode cX10_invitedLine 75 = .ok (.iadd, 1) := by decide +kernel
theorem dX10_invitedLine_76 : decode cX10_invitedLine 76 = .ok (.iastore, 1) := by decide +kernel
theorem dX10_invitedLine_77 : decode cX10_invitedLine 77 = .ok (.aload_n 0, 1) := by decide +kernel
theorem dX10_invitedLine_78 : decode cX10_invitedLine 78 = .ok (.getfield 23, 3) := by decide +kernel
theorem dX10_invitedLine_81 : decode cX10_invitedLine 81 = .ok (.bipush 8, 2) := by decide +kernel
theorem dX10_invitedLine_83 : decode cX10_invitedLine 83 = .ok (.dup2, 1) := by decide +kernel
theorem dX10_invitedLine_84 : decode cX10_invitedLine 84 = .ok (.iaload, 1) := by decide +kernel
theorem dX10_invitedLine_85 : decode cX10_invitedLine 85 = .ok (.iconst 1, 1) := by decide +kernel
theorem dX10_invitedLine_86 : decode cX10_invitedLine 86 = .ok (.iadd, 1) := by decide +kernel
theorem dX10_invitedLine_87 : decode cX10_invitedLine 87 = .ok (.iastore, 1) := by decide +kernel
theorem dX10_invitedLine_88 : decode cX10_invitedLine 88 = .ok (.return_, 1) := by decide +kernel
theorem dX10_readingLine_0 : decode cX10_readingLine 0 = .ok (.aload_n 0, 1) := by decide +kernel
theorem dX10_readingLine_1 : decode cX10_readingLine 1 = .ok (.getfield 88, 3) := by decide +kernel
theorem dX10_readingLine_4 : decode cX10_readingLine 4 = .ok (.ifCond .eq 4, 3) := by decide +kernel
theorem dX10_readingLine_7 : decode cX10_readingLine 7 = .ok (.return_, 1) := by decide +kernel
theorem dX10_readingLine_8 : decode cX10_readingLine 8 = .ok (.bipush 78, 2) := by decide +kernel
theorem dX10_readingLine_10 : decode cX10_readingLine 10 = .ok (.iconst 2, 1) := by decide +kernel
theorem dX10_readingLine_11 : decode cX10_readingLine 11 = .ok (.aload_n 0, 1) := by decide +kernel
theorem dX10_readingLine_12 : decode cX10_readingLine 12 = .ok (.getfield 23, 3) := by decide +kernel
theorem dX10_readingLine_15 : decode cX10_readingLine 15 = .ok (.bipush 9, 2) := by decide +kernel
theorem dX10_readingLine_17 : decode cX10_readingLine 17 = .ok (.iaload, 1) := by decide +kernel
theorem dX10_readingLine_18 : decode cX10_readingLine 18 = .ok (.imul, 1) := by decide +kernel
theorem dX10_readingLine_19 : decode cX10_readingLine 19 = .ok (.iadd, 1) := by decide +kernel
theorem dX10_readingLine_20 : decode cX10_readingLine 20 = .ok (.istore_n 1, 1) := by decide +kernel
theorem dX10_readingLine_21 : decode cX10_readingLine 21 = .ok (.aload_n 0, 1) := by decide +kernel
theorem dX10_readingLine_22 : decode cX10_readingLine 22 = .ok (.getfield 23, 3) := by decide +kernel
theorem dX10_readingLine_25 : decode cX10_readingLine 25 = .ok (.iload_n 1, 1) := by decide +kernel
theorem dX10_readingLine_26 : decode cX10_readingLine 26 = .ok (.aload_n 0, 1) := by decide +kernel
theorem dX10_readingLine_27 : decode cX10_readingLine 27 = .ok (.invokevirtual 229, 3) := by decide +kernel
theorem dX10_readingLine_30 : decode cX10_readingLine 30 = .ok (.iastore, 1) := by decide +kernel
theorem dX10_readingLine_31 : decode cX10_readingLine 31 = .ok (.aload_n 0, 1) := by decide +kernel
theorem dX10_readingLine_32 : decode cX10_readingLine 32 = .ok (.invokevirtual 176, 3) := by decide +kernel
theorem dX10_readingLine_35 : decode cX10_readingLine 35 = .ok (.aload_n 0, 1) := by decide +kernel
theorem dX10_readingLine_36 : decode cX10_readingLine 36 = .ok (.getfield 23, 3) := by decide +kernel
theorem dX10_readingLine_39 : decode cX10_readingLine 39 = .ok (.iload_n 1, 1) := by decide +kernel
theorem dX10_readingLine_40 : decode cX10_readingLine 40 = .ok (.iconst 1, 1) := by decide +kernel
theorem dX10_readingLine_41 : decode cX10_readingLine 41 = .ok (.iadd, 1) := by decide +kernel
theorem dX10_readingLine_42 : decode cX10_readingLine 42 = .ok (.aload_n 0, 1) := by decide +kernel
theorem dX10_readingLine_43 : decode cX10_readingLine 43 = .ok (.iconst 0, 1) := by decide +kernel
theorem dX10_readingLine_44 : decode cX10_readingLine 44 = .ok (.bipush 40, 2) := by decide +kernel
theorem dX10_readingLine_46 : decode cX10_readingLine 46 = .ok (.invokevirtual 151, 3) := by decide +kernel
theorem dX10_readingLine_49 : decode cX10_readingLine 49 = .ok (.iastore, 1) := by decide +kernel
theorem dX10_readingLine_50 : decode cX10_readingLine 50 = .ok (.aload_n 0, 1) := by decide +kernel
theorem dX10_readingLine_51 : decode cX10_readingLine 51 = .ok (.getfield 88, 3) := by decide +kernel
theorem dX10_readingLine_54 : decode cX10_readingLine 54 = .ok (.ifCond .ne 14, 3) := by decide +kernel
theorem dX10_readingLine_57 : decode cX10_readingLine 57 = .ok (.aload_n 0, 1) := by decide +kernel
theorem dX10_readingLine_58 : decode cX10_readingLine 58 = .ok (.getfield 23, 3) := by decide +kernel
theorem dX10_readingLine_61 : decode cX10_readingLine 61 = .ok (.bipush 9, 2) := by decide +kernel
theorem dX10_readingLine_63 : decode cX10_readingLine 63 = .ok (.dup2, 1) := by decide +kernel
theorem dX10_readingLine_64 : decode cX10_readingLine 64 = .ok (.iaload, 1) := by decide +kernel
theorem dX10_readingLine_65 : decode cX10_readingLine 65 = .ok (.iconst 1, 1) := by decide +kernel
theorem dX10_readingLine_66 : decode cX10_readingLine 66 = .ok (.iadd, 1) := by decide +kernel
theorem dX10_readingLine_67 : decode cX10_readingLine 67 = .ok (.iastore, 1) := by decide +kernel
theorem dX10_readingLine_68 : decode cX10_readingLine 68 = .ok (.return_, 1) := by decide +kernel
theorem dX10_fault_0 : decode cX10_fault 0 = .ok (.aload_n 0, 1) := by decide +kernel
theorem dX10_fault_1 : decode cX10_fault 1 = .ok (.iconst 0, 1) := by decide +kernel
theorem dX10_fault_2 : decode cX10_fault 2 = .ok (.putfield 50, 3) := by decide +kernel
theorem dX10_fault_5 : decode cX10_fault 5 = .ok (.aload_n 0, 1) := by decide +kernel
theorem dX10_fault_6 : decode cX10_fault 6 = .ok (.getfield 92, 3) := by decide +kernel
theorem dX10_fault_9 : decode cX10_fault 9 = .ok (.ireturn, 1) := by decide +kernel
theorem dX10_where_0 : decode cX10_where 0 = .ok (.aload_n 0, 1) := by decide +kernel
theorem dX10_where_1 : decode cX10_where 1 = .ok (.iconst 0, 1) := by decide +kernel
theorem dX10_where_2 : decode cX10_where 2 = .ok (.putfield 50, 3) := by decide +kernel
theorem dX10_where_5 : decode cX10_where 5 = .ok (.aload_n 0, 1) := by decide +kernel
theorem dX10_where_6 : decode cX10_where 6 = .ok (.getfield 53, 3) := by decide +kernel
theorem dX10_where_9 : decode cX10_where 9 = .ok (.iconst 4, 1) := by decide +kernel
theorem dX10_where_10 : decode cX10_where 10 = .ok (.if_icmp .ne 10, 3) := by decide +kernel
theorem dX10_where_13 : decode cX10_where 13 = .ok (.aload_n 0, 1) := by decide +kernel
theorem dX10_where_14 : decode cX10_where 14 = .ok (.getfield 13, 3) := by decide +kernel
theorem dX10_where_17 : decode cX10_where 17 = .ok (.goto 4, 3) := by decide +kernel
theorem dX10_where_20 : decode cX10_where 20 = .ok (.iconst (-1), 1) := by decide +kernel
theorem dX10_where_21 : decode cX10_where 21 = .ok (.ireturn, 1) := by decide +kernel
theorem dX10_isMan_0 : decode cX10_isMan 0 = .ok (.aload_n 0, 1) := by decide +kernel
theorem dX10_isMan_1 : decode cX10_isMan 1 = .ok (.getfield 167, 3) := by decide +kernel
theorem dX10_isMan_4 : decode cX10_isMan 4 = .ok (.ifCond .eq 23, 3) := by decide +kernel
theorem dX10_isMan_7 : decode cX10_isMan 7 = .ok (.iload_n 1, 1) := by decide +kernel
theorem dX10_isMan_8 : decode cX10_isMan 8 = .ok (.iconst 0, 1) := by decide +kernel
theorem dX10_isMan_9 : decode cX10_isMan 9 = .ok (.aload_n 0, 1) := by decide +kernel
theorem dX10_isMan_10 : decode cX10_isMan 10 = .ok (.getfield 20, 3) := by decide +kernel
theorem dX10_isMan_13 : decode cX10_isMan 13 = .ok (.iconst 4, 1) := by decide +kernel
theorem dX10_isMan_14 : decode cX10_isMan 14 = .ok (.iaload, 1) := by decide +kernel
theorem dX10_isMan_15 : decode cX10_isMan 15 = .ok (.iconst 1, 1) := by decide +kernel
theorem dX10_isMan_16 : decode cX10_isMan 16 = .ok (.isub, 1) := by decide +kernel
theorem dX10_isMan_17 : decode cX10_isMan 17 = .ok (.invokestatic 139, 3) := by decide +kernel
theorem dX10_isMan_20 : decode cX10_isMan 20 = .ok (.ifCond .eq 7, 3) := by decide +kernel
theorem dX10_isMan_23 : decode cX10_isMan 23 = .ok (.iconst 1, 1) := by decide +kernel
theorem dX10_isMan_24 : decode cX10_isMan 24 = .ok (.goto 4, 3) := by decide +kernel
theorem dX10_isMan_27 : decode cX10_isMan 27 = .ok (.iconst 0, 1) := by decide +kernel
theorem dX10_isMan_28 : decode cX10_isMan 28 = .ok (.ireturn, 1) := by decide +kernel
theorem dX10_isDoor_0 : decode cX10_isDoor 0 = .ok (.aload_n 0, 1) := by decide +kernel
theorem dX10_isDoor_1 : decode cX10_isDoor 1 = .ok (.getfield 167, 3) := by decide +kernel
theorem dX10_isDoor_4 : decode cX10_isDoor 4 = .ok (.ifCond .eq 24, 3) := by decide +kernel
theorem dX10_isDoor_7 : decode cX10_isDoor 7 = .ok (.iload_n 1, 1) := by decide +kernel
theorem dX10_isDoor_8 : decode cX10_isDoor 8 = .ok (.iconst 0, 1) := by decide +kernel
theorem dX10_isDoor_9 : decode cX10_isDoor 9 = .ok (.aload_n 0, 1) := by decide +kernel
theorem dX10_isDoor_10 : decode cX10_isDoor 10 = .ok (.getfield 20, 3) := by decide +kernel
theorem dX10_isDoor_13 : decode cX10_isDoor 13 = .ok (.bipush 7, 2) := by decide +kernel
theorem dX10_isDoor_15 : decode cX10_isDoor 15 = .ok (.iaload, 1) := by decide +kernel
theorem dX10_isDoor_16 : decode cX10_isDoor 16 = .ok (.iconst 1, 1) := by decide +kernel
theorem dX10_isDoor_17 : decode cX10_isDoor 17 = .ok (.isub, 1) := by decide +kernel
theorem dX10_isDoor_18 : decode cX10_isDoor 18 = .ok (.invokestatic 139, 3) := by decide +kernel
theorem dX10_isDoor_21 : decode cX10_isDoor 21 = .ok (.ifCond .eq 7, 3) := by decide +kernel
theorem dX10_isDoor_24 : decode cX10_isDoor 24 = .ok (.iconst 1, 1) := by decide +kernel
theorem dX10_isDoor_25 : decode cX10_isDoor 25 = .ok (.goto 4, 3) := by decide +kernel
theorem dX10_isDoor_28 : decode cX10_isDoor 28 = .ok (.iconst 0, 1) := by decide +kernel
theorem dX10_isDoor_29 : decode cX10_isDoor 29 = .ok (.ireturn, 1) := by decide +kernel
theorem dX10_kindOf_0 : decode cX10_kindOf 0 = .ok (.aload_n 0, 1) := by decide +kernel
theorem dX10_kindOf_1 : decode cX10_kindOf 1 = .ok (.getfield 20, 3) := by decide +kernel
theorem dX10_kindOf_4 : decode cX10_kindOf 4 = .ok (.bipush 10, 2) := by decide +kernel
theorem dX10_kindOf_6 : decode cX10_kindOf 6 = .ok (.iconst 3, 1) := by decide +kernel
theorem dX10_kindOf_7 : decode cX10_kindOf 7 = .ok (.iload_n 1, 1) := by decide +kernel
theorem dX10_kindOf_8 : decode cX10_kindOf 8 = .ok (.imul, 1) := by decide +kernel
theorem dX10_kindOf_9 : decode cX10_kindOf 9 = .ok (.iadd, 1) := by decide +kernel
theorem dX10_kindOf_10 : decode cX10_kindOf 10 = .ok (.iaload, 1) := by decide +kernel
theorem dX10_kindOf_11 : decode cX10_kindOf 11 = .ok (.ireturn, 1) := by decide +kernel
theorem dX10_isDue_0 : decode cX10_isDue 0 = .ok (.aload_n 0, 1) := by decide +kernel
theorem dX10_isDue_1 : decode cX10_isDue 1 = .ok (.getfield 20, 3) := by decide +kernel
theorem dX10_isDue_4 : decode cX10_isDue 4 = .ok (.bipush 25, 2) := by decide +kernel
theorem dX10_isDue_6 : decode cX10_isDue 6 = .ok (.iconst 4, 1) := by decide +kernel
theorem dX10_isDue_7 : decode cX10_isDue 7 = .ok (.iload_n 2, 1) := by decide +kernel
theorem dX10_isDue_8 : decode cX10_isDue 8 = .ok (.imul, 1) := by decide +kernel
theorem dX10_isDue_9 : decode cX10_isDue 9 = .ok (.iadd, 1) := by decide +kernel
theorem dX10_isDue_10 : decode cX10_isDue 10 = .ok (.iconst 3, 1) := by decide +kernel
theorem dX10_isDue_11 : decode cX10_isDue 11 = .ok (.iadd, 1) := by decide +kernel
theorem dX10_isDue_12 : decode cX10_isDue 12 = .ok (.iaload, 1) := by decide +kernel
theorem dX10_isDue_13 : decode cX10_isDue 13 = .ok (.aload_n 1, 1) := by decide +kernel
theorem dX10_isDue_14 : decode cX10_isDue 14 = .ok (.bipush 12, 2) := by decide +kernel
theorem dX10_isDue_16 : decode cX10_isDue 16 = .ok (.iaload, 1) := by decide +kernel
theorem dX10_isDue_17 : decode cX10_isDue 17 = .ok (.if_icmp .gt 13, 3) := by decide +kernel
theorem dX10_isDue_20 : decode cX10_isDue 20 = .ok (.aload_n 1, 1) := by decide +kernel
theorem dX10_isDue_21 : decode cX10_isDue 21 = .ok (.iload_n 2, 1) := by decide +kernel
theorem dX10_isDue_22 : decode cX10_isDue 22 = .ok (.iaload, 1) := by decide +kernel
theorem dX10_isDue_23 : decode cX10_isDue 23 = .ok (.ifCond .le 7, 3) := by decide +kernel
theorem dX10_isDue_26 : decode cX10_isDue 26 = .ok (.iconst 1, 1) := by decide +kernel
theorem dX10_isDue_27 : decode cX10_isDue 27 = .ok (.goto 4, 3) := by decide +kernel
theorem dX10_isDue_30 : decode cX10_isDue 30 = .ok (.iconst 0, 1) := by decide +kernel
theorem dX10_isDue_31 : decode cX10_isDue 31 = .ok (.ireturn, 1) := by decide +kernel
theorem dX10_isOf_0 : decode cX10_isOf 0 = .ok (.aload_n 0, 1) := by decide +kernel
theorem dX10_isOf_1 : decode cX10_isOf 1 = .ok (.aload_n 1, 1) := by decide +kernel
theorem dX10_isOf_2 : decode cX10_isOf 2 = .ok (.iload_n 2, 1) := by decide +kernel
theorem dX10_isOf_3 : decode cX10_isOf 3 = .ok (.invokevirtual 236, 3) := by decide +kernel
theorem dX10_isOf_6 : decode cX10_isOf 6 = .ok (.ifCond .eq 22, 3) := by decide +kernel
theorem dX10_isOf_9 : decode cX10_isOf 9 = .ok (.aload_n 0, 1) := by decide +kernel
theorem dX10_isOf_10 : decode cX10_isOf 10 = .ok (.getfield 20, 3) := by decide +kernel
theorem dX10_isOf_13 : decode cX10_isOf 13 = .ok (.bipush 25, 2) := by decide +kernel
theorem dX10_isOf_15 : decode cX10_isOf 15 = .ok (.iconst 4, 1) := by decide +kernel
theorem dX10_isOf_16 : decode cX10_isOf 16 = .ok (.iload_n 2, 1) := by decide +kernel
theorem dX10_isOf_17 : decode cX10_isOf 17 = .ok (.imul, 1) := by decide +kernel
theorem dX10_isOf_18 : decode cX10_isOf 18 = .ok (.iadd, 1) := by decide +kernel
theorem dX10_isOf_19 : decode cX10_isOf 19 = .ok (.iaload, 1) := by decide +kernel
theorem dX10_isOf_20 : decode cX10_isOf 20 = .ok (.iload_n 3, 1) := by decide +kernel
theorem dX10_isOf_21 : decode cX10_isOf 21 = .ok (.if_icmp .ne 7, 3) := by decide +kernel
theorem dX10_isOf_24 : decode cX10_isOf 24 = .ok (.iconst 1, 1) := by decide +kernel
theorem dX10_isOf_25 : decode cX10_isOf 25 = .ok (.goto 4, 3) := by decide +kernel
theorem dX10_isOf_28 : decode cX10_isOf 28 = .ok (.iconst 0, 1) := by decide +kernel
theorem dX10_isOf_29 : decode cX10_isOf 29 = .ok (.ireturn, 1) := by decide +kernel
theorem dX10_burdenOf_0 : decode cX10_burdenOf 0 = .ok (.iconst 0, 1) := by decide +kernel
theorem dX10_burdenOf_1 : decode cX10_burdenOf 1 = .ok (.istore_n 3, 1) := by decide +kernel
theorem dX10_burdenOf_2 : decode cX10_burdenOf 2 = .ok (.iconst 0, 1) := by decide +kernel
theorem dX10_burdenOf_3 : decode cX10_burdenOf 3 = .ok (.istore 4, 2) := by decide +kernel
theorem dX10_burdenOf_5 : decode cX10_burdenOf 5 = .ok (.iload 4, 2) := by decide +kernel
theorem dX10_burdenOf_7 : decode cX10_burdenOf 7 = .ok (.aload_n 0, 1) := by decide +kernel
theorem dX10_burdenOf_8 : decode cX10_burdenOf 8 = .ok (.getfield 20, 3) := by decide +kernel
theorem dX10_burdenOf_11 : decode cX10_burdenOf 11 = .ok (.iconst 5, 1) := by decide +kernel
theorem dX10_burdenOf_12 : decode cX10_burdenOf 12 = .ok (.iaload, 1) := by decide +kernel
theorem dX10_burdenOf_13 : decode cX10_burdenOf 13 = .ok (.if_icmp .ge 40, 3) := by decide +kernel
theorem dX10_burdenOf_16 : decode cX10_burdenOf 16 = .ok (.iload_n 3, 1) := by decide +kernel
theorem dX10_burdenOf_17 : decode cX10_burdenOf 17 = .ok (.aload_n 0, 1) := by decide +kernel
theorem dX10_burdenOf_18 : decode cX10_burdenOf 18 = .ok (.aload_n 1, 1) := by decide +kernel
theorem dX10_burdenOf_19 : decode cX10_burdenOf 19 = .ok (.iload 4, 2) := by decide +kernel
theorem dX10_burdenOf_21 : decode cX10_burdenOf 21 = .ok (.iload_n 2, 1) := by decide +kernel
theorem dX10_burdenOf_22 : decode cX10_burdenOf 22 = .ok (.invokevirtual 240, 3) := by decide +kernel
theorem dX10_burdenOf_25 : decode cX10_burdenOf 25 = .ok (.ifCond .eq 19, 3) := by decide +kernel
theorem dX10_burdenOf_28 : decode cX10_burdenOf 28 = .ok (.aload_n 1, 1) := by decide +kernel
theorem dX10_burdenOf_29 : decode cX10_burdenOf 29 = .ok (.iload 4, 2) := by decide +kernel
theorem dX10_burdenOf_31 : decode cX10_burdenOf 31 = .ok (.iaload, 1) := by decide +kernel
theorem dX10_burdenOf_32 : decode cX10_burdenOf 32 = .ok (.aload_n 0, 1) := by decide +kernel
theorem dX10_burdenOf_33 : decode cX10_burdenOf 33 = .ok (.getfield 20, 3) := by decide +kernel
theorem dX10_burdenOf_36 : decode cX10_burdenOf 36 = .ok (.iconst 0, 1) := by decide +kernel
theorem dX10_burdenOf_37 : decode cX10_burdenOf 37 = .ok (.iaload, 1) := by decide +kernel
theorem dX10_burdenOf_38 : decode cX10_burdenOf 38 = .ok (.invokestatic 244, 3) := by decide +kernel
theorem dX10_burdenOf_41 : decode cX10_burdenOf 41 = .ok (.goto 4, 3) := by decide +kernel
theorem dX10_burdenOf_44 : decode cX10_burdenOf 44 = .ok (.iconst 0, 1) := by decide +kernel
theorem dX10_burdenOf_45 : decode cX10_burdenOf 45 = .ok (.iadd, 1) := by decide +kernel
theorem dX10_burdenOf_46 : decode cX10_burdenOf 46 = .ok (.istore_n 3, 1) := by decide +kernel
theorem dX10_burdenOf_47 : decode cX10_burdenOf 47 = .ok (.iinc 4 1, 3) := by decide +kernel
theorem dX10_burdenOf_50 : decode cX10_burdenOf 50 = .ok (.goto (-45), 3) := by decide +kernel
theorem dX10_burdenOf_53 : decode cX10_burdenOf 53 = .ok (.iconst 0, 1) := by decide +kernel
theorem dX10_burdenOf_54 : decode cX10_burdenOf 54 = .ok (.istore 4, 2) := by decide +kernel
theorem dX10_burdenOf_56 : decode cX10_burdenOf 56 = .ok (.iload 4, 2) := by decide +kernel
theorem dX10_burdenOf_58 : decode cX10_burdenOf 58 = .ok (.aload_n 0, 1) := by decide +kernel
theorem dX10_burdenOf_59 : decode cX10_burdenOf 59 = .ok (.getfield 20, 3) := by decide +kernel
theorem dX10_burdenOf_62 : decode cX10_burdenOf 62 = .ok (.bipush 6, 2) := by decide +kernel
theorem dX10_burdenOf_64 : decode cX10_burdenOf 64 = .ok (.iaload, 1) := by decide +kernel
theorem dX10_burdenOf_65 : decode cX10_burdenOf 65 = .ok (.if_icmp .ge 82, 3) := by decide +kernel
theorem dX10_burdenOf_68 : decode cX10_burdenOf 68 = .ok (.bipush 53, 2) := by decide +kernel
theorem dX10_burdenOf_70 : decode cX10_burdenOf 70 = .ok (.iconst 4, 1) := by decide +kernel
theorem dX10_burdenOf_71 : decode cX10_burdenOf 71 = .ok (.iload 4, 2) := by decide +kernel
theorem dX10_burdenOf_73 : decode cX10_burdenOf 73 = .ok (.imul, 1) := by decide +kernel
theorem dX10_burdenOf_74 : decode cX10_burdenOf 74 = .ok (.iadd, 1) := by decide +kernel
theorem dX10_burdenOf_75 : decode cX10_burdenOf 75 = .ok (.istore 5, 2) := by decide +kernel
theorem dX10_burdenOf_77 : decode cX10_burdenOf 77 = .ok (.iload_n 3, 1) := by decide +kernel
theorem dX10_burdenOf_78 : decode cX10_burdenOf 78 = .ok (.aload_n 0, 1) := by decide +kernel
theorem dX10_burdenOf_79 : decode cX10_burdenOf 79 = .ok (.getfield 247, 3) := by decide +kernel
theorem dX10_burdenOf_82 : decode cX10_burdenOf 82 = .ok (.iload 4, 2) := by decide +kernel
theorem dX10_burdenOf_84 : decode cX10_burdenOf 84 = .ok (.invokestatic 250, 3) := by decide +kernel
theorem dX10_burdenOf_87 : decode cX10_burdenOf 87 = .ok (.ifCond .eq 51, 3) := by decide +kernel
theorem dX10_burdenOf_90 : decode cX10_burdenOf 90 = .ok (.aload_n 0, 1) := by decide +kernel
theorem dX10_burdenOf_91 : decode cX10_burdenOf 91 = .ok (.getfield 20, 3) := by decide +kernel
theorem dX10_burdenOf_94 : decode cX10_burdenOf 94 = .ok (.iload 5, 2) := by decide +kernel
theorem dX10_burdenOf_96 : decode cX10_burdenOf 96 = .ok (.iaload, 1) := by decide +kernel
theorem dX10_burdenOf_97 : decode cX10_burdenOf 97 = .ok (.iload_n 2, 1) := by decide +kernel
theorem dX10_burdenOf_98 : decode cX10_burdenOf 98 = .ok (.if_icmp .ne 40, 3) := by decide +kernel
theorem dX10_burdenOf_101 : decode cX10_burdenOf 101 = .ok (.aload_n 0, 1) := by decide +kernel
theorem dX10_burdenOf_102 : decode cX10_burdenOf 102 = .ok (.getfield 20, 3) := by decide +kernel
theorem dX10_burdenOf_105 : decode cX10_burdenOf 105 = .ok (.iload 5, 2) := by decide +kernel
theorem dX10_burdenOf_107 : decode cX10_burdenOf 107 = .ok (.iconst 3, 1) := by decide +kernel
theorem dX10_burdenOf_108 : decode cX10_burdenOf 108 = .ok (.iadd, 1) := by decide +kernel
theorem dX10_burdenOf_109 : decode cX10_burdenOf 109 = .ok (.iaload, 1) := by decide +kernel
theorem dX10_burdenOf_110 : decode cX10_burdenOf 110 = .ok (.aload_n 1, 1) := by decide +kernel
theorem dX10_burdenOf_111 : decode cX10_burdenOf 111 = .ok (.bipush 12, 2) := by decide +kernel
theorem dX10_burdenOf_113 : decode cX10_burdenOf 113 = .ok (.iaload, 1) := by decide +kernel
theorem dX10_burdenOf_114 : decode cX10_burdenOf 114 = .ok (.if_icmp .gt 24, 3) := by decide +kernel
theorem dX10_burdenOf_117 : decode cX10_burdenOf 117 = .ok (.aload_n 0, 1) := by decide +kernel
theorem dX10_burdenOf_118 : decode cX10_burdenOf 118 = .ok (.getfield 20, 3) := by decide +kernel
theorem dX10_burdenOf_121 : decode cX10_burdenOf 121 = .ok (.iload 5, 2) := by decide +kernel
theorem dX10_burdenOf_123 : decode cX10_burdenOf 123 = .ok (.iconst 2, 1) := by decide +kernel
theorem dX10_burdenOf_124 : decode cX10_burdenOf 124 = .ok (.iadd, 1) := by decide +kernel
theorem dX10_burdenOf_125 : decode cX10_burdenOf 125 = .ok (.iaload, 1) := by decide +kernel
theorem dX10_burdenOf_126 : decode cX10_burdenOf 126 = .ok (.aload_n 0, 1) := by decide +kernel
theorem dX10_burdenOf_127 : decode cX10_burdenOf 127 = .ok (.getfield 20, 3) := by decide +kernel
theorem dX10_burdenOf_130 : decode cX10_burdenOf 130 = .ok (.iconst 0, 1) := by decide +kernel
theorem dX10_burdenOf_131 : decode cX10_burdenOf 131 = .ok (.iaload, 1) := by decide +kernel
theorem dX10_burdenOf_132 : decode cX10_burdenOf 132 = .ok (.invokestatic 244, 3) := by decide +kernel
theorem dX10_burdenOf_135 : decode cX10_burdenOf 135 = .ok (.goto 4, 3) := by decide +kernel
theorem dX10_burdenOf_138 : decode cX10_burdenOf 138 = .ok (.iconst 0, 1) := by decide +kernel
theorem dX10_burdenOf_139 : decode cX10_burdenOf 139 = .ok (.iadd, 1) := by decide +kernel
theorem dX10_burdenOf_140 : decode cX10_burdenOf 140 = .ok (.istore_n 3, 1) := by decide +kernel
theorem dX10_burdenOf_141 : decode cX10_burdenOf 141 = .ok (.iinc 4 1, 3) := by decide +kernel
theorem dX10_burdenOf_144 : decode cX10_burdenOf 144 = .ok (.goto (-88), 3) := by decide +kernel
theorem dX10_burdenOf_147 : decode cX10_burdenOf 147 = .ok (.iload_n 3, 1) := by decide +kernel
theorem dX10_burdenOf_148 : decode cX10_burdenOf 148 = .ok (.ireturn, 1) := by decide +kernel
theorem dX10_headOf_0 : decode cX10_headOf 0 = .ok (.aload_n 0, 1) := by decide +kernel
theorem dX10_headOf_1 : decode cX10_headOf 1 = .ok (.aload_n 1, 1) := by decide +kernel
theorem dX10_headOf_2 : decode cX10_headOf 2 = .ok (.iload_n 2, 1) := by decide +kernel
theorem dX10_headOf_3 : decode cX10_headOf 3 = .ok (.invokevirtual 254, 3) := by decide +kernel
theorem dX10_headOf_6 : decode cX10_headOf 6 = .ok (.istore_n 3, 1) := by decide +kernel
theorem dX10_headOf_7 : decode cX10_headOf 7 = .ok (.aload_n 0, 1) := by decide +kernel
theorem dX10_headOf_8 : decode cX10_headOf 8 = .ok (.iload_n 2, 1) := by decide +kernel
theorem dX10_headOf_9 : decode cX10_headOf 9 = .ok (.invokevirtual 258, 3) := by decide +kernel
theorem dX10_headOf_12 : decode cX10_headOf 12 = .ok (.iconst 1, 1) := by decide +kernel
theorem dX10_headOf_13 : decode cX10_headOf 13 = .ok (.if_icmp .ne 7, 3) := by decide +kernel
theorem dX10_headOf_16 : decode cX10_headOf 16 = .ok (.iconst 0, 1) := by decide +kernel
theorem dX10_headOf_17 : decode cX10_headOf 17 = .ok (.goto 36, 3) := by decide +kernel
theorem dX10_headOf_20 : decode cX10_headOf 20 = .ok (.aload_n 0, 1) := by decide +kernel
theorem dX10_headOf_21 : decode cX10_headOf 21 = .ok (.iload_n 2, 1) := by decide +kernel
theorem dX10_headOf_22 : decode cX10_headOf 22 = .ok (.invokevirtual 258, 3) := by decide +kernel
theorem dX10_headOf_25 : decode cX10_headOf 25 = .ok (.iconst 2, 1) := by decide +kernel
theorem dX10_headOf_26 : decode cX10_headOf 26 = .ok (.if_icmp .ne 9, 3) := by decide +kernel
theorem dX10_headOf_29 : decode cX10_headOf 29 = .ok (.iconst 2, 1) := by decide +kernel
theorem dX10_headOf_30 : decode cX10_headOf 30 = .ok (.iload_n 3, 1) := by decide +kernel
theorem dX10_headOf_31 : decode cX10_headOf 31 = .ok (.imul, 1) := by decide +kernel
theorem dX10_headOf_32 : decode cX10_headOf 32 = .ok (.goto 21, 3) := by decide +kernel
theorem dX10_headOf_35 : decode cX10_headOf 35 = .ok (.aload_n 0, 1) := by decide +kernel
theorem dX10_headOf_36 : decode cX10_headOf 36 = .ok (.iload_n 2, 1) := by decide +kernel
theorem dX10_headOf_37 : decode cX10_headOf 37 = .ok (.invokevirtual 258, 3) := by decide +kernel
theorem dX10_headOf_40 : decode cX10_headOf 40 = .ok (.iconst 3, 1) := by decide +kernel
theorem dX10_headOf_41 : decode cX10_headOf 41 = .ok (.if_icmp .ne 11, 3) := by decide +kernel
theorem dX10_headOf_44 : decode cX10_headOf 44 = .ok (.iload_n 3, 1) := by decide +kernel
theorem dX10_headOf_45 : decode cX10_headOf 45 = .ok (.iconst 1, 1) := by decide +kernel
theorem dX10_headOf_46 : decode cX10_headOf 46 = .ok (.iadd, 1) := by decide +kernel
theorem dX10_headOf_47 : decode cX10_headOf 47 = .ok (.iconst 2, 1) := by decide +kernel
theorem dX10_headOf_48 : decode cX10_headOf 48 = .ok (.idiv, 1) := by decide +kernel
theorem dX10_headOf_49 : decode cX10_headOf 49 = .ok (.goto 4, 3) := by decide +kernel
theorem dX10_headOf_52 : decode cX10_headOf 52 = .ok (.iload_n 3, 1) := by decide +kernel
theorem dX10_headOf_53 : decode cX10_headOf 53 = .ok (.ireturn, 1) := by decide +kernel
theorem dX10_headsOf_0 : decode cX10_headsOf 0 = .ok (.iconst 0, 1) := by decide +kernel
theorem dX10_headsOf_1 : decode cX10_headsOf 1 = .ok (.istore_n 2, 1) := by decide +kernel
theorem dX10_headsOf_2 : decode cX10_headsOf 2 = .ok (.iconst 0, 1) := by decide +kernel
theorem dX10_headsOf_3 : decode cX10_headsOf 3 = .ok (.istore_n 3, 1) := by decide +kernel
theorem dX10_headsOf_4 : decode cX10_headsOf 4 = .ok (.iload_n 3, 1) := by decide +kernel
theorem dX10_headsOf_5 : decode cX10_headsOf 5 = .ok (.aload_n 0, 1) := by decide +kernel
theorem dX10_headsOf_6 : decode cX10_headsOf 6 = .ok (.getfield 20, 3) := by decide +kernel
theorem dX10_headsOf_9 : decode cX10_headsOf 9 = .ok (.iconst 4, 1) := by decide +kernel
theorem dX10_headsOf_10 : decode cX10_headsOf 10 = .ok (.iaload, 1) := by decide +kernel
theorem dX10_headsOf_11 : decode cX10_headsOf 11 = .ok (.if_icmp .ge 18, 3) := by decide +kernel
theorem dX10_headsOf_14 : decode cX10_headsOf 14 = .ok (.iload_n 2, 1) := by decide +kernel
theorem dX10_headsOf_15 : decode cX10_headsOf 15 = .ok (.aload_n 0, 1) := by decide +kernel
theorem dX10_headsOf_16 : decode cX10_headsOf 16 = .ok (.aload_n 1, 1) := by decide +kernel
theorem dX10_headsOf_17 : decode cX10_headsOf 17 = .ok (.iload_n 3, 1) := by decide +kernel
theorem dX10_headsOf_18 : decode cX10_headsOf 18 = .ok (.invokevirtual 261, 3) := by decide +kernel
theorem dX10_headsOf_21 : decode cX10_headsOf 21 = .ok (.iadd, 1) := by decide +kernel
theorem dX10_headsOf_22 : decode cX10_headsOf 22 = .ok (.istore_n 2, 1) := by decide +kernel
theorem dX10_headsOf_23 : decode cX10_headsOf 23 = .ok (.iinc 3 1, 3) := by decide +kernel
theorem dX10_headsOf_26 : decode cX10_headsOf 26 = .ok (.goto (-22), 3) := by decide +kernel
theorem dX10_headsOf_29 : decode cX10_headsOf 29 = .ok (.iload_n 2, 1) := by decide +kernel
theorem dX10_headsOf_30 : decode cX10_headsOf 30 = .ok (.ireturn, 1) := by decide +kernel
theorem dX10_doesPass_0 : decode cX10_doesPass 0 = .ok (.aload_n 0, 1) := by decide +kernel
theorem dX10_doesPass_1 : decode cX10_doesPass 1 = .ok (.aload_n 1, 1) := by decide +kernel
theorem dX10_doesPass_2 : decode cX10_doesPass 2 = .ok (.iload_n 2, 1) := by decide +kernel
theorem dX10_doesPass_3 : decode cX10_doesPass 3 = .ok (.invokevirtual 261, 3) := by decide +kernel
theorem dX10_doesPass_6 : decode cX10_doesPass 6 = .ok (.aload_n 0, 1) := by decide +kernel
theorem dX10_doesPass_7 : decode cX10_doesPass 7 = .ok (.getfield 20, 3) := by decide +kernel
theorem dX10_doesPass_10 : decode cX10_doesPass 10 = .ok (.bipush 69, 2) := by decide +kernel
theorem dX10_doesPass_12 : decode cX10_doesPass 12 = .ok (.iload_n 3, 1) := by decide +kernel
theorem dX10_doesPass_13 : decode cX10_doesPass 13 = .ok (.iadd, 1) := by decide +kernel
theorem dX10_doesPass_14 : decode cX10_doesPass 14 = .ok (.iaload, 1) := by decide +kernel
theorem dX10_doesPass_15 : decode cX10_doesPass 15 = .ok (.if_icmp .gt 7, 3) := by decide +kernel
theorem dX10_doesPass_18 : decode cX10_doesPass 18 = .ok (.iconst 1, 1) := by decide +kernel
theorem dX10_doesPass_19 : decode cX10_doesPass 19 = .ok (.goto 4, 3) := by decide +kernel
theorem dX10_doesPass_22 : decode cX10_doesPass 22 = .ok (.iconst 0, 1) := by decide +kernel
theorem dX10_doesPass_23 : decode cX10_doesPass 23 = .ok (.ireturn, 1) := by decide +kernel
theorem dX10_leftFrom_0 : decode cX10_leftFrom 0 = .ok (.iconst 0, 1) := by decide +kernel
theorem dX10_leftFrom_1 : decode cX10_leftFrom 1 = .ok (.istore_n 3, 1) := by decide +kernel
theorem dX10_leftFrom_2 : decode cX10_leftFrom 2 = .ok (.iconst 0, 1) := by decide +kernel
theorem dX10_leftFrom_3 : decode cX10_leftFrom 3 = .ok (.istore 4, 2) := by decide +kernel
theorem dX10_leftFrom_5 : decode cX10_leftFrom 5 = .ok (.iload 4, 2) := by decide +kernel
theorem dX10_leftFrom_7 : decode cX10_leftFrom 7 = .ok (.aload_n 0, 1) := by decide +kernel
theorem dX10_leftFrom_8 : decode cX10_leftFrom 8 = .ok (.getfield 20, 3) := by decide +kernel
theorem dX10_leftFrom_11 : decode cX10_leftFrom 11 = .ok (.iconst 5, 1) := by decide +kernel
theorem dX10_leftFrom_12 : decode cX10_leftFrom 12 = .ok (.iaload, 1) := by decide +kernel
theorem dX10_leftFrom_13 : decode cX10_leftFrom 13 = .ok (.if_icmp .ge 59, 3) := by decide +kernel
theorem dX10_leftFrom_16 : decode cX10_leftFrom 16 = .ok (.iload_n 3, 1) := by decide +kernel
theorem dX10_leftFrom_17 : decode cX10_leftFrom 17 = .ok (.aload_n 0, 1) := by decide +kernel
theorem dX10_leftFrom_18 : decode cX10_leftFrom 18 = .ok (.aload_n 0, 1) := by decide +kernel
theorem dX10_leftFrom_19 : decode cX10_leftFrom 19 = .ok (.getfield 26, 3) := by decide +kernel
theorem dX10_leftFrom_22 : decode cX10_leftFrom 22 = .ok (.iload 4, 2) := by decide +kernel
theorem dX10_leftFrom_24 : decode cX10_leftFrom 24 = .ok (.iload_n 1, 1) := by decide +kernel
theorem dX10_leftFrom_25 : decode cX10_leftFrom 25 = .ok (.invokevirtual 240, 3) := by decide +kernel
theorem dX10_leftFrom_28 : decode cX10_leftFrom 28 = .ok (.ifCond .eq 35, 3) := by decide +kernel
theorem dX10_leftFrom_31 : decode cX10_leftFrom 31 = .ok (.iload_n 2, 1) := by decide +kernel
theorem dX10_leftFrom_32 : decode cX10_leftFrom 32 = .ok (.ifCond .lt 21, 3) := by decide +kernel
theorem dX10_leftFrom_35 : decode cX10_leftFrom 35 = .ok (.aload_n 0, 1) := by decide +kernel
theorem dX10_leftFrom_36 : decode cX10_leftFrom 36 = .ok (.getfield 20, 3) := by decide +kernel
theorem dX10_leftFrom_39 : decode cX10_leftFrom 39 = .ok (.bipush 25, 2) := by decide +kernel
theorem dX10_leftFrom_41 : decode cX10_leftFrom 41 = .ok (.iconst 4, 1) := by decide +kernel
theorem dX10_leftFrom_42 : decode cX10_leftFrom 42 = .ok (.iload 4, 2) := by decide +kernel
theorem dX10_leftFrom_44 : decode cX10_leftFrom 44 = .ok (.imul, 1) := by decide +kernel
theorem dX10_leftFrom_45 : decode cX10_leftFrom 45 = .ok (.iadd, 1) := by decide +kernel
theorem dX10_leftFrom_46 : decode cX10_leftFrom 46 = .ok (.iconst 1, 1) := by decide +kernel
theorem dX10_leftFrom_47 : decode cX10_leftFrom 47 = .ok (.iadd, 1) := by decide +kernel
theorem dX10_leftFrom_48 : decode cX10_leftFrom 48 = .ok (.iaload, 1) := by decide +kernel
theorem dX10_leftFrom_49 : decode cX10_leftFrom 49 = .ok (.iload_n 2, 1) := by decide +kernel
theorem dX10_leftFrom_50 : decode cX10_leftFrom 50 = .ok (.if_icmp .ne 13, 3) := by decide +kernel
theorem dX10_leftFrom_53 : decode cX10_leftFrom 53 = .ok (.aload_n 0, 1) := by decide +kernel
theorem dX10_leftFrom_54 : decode cX10_leftFrom 54 = .ok (.getfield 26, 3) := by decide +kernel
theorem dX10_leftFrom_57 : decode cX10_leftFrom 57 = .ok (.iload 4, 2) := by decide +kernel
theorem dX10_leftFrom_59 : decode cX10_leftFrom 59 = .ok (.iaload, 1) := by decide +kernel
theorem dX10_leftFrom_60 : decode cX10_leftFrom 60 = .ok (.goto 4, 3) := by decide +kernel
theorem dX10_leftFrom_63 : decode cX10_leftFrom 63 = .ok (.iconst 0, 1) := by decide +kernel
theorem dX10_leftFrom_64 : decode cX10_leftFrom 64 = .ok (.iadd, 1) := by decide +kernel
theorem dX10_leftFrom_65 : decode cX10_leftFrom 65 = .ok (.istore_n 3, 1) := by decide +kernel
theorem dX10_leftFrom_66 : decode cX10_leftFrom 66 = .ok (.iinc 4 1, 3) := by decide +kernel
theorem dX10_leftFrom_69 : decode cX10_leftFrom 69 = .ok (.goto (-64), 3) := by decide +kernel
theorem dX10_leftFrom_72 : decode cX10_leftFrom 72 = .ok (.iload_n 3, 1) := by decide +kernel
theorem dX10_leftFrom_73 : decode cX10_leftFrom 73 = .ok (.ireturn, 1) := by decide +kernel
theorem dX10_man_0 : decode cX10_man 0 = .ok (.aload_n 0, 1) := by decide +kernel
theorem dX10_man_1 : decode cX10_man 1 = .ok (.invokevirtual 154, 3) := by decide +kernel
theorem dX10_man_4 : decode cX10_man 4 = .ok (.aload_n 0, 1) := by decide +kernel
theorem dX10_man_5 : decode cX10_man 5 = .ok (.iconst 0, 1) := by decide +kernel
theorem dX10_man_6 : decode cX10_man 6 = .ok (.putfield 247, 3) := by decide +kernel
theorem dX10_man_9 : decode cX10_man 9 = .ok (.aload_n 0, 1) := by decide +kernel
theorem dX10_man_10 : decode cX10_man 10 = .ok (.iload_n 1, 1) := by decide +kernel
theorem dX10_man_11 : decode cX10_man 11 = .ok (.invokevirtual 264, 3) := by decide +kernel
theorem dX10_man_14 : decode cX10_man 14 = .ok (.ifCond .eq 13, 3) := by decide +kernel
theorem dX10_man_17 : decode cX10_man 17 = .ok (.iload_n 2, 1) := by decide +kernel
theorem dX10_man_18 : decode cX10_man 18 = .ok (.iconst 0, 1) := by decide +kernel
theorem dX10_man_19 : decode cX10_man 19 = .ok (.bipush 7, 2) := by decide +kernel
theorem dX10_man_21 : decode cX10_man 21 = .ok (.invokestatic 139, 3) := by decide +kernel
theorem dX10_man_24 : decode cX10_man 24 = .ok (.ifCond .ne 9, 3) := by decide +kernel
theorem dX10_man_27 : decode cX10_man 27 = .ok (.aload_n 0, 1) := by decide +kernel
theorem dX10_man_28 : decode cX10_man 28 = .ok (.iconst 1, 1) := by decide +kernel
theorem dX10_man_29 : decode cX10_man 29 = .ok (.invokevirtual 157, 3) := by decide +kernel
theorem dX10_man_32 : decode cX10_man 32 = .ok (.ireturn, 1) := by decide +kernel
theorem dX10_man_33 : decode cX10_man 33 = .ok (.iload_n 2, 1) := by decide +kernel
theorem dX10_man_34 : decode cX10_man 34 = .ok (.tableswitch 105 0 6 #[42, 48, 58, 72, 82, 92, 99], 42) := by decide +kernel
theorem dX10_man_76 : decode cX10_man 76 = .ok (.aload_n 0, 1) := by decide +kernel
theorem dX10_man_77 : decode cX10_man 77 = .ok (.iload_n 1, 1) := by decide +kernel
theorem dX10_man_78 : decode cX10_man 78 = .ok (.invokevirtual 258, 3) := by decide +kernel
theorem dX10_man_81 : decode cX10_man 81 = .ok (.ireturn, 1) := by decide +kernel
theorem dX10_man_82 : decode cX10_man 82 = .ok (.aload_n 0, 1) := by decide +kernel
theorem dX10_man_83 : decode cX10_man 83 = .ok (.getfield 26, 3) := by decide +kernel
theorem dX10_man_86 : decode cX10_man 86 = .ok (.bipush 7, 2) := by decide +kernel
theorem dX10_man_88 : decode cX10_man 88 = .ok (.iload_n 1, 1) := by decide +kernel
theorem dX10_man_89 : decode cX10_man 89 = .ok (.iadd, 1) := by decide +kernel
theorem dX10_man_90 : decode cX10_man 90 = .ok (.iaload, 1) := by decide +kernel
theorem dX10_man_91 : decode cX10_man 91 = .ok (.ireturn, 1) := by decide +kernel
theorem dX10_man_92 : decode cX10_man 92 = .ok (.aload_n 0, 1) := by decide +kernel
theorem dX10_man_93 : decode cX10_man 93 = .ok (.getfield 20, 3) := by decide +kernel
theorem dX10_man_96 : decode cX10_man 96 = .ok (.bipush 10, 2) := by decide +kernel
theorem dX10_man_98 : decode cX10_man 98 = .ok (.iconst 3, 1) := by decide +kernel
theorem dX10_man_99 : decode cX10_man 99 = .ok (.iload_n 1, 1) := by decide +kernel
theorem dX10_man_100 : decode cX10_man 100 = .ok (.imul, 1) := by decide +kernel
theorem dX10_man_101 : decode cX10_man 101 = .ok (.iadd, 1) := by decide +kernel
theorem dX10_man_102 : decode cX10_man 102 = .ok (.iconst 2, 1) := by decide +kernel
theorem dX10_man_103 : decode cX10_man 103 = .ok (.iadd, 1) := by decide +kernel
theorem dX10_man_104 : decode cX10_man 104 = .ok (.iaload, 1) := by decide +kernel
theorem dX10_man_105 : decode cX10_man 105 = .ok (.ireturn, 1) := by decide +kernel
theorem dX10_man_106 : decode cX10_man 106 = .ok (.aload_n 0, 1) := by decide +kernel
theorem dX10_man_107 : decode cX10_man 107 = .ok (.aload_n 0, 1) := by decide +kernel
theorem dX10_man_108 : decode cX10_man 108 = .ok (.getfield 26, 3) := by decide +kernel
theorem dX10_man_111 : decode cX10_man 111 = .ok (.iload_n 1, 1) := by decide +kernel
theorem dX10_man_112 : decode cX10_man 112 = .ok (.invokevirtual 261, 3) := by decide +kernel
theorem dX10_man_115 : decode cX10_man 115 = .ok (.ireturn, 1) := by decide +kernel
theorem dX10_man_116 : decode cX10_man 116 = .ok (.aload_n 0, 1) := by decide +kernel
theorem dX10_man_117 : decode cX10_man 117 = .ok (.aload_n 0, 1) := by decide +kernel
theorem dX10_man_118 : decode cX10_man 118 = .ok (.getfield 26, 3) := by decide +kernel
theorem dX10_man_121 : decode cX10_man 121 = .ok (.iload_n 1, 1) := by decide +kernel
theorem dX10_man_122 : decode cX10_man 122 = .ok (.invokevirtual 254, 3) := by decide +kernel
theorem dX10_man_125 : decode cX10_man 125 = .ok (.ireturn, 1) := by decide +kernel
theorem dX10_man_126 : decode cX10_man 126 = .ok (.aload_n 0, 1) := by decide +kernel
theorem dX10_man_127 : decode cX10_man 127 = .ok (.iload_n 1, 1) := by decide +kernel
theorem dX10_man_128 : decode cX10_man 128 = .ok (.iconst (-1), 1) := by decide +kernel
theorem dX10_man_129 : decode cX10_man 129 = .ok (.invokevirtual 267, 3) := by decide +kernel
theorem dX10_man_132 : decode cX10_man 132 = .ok (.ireturn, 1) := by decide +kernel
theorem dX10_man_133 : decode cX10_man 133 = .ok (.aload_n 0, 1) := by decide +kernel
theorem dX10_man_134 : decode cX10_man 134 = .ok (.iload_n 1, 1) := by decide +kernel
theorem dX10_man_135 : decode cX10_man 135 = .ok (.invokevirtual 270, 3) := by decide +kernel
theorem dX10_man_138 : decode cX10_man 138 = .ok (.ireturn, 1) := by decide +kernel
theorem dX10_man_139 : decode cX10_man 139 = .ok (.aload_n 0, 1) := by decide +kernel
theorem dX10_man_140 : decode cX10_man 140 = .ok (.iload_n 1, 1) := by decide +kernel
theorem dX10_man_141 : decode cX10_man 141 = .ok (.invokevirtual 273, 3) := by decide +kernel
theorem dX10_man_144 : decode cX10_man 144 = .ok (.ireturn, 1) := by decide +kernel
theorem dX10_owedTo_0 : decode cX10_owedTo 0 = .ok (.iconst 0, 1) := by decide +kernel
theorem dX10_owedTo_1 : decode cX10_owedTo 1 = .ok (.istore_n 2, 1) := by decide +kernel
theorem dX10_owedTo_2 : decode cX10_owedTo 2 = .ok (.iconst 0, 1) := by decide +kernel
theorem dX10_owedTo_3 : decode cX10_owedTo 3 = .ok (.istore_n 3, 1) := by decide +kernel
theorem dX10_owedTo_4 : decode cX10_owedTo 4 = .ok (.iload_n 3, 1) := by decide +kernel
theorem dX10_owedTo_5 : decode cX10_owedTo 5 = .ok (.aload_n 0, 1) := by decide +kernel
theorem dX10_owedTo_6 : decode cX10_owedTo 6 = .ok (.getfield 20, 3) := by decide +kernel
theorem dX10_owedTo_9 : decode cX10_owedTo 9 = .ok (.iconst 5, 1) := by decide +kernel
theorem dX10_owedTo_10 : decode cX10_owedTo 10 = .ok (.iaload, 1) := by decide +kernel
theorem dX10_owedTo_11 : decode cX10_owedTo 11 = .ok (.if_icmp .ge 51, 3) := by decide +kernel
theorem dX10_owedTo_14 : decode cX10_owedTo 14 = .ok (.iload_n 2, 1) := by decide +kernel
theorem dX10_owedTo_15 : decode cX10_owedTo 15 = .ok (.aload_n 0, 1) := by decide +kernel
theorem dX10_owedTo_16 : decode cX10_owedTo 16 = .ok (.aload_n 0, 1) := by decide +kernel
theorem dX10_owedTo_17 : decode cX10_owedTo 17 = .ok (.getfield 26, 3) := by decide +kernel
theorem dX10_owedTo_20 : decode cX10_owedTo 20 = .ok (.iload_n 3, 1) := by decide +kernel
theorem dX10_owedTo_21 : decode cX10_owedTo 21 = .ok (.invokevirtual 236, 3) := by decide +kernel
theorem dX10_owedTo_24 : decode cX10_owedTo 24 = .ok (.ifCond .eq 29, 3) := by decide +kernel
theorem dX10_owedTo_27 : decode cX10_owedTo 27 = .ok (.aload_n 0, 1) := by decide +kernel
theorem dX10_owedTo_28 : decode cX10_owedTo 28 = .ok (.getfield 20, 3) := by decide +kernel
theorem dX10_owedTo_31 : decode cX10_owedTo 31 = .ok (.bipush 25, 2) := by decide +kernel
theorem dX10_owedTo_33 : decode cX10_owedTo 33 = .ok (.iconst 4, 1) := by decide +kernel
theorem dX10_owedTo_34 : decode cX10_owedTo 34 = .ok (.iload_n 3, 1) := by decide +kernel
theorem dX10_owedTo_35 : decode cX10_owedTo 35 = .ok (.imul, 1) := by decide +kernel
theorem dX10_owedTo_36 : decode cX10_owedTo 36 = .ok (.iadd, 1) := by decide +kernel
theorem dX10_owedTo_37 : decode cX10_owedTo 37 = .ok (.iconst 1, 1) := by decide +kernel
theorem dX10_owedTo_38 : decode cX10_owedTo 38 = .ok (.iadd, 1) := by decide +kernel
theorem dX10_owedTo_39 : decode cX10_owedTo 39 = .ok (.iaload, 1) := by decide +kernel
theorem dX10_owedTo_40 : decode cX10_owedTo 40 = .ok (.iload_n 1, 1) := by decide +kernel
theorem dX10_owedTo_41 : decode cX10_owedTo 41 = .ok (.if_icmp .ne 12, 3) := by decide +kernel
theorem dX10_owedTo_44 : decode cX10_owedTo 44 = .ok (.aload_n 0, 1) := by decide +kernel
theorem dX10_owedTo_45 : decode cX10_owedTo 45 = .ok (.getfield 26, 3) := by decide +kernel
theorem dX10_owedTo_48 : decode cX10_owedTo 48 = .ok (.iload_n 3, 1) := by decide +kernel
theorem dX10_owedTo_49 : decode cX10_owedTo 49 = .ok (.iaload, 1) := by decide +kernel
theorem dX10_owedTo_50 : decode cX10_owedTo 50 = .ok (.goto 4, 3) := by decide +kernel
theorem dX10_owedTo_53 : decode cX10_owedTo 53 = .ok (.iconst 0, 1) := by decide +kernel
theorem dX10_owedTo_54 : decode cX10_owedTo 54 = .ok (.iadd, 1) := by decide +kernel
theorem dX10_owedTo_55 : decode cX10_owedTo 55 = .ok (.istore_n 2, 1) := by decide +kernel
theorem dX10_owedTo_56 : decode cX10_owedTo 56 = .ok (.iinc 3 1, 3) := by decide +kernel
theorem dX10_owedTo_59 : decode cX10_owedTo 59 = .ok (.goto (-55), 3) := by decide +kernel
theorem dX10_owedTo_62 : decode cX10_owedTo 62 = .ok (.iload_n 2, 1) := by decide +kernel
theorem dX10_owedTo_63 : decode cX10_owedTo 63 = .ok (.ireturn, 1) := by decide +kernel
theorem dX10_creditors_0 : decode cX10_creditors 0 = .ok (.iconst 0, 1) := by decide +kernel
theorem dX10_creditors_1 : decode cX10_creditors 1 = .ok (.istore_n 2, 1) := by decide +kernel
theorem dX10_creditors_2 : decode cX10_creditors 2 = .ok (.iconst 0, 1) := by decide +kernel
theorem dX10_creditors_3 : decode cX10_creditors 3 = .ok (.istore_n 3, 1) := by decide +kernel
theorem dX10_creditors_4 : decode cX10_creditors 4 = .ok (.iload_n 3, 1) := by decide +kernel
theorem dX10_creditors_5 : decode cX10_creditors 5 = .ok (.aload_n 0, 1) := by decide +kernel
theorem dX10_creditors_6 : decode cX10_creditors 6 = .ok (.getfield 20, 3) := by decide +kernel
theorem dX10_creditors_9 : decode cX10_creditors 9 = .ok (.iconst 5, 1) := by decide +kernel
theorem dX10_creditors_10 : decode cX10_creditors 10 = .ok (.iaload, 1) := by decide +kernel
theorem dX10_creditors_11 : decode cX10_creditors 11 = .ok (.if_icmp .ge 44, 3) := by decide +kernel
theorem dX10_creditors_14 : decode cX10_creditors 14 = .ok (.iload_n 2, 1) := by decide +kernel
theorem dX10_creditors_15 : decode cX10_creditors 15 = .ok (.aload_n 0, 1) := by decide +kernel
theorem dX10_creditors_16 : decode cX10_creditors 16 = .ok (.aload_n 0, 1) := by decide +kernel
theorem dX10_creditors_17 : decode cX10_creditors 17 = .ok (.getfield 26, 3) := by decide +kernel
theorem dX10_creditors_20 : decode cX10_creditors 20 = .ok (.iload_n 3, 1) := by decide +kernel
theorem dX10_creditors_21 : decode cX10_creditors 21 = .ok (.iload_n 1, 1) := by decide +kernel
theorem dX10_creditors_22 : decode cX10_creditors 22 = .ok (.invokevirtual 240, 3) := by decide +kernel
theorem dX10_creditors_25 : decode cX10_creditors 25 = .ok (.ifCond .eq 21, 3) := by decide +kernel
theorem dX10_creditors_28 : decode cX10_creditors 28 = .ok (.iconst 1, 1) := by decide +kernel
theorem dX10_creditors_29 : decode cX10_creditors 29 = .ok (.aload_n 0, 1) := by decide +kernel
theorem dX10_creditors_30 : decode cX10_creditors 30 = .ok (.getfield 20, 3) := by decide +kernel
theorem dX10_creditors_33 : decode cX10_creditors 33 = .ok (.bipush 25, 2) := by decide +kernel
theorem dX10_creditors_35 : decode cX10_creditors 35 = .ok (.iconst 4, 1) := by decide +kernel
theorem dX10_creditors_36 : decode cX10_creditors 36 = .ok (.iload_n 3, 1) := by decide +kernel
theorem dX10_creditors_37 : decode cX10_creditors 37 = .ok (.imul, 1) := by decide +kernel
theorem dX10_creditors_38 : decode cX10_creditors 38 = .ok (.iadd, 1) := by decide +kernel
theorem dX10_creditors_39 : decode cX10_creditors 39 = .ok (.iconst 1, 1) := by decide +kernel
theorem dX10_creditors_40 : decode cX10_creditors 40 = .ok (.iadd, 1) := by decide +kernel
theorem dX10_creditors_41 : decode cX10_creditors 41 = .ok (.iaload, 1) := by decide +kernel
theorem dX10_creditors_42 : decode cX10_creditors 42 = .ok (.ishl, 1) := by decide +kernel
theorem dX10_creditors_43 : decode cX10_creditors 43 = .ok (.goto 4, 3) := by decide +kernel
theorem dX10_creditors_46 : decode cX10_creditors 46 = .ok (.iconst 0, 1) := by decide +kernel
theorem dX10_creditors_47 : decode cX10_creditors 47 = .ok (.ior, 1) := by decide +kernel
theorem dX10_creditors_48 : decode cX10_creditors 48 = .ok (.istore_n 2, 1) := by decide +kernel
theorem dX10_creditors_49 : decode cX10_creditors 49 = .ok (.iinc 3 1, 3) := by decide +kernel
theorem dX10_creditors_52 : decode cX10_creditors 52 = .ok (.goto (-48), 3) := by decide +kernel
theorem dX10_creditors_55 : decode cX10_creditors 55 = .ok (.iload_n 2, 1) := by decide +kernel
theorem dX10_creditors_56 : decode cX10_creditors 56 = .ok (.ireturn, 1) := by decide +kernel
theorem dX10_isDebt_0 : decode cX10_isDebt 0 = .ok (.aload_n 0, 1) := by decide +kernel
theorem dX10_isDebt_1 : decode cX10_isDebt 1 = .ok (.getfield 167, 3) := by decide +kernel
theorem dX10_isDebt_4 : decode cX10_isDebt 4 = .ok (.ifCond .eq 23, 3) := by decide +kernel
theorem dX10_isDebt_7 : decode cX10_isDebt 7 = .ok (.iload_n 1, 1) := by decide +kernel
theorem dX10_isDebt_8 : decode cX10_isDebt 8 = .ok (.iconst 0, 1) := by decide +kernel
theorem dX10_isDebt_9 : decode cX10_isDebt 9 = .ok (.aload_n 0, 1) := by decide +kernel
theorem dX10_isDebt_10 : decode cX10_isDebt 10 = .ok (.getfield 20, 3) := by decide +kernel
theorem dX10_isDebt_13 : decode cX10_isDebt 13 = .ok (.iconst 5, 1) := by decide +kernel
theorem dX10_isDebt_14 : decode cX10_isDebt 14 = .ok (.iaload, 1) := by decide +kernel
theorem dX10_isDebt_15 : decode cX10_isDebt 15 = .ok (.iconst 1, 1) := by decide +kernel
theorem dX10_isDebt_16 : decode cX10_isDebt 16 = .ok (.isub, 1) := by decide +kernel
theorem dX10_isDebt_17 : decode cX10_isDebt 17 = .ok (.invokestatic 139, 3) := by decide +kernel
theorem dX10_isDebt_20 : decode cX10_isDebt 20 = .ok (.ifCond .eq 7, 3) := by decide +kernel
theorem dX10_isDebt_23 : decode cX10_isDebt 23 = .ok (.iconst 1, 1) := by decide +kernel
theorem dX10_isDebt_24 : decode cX10_isDebt 24 = .ok (.goto 4, 3) := by decide +kernel
theorem dX10_isDebt_27 : decode cX10_isDebt 27 = .ok (.iconst 0, 1) := by decide +kernel
theorem dX10_isDebt_28 : decode cX10_isDebt 28 = .ok (.ireturn, 1) := by decide +kernel
theorem dX10_debt_0 : decode cX10_debt 0 = .ok (.aload_n 0, 1) := by decide +kernel
theorem dX10_debt_1 : decode cX10_debt 1 = .ok (.invokevirtual 154, 3) := by decide +kernel
theorem dX10_debt_4 : decode cX10_debt 4 = .ok (.aload_n 0, 1) := by decide +kernel
theorem dX10_debt_5 : decode cX10_debt 5 = .ok (.iload_n 1, 1) := by decide +kernel
theorem dX10_debt_6 : decode cX10_debt 6 = .ok (.invokevirtual 276, 3) := by decide +kernel
theorem dX10_debt_9 : decode cX10_debt 9 = .ok (.ifCond .eq 12, 3) := by decide +kernel
theorem dX10_debt_12 : decode cX10_debt 12 = .ok (.iload_n 2, 1) := by decide +kernel
theorem dX10_debt_13 : decode cX10_debt 13 = .ok (.iconst 0, 1) := by decide +kernel
theorem dX10_debt_14 : decode cX10_debt 14 = .ok (.iconst 5, 1) := by decide +kernel
theorem dX10_debt_15 : decode cX10_debt 15 = .ok (.invokestatic 139, 3) := by decide +kernel
theorem dX10_debt_18 : decode cX10_debt 18 = .ok (.ifCond .ne 9, 3) := by decide +kernel
theorem dX10_debt_21 : decode cX10_debt 21 = .ok (.aload_n 0, 1) := by decide +kernel
theorem dX10_debt_22 : decode cX10_debt 22 = .ok (.iconst 1, 1) := by decide +kernel
theorem dX10_debt_23 : decode cX10_debt 23 = .ok (.invokevirtual 157, 3) := by decide +kernel
theorem dX10_debt_26 : decode cX10_debt 26 = .ok (.ireturn, 1) := by decide +kernel
theorem dX10_debt_27 : decode cX10_debt 27 = .ok (.iload_n 2, 1) := by decide +kernel
theorem dX10_debt_28 : decode cX10_debt 28 = .ok (.tableswitch 101 0 4 #[36, 48, 62, 69, 83], 36) := by decide +kernel
theorem dX10_debt_64 : decode cX10_debt 64 = .ok (.aload_n 0, 1) := by decide +kernel
theorem dX10_debt_65 : decode cX10_debt 65 = .ok (.getfield 20, 3) := by decide +kernel
theorem dX10_debt_68 : decode cX10_debt 68 = .ok (.bipush 25, 2) := by decide +kernel
theorem dX10_debt_70 : decode cX10_debt 70 = .ok (.iconst 4, 1) := by decide +kernel
theorem dX10_debt_71 : decode cX10_debt 71 = .ok (.iload_n 1, 1) := by decide +kernel
theorem dX10_debt_72 : decode cX10_debt 72 = .ok (.imul, 1) := by decide +kernel
theorem dX10_debt_73 : decode cX10_debt 73 = .ok (.iadd, 1) := by decide +kernel
theorem dX10_debt_74 : decode cX10_debt 74 = .ok (.iaload, 1) := by decide +kernel
theorem dX10_debt_75 : decode cX10_debt 75 = .ok (.ireturn, 1) := by decide +kernel
theorem dX10_debt_76 : decode cX10_debt 76 = .ok (.aload_n 0, 1) := by decide +kernel
theorem dX10_debt_77 : decode cX10_debt 77 = .ok (.getfield 20, 3) := by decide +kernel
theorem dX10_debt_80 : decode cX10_debt 80 = .ok (.bipush 25, 2) := by decide +kernel
theorem dX10_debt_82 : decode cX10_debt 82 = .ok (.iconst 4, 1) := by decide +kernel
theorem dX10_debt_83 : decode cX10_debt 83 = .ok (.iload_n 1, 1) := by decide +kernel
theorem dX10_debt_84 : decode cX10_debt 84 = .ok (.imul, 1) := by decide +kernel
theorem dX10_debt_85 : decode cX10_debt 85 = .ok (.iadd, 1) := by decide +kernel
theorem dX10_debt_86 : decode cX10_debt 86 = .ok (.iconst 1, 1) := by decide +kernel
theorem dX10_debt_87 : decode cX10_debt 87 = .ok (.iadd, 1) := by decide +kernel
theorem dX10_debt_88 : decode cX10_debt 88 = .ok (.iaload, 1) := by decide +kernel
theorem dX10_debt_89 : decode cX10_debt 89 = .ok (.ireturn, 1) := by decide +kernel
theorem dX10_debt_90 : decode cX10_debt 90 = .ok (.aload_n 0, 1) := by decide +kernel
theorem dX10_debt_91 : decode cX10_debt 91 = .ok (.getfield 26, 3) := by decide +kernel
theorem dX10_debt_94 : decode cX10_debt 94 = .ok (.iload_n 1, 1) := by decide +kernel
theorem dX10_debt_95 : decode cX10_debt 95 = .ok (.iaload, 1) := by decide +kernel
theorem dX10_debt_96 : decode cX10_debt 96 = .ok (.ireturn, 1) := by decide +kernel
theorem dX10_debt_97 : decode cX10_debt 97 = .ok (.aload_n 0, 1) := by decide +kernel
theorem dX10_debt_98 : decode cX10_debt 98 = .ok (.getfield 20, 3) := by decide +kernel
theorem dX10_debt_101 : decode cX10_debt 101 = .ok (.bipush 25, 2) := by decide +kernel
theorem dX10_debt_103 : decode cX10_debt 103 = .ok (.iconst 4, 1) := by decide +kernel
theorem dX10_debt_104 : decode cX10_debt 104 = .ok (.iload_n 1, 1) := by decide +kernel
theorem dX10_debt_105 : decode cX10_debt 105 = .ok (.imul, 1) := by decide +kernel
theorem dX10_debt_106 : decode cX10_debt 106 = .ok (.iadd, 1) := by decide +kernel
theorem dX10_debt_107 : decode cX10_debt 107 = .ok (.iconst 3, 1) := by decide +kernel
theorem dX10_debt_108 : decode cX10_debt 108 = .ok (.iadd, 1) := by decide +kernel
theorem dX10_debt_109 : decode cX10_debt 109 = .ok (.iaload, 1) := by decide +kernel
theorem dX10_debt_110 : decode cX10_debt 110 = .ok (.ireturn, 1) := by decide +kernel
theorem dX10_debt_111 : decode cX10_debt 111 = .ok (.aload_n 0, 1) := by decide +kernel
theorem dX10_debt_112 : decode cX10_debt 112 = .ok (.aload_n 0, 1) := by decide +kernel
theorem dX10_debt_113 : decode cX10_debt 113 = .ok (.getfield 26, 3) := by decide +kernel
theorem dX10_debt_116 : decode cX10_debt 116 = .ok (.iload_n 1, 1) := by decide +kernel
theorem dX10_debt_117 : decode cX10_debt 117 = .ok (.invokevirtual 236, 3) := by decide +kernel
theorem dX10_debt_120 : decode cX10_debt 120 = .ok (.ifCond .eq 7, 3) := by decide +kernel
theorem dX10_debt_123 : decode cX10_debt 123 = .ok (.iconst 1, 1) := by decide +kernel
theorem dX10_debt_124 : decode cX10_debt 124 = .ok (.goto 4, 3) := by decide +kernel
theorem dX10_debt_127 : decode cX10_debt 127 = .ok (.iconst 0, 1) := by decide +kernel
theorem dX10_debt_128 : decode cX10_debt 128 = .ok (.ireturn, 1) := by decide +kernel
theorem dX10_debt_129 : decode cX10_debt 129 = .ok (.aload_n 0, 1) := by decide +kernel
theorem dX10_debt_130 : decode cX10_debt 130 = .ok (.aload_n 0, 1) := by decide +kernel
theorem dX10_debt_131 : decode cX10_debt 131 = .ok (.getfield 26, 3) := by decide +kernel
theorem dX10_debt_134 : decode cX10_debt 134 = .ok (.iload_n 1, 1) := by decide +kernel
theorem dX10_debt_135 : decode cX10_debt 135 = .ok (.invokevirtual 236, 3) := by decide +kernel
theorem dX10_debt_138 : decode cX10_debt 138 = .ok (.ifCond .eq 21, 3) := by decide +kernel
theorem dX10_debt_141 : decode cX10_debt 141 = .ok (.aload_n 0, 1) := by decide +kernel
theorem dX10_debt_142 : decode cX10_debt 142 = .ok (.getfield 26, 3) := by decide +kernel
theorem dX10_debt_145 : decode cX10_debt 145 = .ok (.iload_n 1, 1) := by decide +kernel
theorem dX10_debt_146 : decode cX10_debt 146 = .ok (.iaload, 1) := by decide +kernel
theorem dX10_debt_147 : decode cX10_debt 147 = .ok (.aload_n 0, 1) := by decide +kernel
theorem dX10_debt_148 : decode cX10_debt 148 = .ok (.getfield 20, 3) := by decide +kernel
theorem dX10_debt_151 : decode cX10_debt 151 = .ok (.iconst 0, 1) := by decide +kernel
theorem dX10_debt_152 : decode cX10_debt 152 = .ok (.iaload, 1) := by decide +kernel
theorem dX10_debt_153 : decode cX10_debt 153 = .ok (.invokestatic 244, 3) := by decide +kernel
theorem dX10_debt_156 : decode cX10_debt 156 = .ok (.goto 4, 3) := by decide +kernel
theorem dX10_debt_159 : decode cX10_debt 159 = .ok (.iconst 0, 1) := by decide +kernel
theorem dX10_debt_160 : decode cX10_debt 160 = .ok (.ireturn, 1) := by decide +kernel
theorem dX10_door_0 : decode cX10_door 0 = .ok (.aload_n 0, 1) := by decide +kernel
theorem dX10_door_1 : decode cX10_door 1 = .ok (.invokevirtual 154, 3) := by decide +kernel
theorem dX10_door_4 : decode cX10_door 4 = .ok (.aload_n 0, 1) := by decide +kernel
theorem dX10_door_5 : decode cX10_door 5 = .ok (.iconst 0, 1) := by decide +kernel
theorem dX10_door_6 : decode cX10_door 6 = .ok (.putfield 247, 3) := by decide +kernel
theorem dX10_door_9 : decode cX10_door 9 = .ok (.aload_n 0, 1) := by decide +kernel
theorem dX10_door_10 : decode cX10_door 10 = .ok (.iload_n 1, 1) := by decide +kernel
theorem dX10_door_11 : decode cX10_door 11 = .ok (.invokevirtual 279, 3) := by decide +kernel
theorem dX10_door_14 : decode cX10_door 14 = .ok (.ifCond .eq 12, 3) := by decide +kernel
theorem dX10_door_17 : decode cX10_door 17 = .ok (.iload_n 2, 1) := by decide +kernel
theorem dX10_door_18 : decode cX10_door 18 = .ok (.iconst 0, 1) := by decide +kernel
theorem dX10_door_19 : decode cX10_door 19 = .ok (.iconst 2, 1) := by decide +kernel
theorem dX10_door_20 : decode cX10_door 20 = .ok (.invokestatic 139, 3) := by decide +kernel
theorem dX10_door_23 : decode cX10_door 23 = .ok (.ifCond .ne 9, 3) := by decide +kernel
theorem dX10_door_26 : decode cX10_door 26 = .ok (.aload_n 0, 1) := by decide +kernel
theorem dX10_door_27 : decode cX10_door 27 = .ok (.iconst 1, 1) := by decide +kernel
theorem dX10_door_28 : decode cX10_door 28 = .ok (.invokevirtual 157, 3) := by decide +kernel
theorem dX10_door_31 : decode cX10_door 31 = .ok (.ireturn, 1) := by decide +kernel
theorem dX10_door_32 : decode cX10_door 32 = .ok (.iload_n 2, 1) := by decide +kernel
theorem dX10_door_33 : decode cX10_door 33 = .ok (.ifCond .ne 13, 3) := by decide +kernel
theorem dX10_door_36 : decode cX10_door 36 = .ok (.aload_n 0, 1) := by decide +kernel
theorem dX10_door_37 : decode cX10_door 37 = .ok (.getfield 20, 3) := by decide +kernel
theorem dX10_door_40 : decode cX10_door 40 = .ok (.bipush 69, 2) := by decide +kernel
theorem dX10_door_42 : decode cX10_door 42 = .ok (.iload_n 1, 1) := by decide +kernel
theorem dX10_door_43 : decode cX10_door 43 = .ok (.iadd, 1) := by decide +kernel
theorem dX10_door_44 : decode cX10_door 44 = .ok (.iaload, 1) := by decide +kernel
theorem dX10_door_45 : decode cX10_door 45 = .ok (.ireturn, 1) := by decide +kernel
theorem dX10_door_46 : decode cX10_door 46 = .ok (.iconst 0, 1) := by decide +kernel
theorem dX10_door_47 : decode cX10_door 47 = .ok (.istore_n 3, 1) := by decide +kernel
theorem dX10_door_48 : decode cX10_door 48 = .ok (.iconst 0, 1) := by decide +kernel
theorem dX10_door_49 : decode cX10_door 49 = .ok (.istore 4, 2) := by decide +kernel
theorem dX10_door_51 : decode cX10_door 51 = .ok (.iload 4, 2) := by decide +kernel
theorem dX10_door_53 : decode cX10_door 53 = .ok (.aload_n 0, 1) := by decide +kernel
theorem dX10_door_54 : decode cX10_door 54 = .ok (.getfield 20, 3) := by decide +kernel
theorem dX10_door_57 : decode cX10_door 57 = .ok (.iconst 4, 1) := by decide +kernel
theorem dX10_door_58 : decode cX10_door 58 = .ok (.iaload, 1) := by decide +kernel
theorem dX10_door_59 : decode cX10_door 59 = .ok (.if_icmp .ge 58, 3) := by decide +kernel
theorem dX10_door_62 : decode cX10_door 62 = .ok (.iload_n 3, 1) := by decide +kernel
theorem dX10_door_63 : decode cX10_door 63 = .ok (.iload_n 2, 1) := by decide +kernel
theorem dX10_door_64 : decode cX10_door 64 = .ok (.iconst 1, 1) := by decide +kernel
theorem dX10_door_65 : decode cX10_door 65 = .ok (.if_icmp .ne 20, 3) := by decide +kernel
theorem dX10_door_68 : decode cX10_door 68 = .ok (.aload_n 0, 1) := by decide +kernel
theorem dX10_door_69 : decode cX10_door 69 = .ok (.aload_n 0, 1) := by decide +kernel
theorem dX10_door_70 : decode cX10_door 70 = .ok (.getfield 26, 3) := by decide +kernel
theorem dX10_door_73 : decode cX10_door 73 = .ok (.iload 4, 2) := by decide +kernel
theorem dX10_door_75 : decode cX10_door 75 = .ok (.iload_n 1, 1) := by decide +kernel
theorem dX10_door_76 : decode cX10_door 76 = .ok (.invokevirtual 282, 3) := by decide +kernel
theorem dX10_door_79 : decode cX10_door 79 = .ok (.ifCond .eq 29, 3) := by decide +kernel
theorem dX10_door_82 : decode cX10_door 82 = .ok (.goto 19, 3) := by decide +kernel
theorem dX10_door_85 : decode cX10_door 85 = .ok (.aload_n 0, 1) := by decide +kernel
theorem dX10_door_86 : decode cX10_door 86 = .ok (.getfield 20, 3) := by decide +kernel
theorem dX10_door_89 : decode cX10_door 89 = .ok (.bipush 73, 2) := by decide +kernel
theorem dX10_door_91 : decode cX10_door 91 = .ok (.iload 4, 2) := by decide +kernel
theorem dX10_door_93 : decode cX10_door 93 = .ok (.iadd, 1) := by decide +kernel
theorem dX10_door_94 : decode cX10_door 94 = .ok (.iaload, 1) := by decide +kernel
theorem dX10_door_95 : decode cX10_door 95 = .ok (.iload_n 1, 1) := by decide +kernel
theorem dX10_door_96 : decode cX10_door 96 = .ok (.iconst 1, 1) := by decide +kernel
theorem dX10_door_97 : decode cX10_door 97 = .ok (.iadd, 1) := by decide +kernel
theorem dX10_door_98 : decode cX10_door 98 = .ok (.if_icmp .ne 10, 3) := by decide +kernel
theorem dX10_door_101 : decode cX10_door 101 = .ok (.iconst 1, 1) := by decide +kernel
theorem dX10_door_102 : decode cX10_door 102 = .ok (.iload 4, 2) := by decide +kernel
theorem dX10_door_104 : decode cX10_door 104 = .ok (.ishl, 1) := by decide +kernel
theorem dX10_door_105 : decode cX10_door 105 = .ok (.goto 4, 3) := by decide +kernel
theorem dX10_door_108 : decode cX10_door 108 = .ok (.iconst 0, 1) := by decide +kernel
theorem dX10_door_109 : decode cX10_door 109 = .ok (.ior, 1) := by decide +kernel
theorem dX10_door_110 : decode cX10_door 110 = .ok (.istore_n 3, 1) := by decide +kernel
theorem dX10_door_111 : decode cX10_door 111 = .ok (.iinc 4 1, 3) := by decide +kernel
theorem dX10_door_114 : decode cX10_door 114 = .ok (.goto (-63), 3) := by decide +kernel
theorem dX10_door_117 : decode cX10_door 117 = .ok (.iload_n 3, 1) := by decide +kernel
theorem dX10_door_118 : decode cX10_door 118 = .ok (.ireturn, 1) := by decide +kernel
theorem dX10_heads_0 : decode cX10_heads 0 = .ok (.aload_n 0, 1) := by decide +kernel
theorem dX10_heads_1 : decode cX10_heads 1 = .ok (.invokevirtual 154, 3) := by decide +kernel
theorem dX10_heads_4 : decode cX10_heads 4 = .ok (.aload_n 0, 1) := by decide +kernel
theorem dX10_heads_5 : decode cX10_heads 5 = .ok (.iconst 0, 1) := by decide +kernel
theorem dX10_heads_6 : decode cX10_heads 6 = .ok (.putfield 247, 3) := by decide +kernel
theorem dX10_heads_9 : decode cX10_heads 9 = .ok (.aload_n 0, 1) := by decide +kernel
theorem dX10_heads_10 : decode cX10_heads 10 = .ok (.getfield 167, 3) := by decide +kernel
theorem dX10_heads_13 : decode cX10_heads 13 = .ok (.ifCond .eq 14, 3) := by decide +kernel
theorem dX10_heads_16 : decode cX10_heads 16 = .ok (.aload_n 0, 1) := by decide +kernel
theorem dX10_heads_17 : decode cX10_heads 17 = .ok (.aload_n 0, 1) := by decide +kernel
theorem dX10_heads_18 : decode cX10_heads 18 = .ok (.getfield 26, 3) := by decide +kernel
theorem dX10_heads_21 : decode cX10_heads 21 = .ok (.invokevirtual 285, 3) := by decide +kernel
theorem dX10_heads_24 : decode cX10_heads 24 = .ok (.goto 8, 3) := by decide +kernel
theorem dX10_heads_27 : decode cX10_heads 27 = .ok (.aload_n 0, 1) := by decide +kernel
theorem dX10_heads_28 : decode cX10_heads 28 = .ok (.iconst 1, 1) := by decide +kernel
theorem dX10_heads_29 : decode cX10_heads 29 = .ok (.invokevirtual 157, 3) := by decide +kernel
theorem dX10_heads_32 : decode cX10_heads 32 = .ok (.ireturn, 1) := by decide +kernel
theorem dX10_greatest_0 : decode cX10_greatest 0 = .ok (.aload_n 0, 1) := by decide +kernel
theorem dX10_greatest_1 : decode cX10_greatest 1 = .ok (.invokevirtual 154, 3) := by decide +kernel
theorem dX10_greatest_4 : decode cX10_greatest 4 = .ok (.aload_n 0, 1) := by decide +kernel
theorem dX10_greatest_5 : decode cX10_greatest 5 = .ok (.iconst 0, 1) := by decide +kernel
theorem dX10_greatest_6 : decode cX10_greatest 6 = .ok (.putfield 247, 3) := by decide +kernel
theorem dX10_greatest_9 : decode cX10_greatest 9 = .ok (.aload_n 0, 1) := by decide +kernel
theorem dX10_greatest_10 : decode cX10_greatest 10 = .ok (.getfield 167, 3) := by decide +kernel
theorem dX10_greatest_13 : decode cX10_greatest 13 = .ok (.ifCond .ne 9, 3) := by decide +kernel
theorem dX10_greatest_16 : decode cX10_greatest 16 = .ok (.aload_n 0, 1) := by decide +kernel
theorem dX10_greatest_17 : decode cX10_greatest 17 = .ok (.iconst 1, 1) := by decide +kernel
theorem dX10_greatest_18 : decode cX10_greatest 18 = .ok (.invokevirtual 157, 3) := by decide +kernel
theorem dX10_greatest_21 : decode cX10_greatest 21 = .ok (.ireturn, 1) := by decide +kernel
theorem dX10_greatest_22 : decode cX10_greatest 22 = .ok (.iconst 0, 1) := by decide +kernel
theorem dX10_greatest_23 : decode cX10_greatest 23 = .ok (.istore_n 1, 1) := by decide +kernel
theorem dX10_greatest_24 : decode cX10_greatest 24 = .ok (.iconst 1, 1) := by decide +kernel
theorem dX10_greatest_25 : decode cX10_greatest 25 = .ok (.istore_n 2, 1) := by decide +kernel
theorem dX10_greatest_26 : decode cX10_greatest 26 = .ok (.iload_n 2, 1) := by decide +kernel
theorem dX10_greatest_27 : decode cX10_greatest 27 = .ok (.aload_n 0, 1) := by decide +kernel
theorem dX10_greatest_28 : decode cX10_greatest 28 = .ok (.getfield 20, 3) := by decide +kernel
theorem dX10_greatest_31 : decode cX10_greatest 31 = .ok (.iconst 4, 1) := by decide +kernel
theorem dX10_greatest_32 : decode cX10_greatest 32 = .ok (.iaload, 1) := by decide +kernel
theorem dX10_greatest_33 : decode cX10_greatest 33 = .ok (.if_icmp .ge 32, 3) := by decide +kernel
theorem dX10_greatest_36 : decode cX10_greatest 36 = .ok (.aload_n 0, 1) := by decide +kernel
theorem dX10_greatest_37 : decode cX10_greatest 37 = .ok (.aload_n 0, 1) := by decide +kernel
theorem dX10_greatest_38 : decode cX10_greatest 38 = .ok (.getfield 26, 3) := by decide +kernel
theorem dX10_greatest_41 : decode cX10_greatest 41 = .ok (.iload_n 2, 1) := by decide +kernel
theorem dX10_greatest_42 : decode cX10_greatest 42 = .ok (.invokevirtual 261, 3) := by decide +kernel
theorem dX10_greatest_45 : decode cX10_greatest 45 = .ok (.aload_n 0, 1) := by decide +kernel
theorem dX10_greatest_46 : decode cX10_greatest 46 = .ok (.aload_n 0, 1) := by decide +kernel
theorem dX10_greatest_47 : decode cX10_greatest 47 = .ok (.getfield 26, 3) := by decide +kernel
theorem dX10_greatest_50 : decode cX10_greatest 50 = .ok (.iload_n 1, 1) := by decide +kernel
theorem dX10_greatest_51 : decode cX10_greatest 51 = .ok (.invokevirtual 261, 3) := by decide +kernel
theorem dX10_greatest_54 : decode cX10_greatest 54 = .ok (.if_icmp .le 5, 3) := by decide +kernel
theorem dX10_greatest_57 : decode cX10_greatest 57 = .ok (.iload_n 2, 1) := by decide +kernel
theorem dX10_greatest_58 : decode cX10_greatest 58 = .ok (.istore_n 1, 1) := by decide +kernel
theorem dX10_greatest_59 : decode cX10_greatest 59 = .ok (.iinc 2 1, 3) := by decide +kernel
theorem dX10_greatest_62 : decode cX10_greatest 62 = .ok (.goto (-36), 3) := by decide +kernel
theorem dX10_greatest_65 : decode cX10_greatest 65 = .ok (.iload_n 1, 1) := by decide +kernel
theorem dX10_greatest_66 : decode cX10_greatest 66 = .ok (.ireturn, 1) := by decide +kernel
theorem dX10_bald_0 : decode cX10_bald 0 = .ok (.aload_n 0, 1) := by decide +kernel
theorem dX10_bald_1 : decode cX10_bald 1 = .ok (.invokevirtual 154, 3) := by decide +kernel
theorem dX10_bald_4 : decode cX10_bald 4 = .ok (.aload_n 0, 1) := by decide +kernel
theorem dX10_bald_5 : decode cX10_bald 5 = .ok (.iconst 0, 1) := by decide +kernel
theorem dX10_bald_6 : decode cX10_bald 6 = .ok (.putfield 247, 3) := by decide +kernel
theorem dX10_bald_9 : decode cX10_bald 9 = .ok (.aload_n 0, 1) := by decide +kernel
theorem dX10_bald_10 : decode cX10_bald 10 = .ok (.getfield 167, 3) := by decide +kernel
theorem dX10_bald_13 : decode cX10_bald 13 = .ok (.ifCond .ne 9, 3) := by decide +kernel
theorem dX10_bald_16 : decode cX10_bald 16 = .ok (.aload_n 0, 1) := by decide +kernel
theorem dX10_bald_17 : decode cX10_bald 17 = .ok (.iconst 1, 1) := by decide +kernel
theorem dX10_bald_18 : decode cX10_bald 18 = .ok (.invokevirtual 157, 3) := by decide +kernel
theorem dX10_bald_21 : decode cX10_bald 21 = .ok (.ireturn, 1) := by decide +kernel
theorem dX10_bald_22 : decode cX10_bald 22 = .ok (.iconst 0, 1) := by decide +kernel
theorem dX10_bald_23 : decode cX10_bald 23 = .ok (.istore_n 1, 1) := by decide +kernel
theorem dX10_bald_24 : decode cX10_bald 24 = .ok (.iconst 0, 1) := by decide +kernel
theorem dX10_bald_25 : decode cX10_bald 25 = .ok (.istore_n 2, 1) := by decide +kernel
theorem dX10_bald_26 : decode cX10_bald 26 = .ok (.iload_n 2, 1) := by decide +kernel
theorem dX10_bald_27 : decode cX10_bald 27 = .ok (.aload_n 0, 1) := by decide +kernel
theorem dX10_bald_28 : decode cX10_bald 28 = .ok (.getfield 20, 3) := by decide +kernel
theorem dX10_bald_31 : decode cX10_bald 31 = .ok (.iconst 4, 1) := by decide +kernel
theorem dX10_bald_32 : decode cX10_bald 32 = .ok (.iaload, 1) := by decide +kernel
theorem dX10_bald_33 : decode cX10_bald 33 = .ok (.if_icmp .ge 31, 3) := by decide +kernel
theorem dX10_bald_36 : decode cX10_bald 36 = .ok (.iload_n 1, 1) := by decide +kernel
theorem dX10_bald_37 : decode cX10_bald 37 = .ok (.aload_n 0, 1) := by decide +kernel
theorem dX10_bald_38 : decode cX10_bald 38 = .ok (.aload_n 0, 1) := by decide +kernel
theorem dX10_bald_39 : decode cX10_bald 39 = .ok (.getfield 26, 3) := by decide +kernel
theorem dX10_bald_42 : decode cX10_bald 42 = .ok (.iload_n 2, 1) := by decide +kernel
theorem dX10_bald_43 : decode cX10_bald 43 = .ok (.invokevirtual 261, 3) := by decide +kernel
theorem dX10_bald_46 : decode cX10_bald 46 = .ok (.ifCond .ne 9, 3) := by decide +kernel
theorem dX10_bald_49 : decode cX10_bald 49 = .ok (.iconst 1, 1) := by decide +kernel
theorem dX10_bald_50 : decode cX10_bald 50 = .ok (.iload_n 2, 1) := by decide +kernel
theorem dX10_bald_51 : decode cX10_bald 51 = .ok (.ishl, 1) := by decide +kernel
theorem dX10_bald_52 : decode cX10_bald 52 = .ok (.goto 4, 3) := by decide +kernel
theorem dX10_bald_55 : decode cX10_bald 55 = .ok (.iconst 0, 1) := by decide +kernel
theorem dX10_bald_56 : decode cX10_bald 56 = .ok (.ior, 1) := by decide +kernel
theorem dX10_bald_57 : decode cX10_bald 57 = .ok (.istore_n 1, 1) := by decide +kernel
theorem dX10_bald_58 : decode cX10_bald 58 = .ok (.iinc 2 1, 3) := by decide +kernel
theorem dX10_bald_61 : decode cX10_bald 61 = .ok (.goto (-35), 3) := by decide +kernel
theorem dX10_bald_64 : decode cX10_bald 64 = .ok (.iload_n 1, 1) := by decide +kernel
theorem dX10_bald_65 : decode cX10_bald 65 = .ok (.ireturn, 1) := by decide +kernel
theorem dX10_goOver_0 : decode cX10_goOver 0 = .ok (.aload_n 0, 1) := by decide +kernel
theorem dX10_goOver_1 : decode cX10_goOver 1 = .ok (.iconst 0, 1) := by decide +kernel
theorem dX10_goOver_2 : decode cX10_goOver 2 = .ok (.putfield 247, 3) := by decide +kernel
theorem dX10_goOver_5 : decode cX10_goOver 5 = .ok (.aload_n 0, 1) := by decide +kernel
theorem dX10_goOver_6 : decode cX10_goOver 6 = .ok (.getfield 26, 3) := by decide +kernel
theorem dX10_goOver_9 : decode cX10_goOver 9 = .ok (.iconst 0, 1) := by decide +kernel
theorem dX10_goOver_10 : decode cX10_goOver 10 = .ok (.aload_n 0, 1) := by decide +kernel
theorem dX10_goOver_11 : decode cX10_goOver 11 = .ok (.getfield 35, 3) := by decide +kernel
theorem dX10_goOver_14 : decode cX10_goOver 14 = .ok (.iconst 0, 1) := by decide +kernel
theorem dX10_goOver_15 : decode cX10_goOver 15 = .ok (.bipush 13, 2) := by decide +kernel
theorem dX10_goOver_17 : decode cX10_goOver 17 = .ok (.invokestatic 163, 3) := by decide +kernel
theorem dX10_goOver_20 : decode cX10_goOver 20 = .ok (.aload_n 0, 1) := by decide +kernel
theorem dX10_goOver_21 : decode cX10_goOver 21 = .ok (.getfield 35, 3) := by decide +kernel
theorem dX10_goOver_24 : decode cX10_goOver 24 = .ok (.bipush 12, 2) := by decide +kernel
theorem dX10_goOver_26 : decode cX10_goOver 26 = .ok (.dup2, 1) := by decide +kernel
theorem dX10_goOver_27 : decode cX10_goOver 27 = .ok (.iaload, 1) := by decide +kernel
theorem dX10_goOver_28 : decode cX10_goOver 28 = .ok (.iload_n 1, 1) := by decide +kernel
theorem dX10_goOver_29 : decode cX10_goOver 29 = .ok (.iadd, 1) := by decide +kernel
theorem dX10_goOver_30 : decode cX10_goOver 30 = .ok (.iastore, 1) := by decide +kernel
theorem dX10_goOver_31 : decode cX10_goOver 31 = .ok (.return_, 1) := by decide +kernel
theorem dX10_why_0 : decode cX10_why 0 = .ok (.iload_n 1, 1) := by decide +kernel
theorem dX10_why_1 : decode cX10_why 1 = .ok (.ifCond .ne 7, 3) := by decide +kernel
theorem dX10_why_4 : decode cX10_why 4 = .ok (.iconst 1, 1) := by decide +kernel
theorem dX10_why_5 : decode cX10_why 5 = .ok (.goto 12, 3) := by decide +kernel
theorem dX10_why_8 : decode cX10_why 8 = .ok (.iload_n 2, 1) := by decide +kernel
theorem dX10_why_9 : decode cX10_why 9 = .ok (.ifCond .eq 7, 3) := by decide +kernel
theorem dX10_why_12 : decode cX10_why 12 = .ok (.iconst 0, 1) := by decide +kernel
theorem dX10_why_13 : decode cX10_why 13 = .ok (.goto 4, 3) := by decide +kernel
theorem dX10_why_16 : decode cX10_why 16 = .ok (.iconst 2, 1) := by decide +kernel
theorem dX10_why_17 : decode cX10_why 17 = .ok (.ireturn, 1) := by decide +kernel
theorem dX10_headIn_0 : decode cX10_headIn 0 = .ok (.aload_n 0, 1) := by decide +kernel
theorem dX10_headIn_1 : decode cX10_headIn 1 = .ok (.invokevirtual 154, 3) := by decide +kernel
theorem dX10_headIn_4 : decode cX10_headIn 4 = .ok (.aload_n 0, 1) := by decide +kernel
theorem dX10_headIn_5 : decode cX10_headIn 5 = .ok (.aload_n 0, 1) := by decide +kernel
theorem dX10_headIn_6 : decode cX10_headIn 6 = .ok (.iload_n 1, 1) := by decide +kernel
theorem dX10_headIn_7 : decode cX10_headIn 7 = .ok (.invokevirtual 264, 3) := by decide +kernel
theorem dX10_headIn_10 : decode cX10_headIn 10 = .ok (.iload_n 2, 1) := by decide +kernel
theorem dX10_headIn_11 : decode cX10_headIn 11 = .ok (.iconst 0, 1) := by decide +kernel
theorem dX10_headIn_12 : decode cX10_headIn 12 = .ok (.bipush 20, 2) := by decide +kernel
theorem dX10_headIn_14 : decode cX10_headIn 14 = .ok (.invokestatic 139, 3) := by decide +kernel
theorem dX10_headIn_17 : decode cX10_headIn 17 = .ok (.invokevirtual 289, 3) := by decide +kernel
theorem dX10_headIn_20 : decode cX10_headIn 20 = .ok (.istore_n 3, 1) := by decide +kernel
theorem dX10_headIn_21 : decode cX10_headIn 21 = .ok (.iload_n 3, 1) := by decide +kernel
theorem dX10_headIn_22 : decode cX10_headIn 22 = .ok (.ifCond .eq 9, 3) := by decide +kernel
theorem dX10_headIn_25 : decode cX10_headIn 25 = .ok (.aload_n 0, 1) := by decide +kernel
theorem dX10_headIn_26 : decode cX10_headIn 26 = .ok (.iload_n 3, 1) := by decide +kernel
theorem dX10_headIn_27 : decode cX10_headIn 27 = .ok (.invokevirtual 157, 3) := by decide +kernel
theorem dX10_headIn_30 : decode cX10_headIn 30 = .ok (.ireturn, 1) := by decide +kernel
theorem dX10_headIn_31 : decode cX10_headIn 31 = .ok (.aload_n 0, 1) := by decide +kernel
theorem dX10_headIn_32 : decode cX10_headIn 32 = .ok (.iload_n 2, 1) := by decide +kernel
theorem dX10_headIn_33 : decode cX10_headIn 33 = .ok (.invokevirtual 293, 3) := by decide +kernel
theorem dX10_headIn_36 : decode cX10_headIn 36 = .ok (.aload_n 0, 1) := by decide +kernel
theorem dX10_headIn_37 : decode cX10_headIn 37 = .ok (.aload_n 0, 1) := by decide +kernel
theorem dX10_headIn_38 : decode cX10_headIn 38 = .ok (.getfield 35, 3) := by decide +kernel
theorem dX10_headIn_41 : decode cX10_headIn 41 = .ok (.iload_n 1, 1) := by decide +kernel
theorem dX10_headIn_42 : decode cX10_headIn 42 = .ok (.invokevirtual 261, 3) := by decide +kernel
theorem dX10_headIn_45 : decode cX10_headIn 45 = .ok (.ireturn, 1) := by decide +kernel
theorem dX10_when_0 : decode cX10_when 0 = .ok (.aload_n 0, 1) := by decide +kernel
theorem dX10_when_1 : decode cX10_when 1 = .ok (.invokevirtual 154, 3) := by decide +kernel
theorem dX10_when_4 : decode cX10_when 4 = .ok (.aload_n 0, 1) := by decide +kernel
theorem dX10_when_5 : decode cX10_when 5 = .ok (.aload_n 0, 1) := by decide +kernel
theorem dX10_when_6 : decode cX10_when 6 = .ok (.iload_n 1, 1) := by decide +kernel
theorem dX10_when_7 : decode cX10_when 7 = .ok (.invokevirtual 264, 3) := by decide +kernel
theorem dX10_when_10 : decode cX10_when 10 = .ok (.iload_n 2, 1) := by decide +kernel
theorem dX10_when_11 : decode cX10_when 11 = .ok (.iconst 0, 1) := by decide +kernel
theorem dX10_when_12 : decode cX10_when 12 = .ok (.bipush 99, 2) := by decide +kernel
theorem dX10_when_14 : decode cX10_when 14 = .ok (.invokestatic 139, 3) := by decide +kernel
theorem dX10_when_17 : decode cX10_when 17 = .ok (.invokevirtual 289, 3) := by decide +kernel
theorem dX10_when_20 : decode cX10_when 20 = .ok (.istore_n 3, 1) := by decide +kernel
theorem dX10_when_21 : decode cX10_when 21 = .ok (.iload_n 3, 1) := by decide +kernel
theorem dX10_when_22 : decode cX10_when 22 = .ok (.ifCond .eq 9, 3) := by decide +kernel
theorem dX10_when_25 : decode cX10_when 25 = .ok (.aload_n 0, 1) := by decide +kernel
theorem dX10_when_26 : decode cX10_when 26 = .ok (.iload_n 3, 1) := by decide +kernel
theorem dX10_when_27 : decode cX10_when 27 = .ok (.invokevirtual 157, 3) := by decide +kernel
theorem dX10_when_30 : decode cX10_when 30 = .ok (.ireturn, 1) := by decide +kernel
theorem dX10_when_31 : decode cX10_when 31 = .ok (.iconst 0, 1) := by decide +kernel
theorem dX10_when_32 : decode cX10_when 32 = .ok (.istore 4, 2) := by decide +kernel
theorem dX10_when_34 : decode cX10_when 34 = .ok (.iload 4, 2) := by decide +kernel
theorem dX10_when_36 : decode cX10_when 36 = .ok (.bipush 20, 2) := by decide +kernel
theorem dX10_when_38 : decode cX10_when 38 = .ok (.if_icmp .gt 31, 3) := by decide +kernel
theorem dX10_when_41 : decode cX10_when 41 = .ok (.aload_n 0, 1) := by decide +kernel
theorem dX10_when_42 : decode cX10_when 42 = .ok (.iload 4, 2) := by decide +kernel
theorem dX10_when_44 : decode cX10_when 44 = .ok (.invokevirtual 293, 3) := by decide +kernel
theorem dX10_when_47 : decode cX10_when 47 = .ok (.aload_n 0, 1) := by decide +kernel
theorem dX10_when_48 : decode cX10_when 48 = .ok (.aload_n 0, 1) := by decide +kernel
theorem dX10_when_49 : decode cX10_when 49 = .ok (.getfield 35, 3) := by decide +kernel
theorem dX10_when_52 : decode cX10_when 52 = .ok (.iload_n 1, 1) := by decide +kernel
theorem dX10_when_53 : decode cX10_when 53 = .ok (.invokevirtual 261, 3) := by decide +kernel
theorem dX10_when_56 : decode cX10_when 56 = .ok (.iload_n 2, 1) := by decide +kernel
theorem dX10_when_57 : decode cX10_when 57 = .ok (.if_icmp .lt 6, 3) := by decide +kernel
theorem dX10_when_60 : decode cX10_when 60 = .ok (.iload 4, 2) := by decide +kernel
theorem dX10_when_62 : decode cX10_when 62 = .ok (.ireturn, 1) := by decide +kernel
theorem dX10_when_63 : decode cX10_when 63 = .ok (.iinc 4 1, 3) := by decide +kernel
theorem dX10_when_66 : decode cX10_when 66 = .ok (.goto (-32), 3) := by decide +kernel
theorem dX10_when_69 : decode cX10_when 69 = .ok (.bipush (-2), 2) := by decide +kernel
theorem dX10_when_71 : decode cX10_when 71 = .ok (.ireturn, 1) := by decide +kernel
theorem dX10_worstSpring_0 : decode cX10_worstSpring 0 = .ok (.aload_n 0, 1) := by decide +kernel
theorem dX10_worstSpring_1 : decode cX10_worstSpring 1 = .ok (.invokevirtual 154, 3) := by decide +kernel
theorem dX10_worstSpring_4 : decode cX10_worstSpring 4 = .ok (.aload_n 0, 1) := by decide +kernel
theorem dX10_worstSpring_5 : decode cX10_worstSpring 5 = .ok (.getfield 167, 3) := by decide +kernel
theorem dX10_worstSpring_8 : decode cX10_worstSpring 8 = .ok (.ifCond .ne 9, 3) := by decide +kernel
theorem dX10_worstSpring_11 : decode cX10_worstSpring 11 = .ok (.aload_n 0, 1) := by decide +kernel
theorem dX10_worstSpring_12 : decode cX10_worstSpring 12 = .ok (.iconst 1, 1) := by decide +kernel
theorem dX10_worstSpring_13 : decode cX10_worstSpring 13 = .ok (.invokevirtual 157, 3) := by decide +kernel
theorem dX10_worstSpring_16 : decode cX10_worstSpring 16 = .ok (.ireturn, 1) := by decide +kernel
theorem dX10_worstSpring_17 : decode cX10_worstSpring 17 = .ok (.iconst 0, 1) := by decide +kernel
theorem dX10_worstSpring_18 : decode cX10_worstSpring 18 = .ok (.istore_n 1, 1) := by decide +kernel
theorem dX10_worstSpring_19 : decode cX10_worstSpring 19 = .ok (.iconst (-1), 1) := by decide +kernel
theorem dX10_worstSpring_20 : decode cX10_worstSpring 20 = .ok (.istore_n 2, 1) := by decide +kernel
theorem dX10_worstSpring_21 : decode cX10_worstSpring 21 = .ok (.iconst 0, 1) := by decide +kernel
theorem dX10_worstSpring_22 : decode cX10_worstSpring 22 = .ok (.istore_n 3, 1) := by decide +kernel
theorem dX10_worstSpring_23 : decode cX10_worstSpring 23 = .ok (.iload_n 3, 1) := by decide +kernel
theorem dX10_worstSpring_24 : decode cX10_worstSpring 24 = .ok (.bipush 20, 2) := by decide +kernel
theorem dX10_worstSpring_26 : decode cX10_worstSpring 26 = .ok (.if_icmp .gt 40, 3) := by decide +kernel
theorem dX10_worstSpring_29 : decode cX10_worstSpring 29 = .ok (.aload_n 0, 1) := by decide +kernel
theorem dX10_worstSpring_30 : decode cX10_worstSpring 30 = .ok (.iload_n 3, 1) := by decide +kernel
theorem dX10_worstSpring_31 : decode cX10_worstSpring 31 = .ok (.invokevirtual 293, 3) := by decide +kernel
theorem dX10_worstSpring_34 : decode cX10_worstSpring 34 = .ok (.aload_n 0, 1) := by decide +kernel
theorem dX10_worstSpring_35 : decode cX10_worstSpring 35 = .ok (.aload_n 0, 1) := by decide +kernel
theorem dX10_worstSpring_36 : decode cX10_worstSpring 36 = .ok (.getfield 35, 3) := by decide +kernel
theorem dX10_worstSpring_39 : decode cX10_worstSpring 39 = .ok (.invokevirtual 285, 3) := by decide +kernel
theorem dX10_worstSpring_42 : decode cX10_worstSpring 42 = .ok (.iload_n 2, 1) := by decide +kernel
theorem dX10_worstSpring_43 : decode cX10_worstSpring 43 = .ok (.if_icmp .gt 6, 3) := by decide +kernel
theorem dX10_worstSpring_46 : decode cX10_worstSpring 46 = .ok (.goto 14, 3) := by decide +kernel
theorem dX10_worstSpring_49 : decode cX10_worstSpring 49 = .ok (.iload_n 3, 1) := by decide +kernel
theorem dX10_worstSpring_50 : decode cX10_worstSpring 50 = .ok (.istore_n 1, 1) := by decide +kernel
theorem dX10_worstSpring_51 : decode cX10_worstSpring 51 = .ok (.aload_n 0, 1) := by decide +kernel
theorem dX10_worstSpring_52 : decode cX10_worstSpring 52 = .ok (.aload_n 0, 1) := by decide +kernel
theorem dX10_worstSpring_53 : decode cX10_worstSpring 53 = .ok (.getfield 35, 3) := by decide +kernel
theorem dX10_worstSpring_56 : decode cX10_worstSpring 56 = .ok (.invokevirtual 285, 3) := by decide +kernel
theorem dX10_worstSpring_59 : decode cX10_worstSpring 59 = .ok (.istore_n 2, 1) := by decide +kernel
theorem dX10_worstSpring_60 : decode cX10_worstSpring 60 = .ok (.iinc 3 1, 3) := by decide +kernel
theorem dX10_worstSpring_63 : decode cX10_worstSpring 63 = .ok (.goto (-40), 3) := by decide +kernel
theorem dX10_worstSpring_66 : decode cX10_worstSpring 66 = .ok (.iload_n 1, 1) := by decide +kernel
theorem dX10_worstSpring_67 : decode cX10_worstSpring 67 = .ok (.ireturn, 1) := by decide +kernel
theorem dX10_shutIn_0 : decode cX10_shutIn 0 = .ok (.aload_n 0, 1) := by decide +kernel
theorem dX10_shutIn_1 : decode cX10_shutIn 1 = .ok (.invokevirtual 154, 3) := by decide +kernel
theorem dX10_shutIn_4 : decode cX10_shutIn 4 = .ok (.aload_n 0, 1) := by decide +kernel
theorem dX10_shutIn_5 : decode cX10_shutIn 5 = .ok (.iload_n 1, 1) := by decide +kernel
theorem dX10_shutIn_6 : decode cX10_shutIn 6 = .ok (.invokevirtual 264, 3) := by decide +kernel
theorem dX10_shutIn_9 : decode cX10_shutIn 9 = .ok (.ifCond .eq 11, 3) := by decide +kernel
theorem dX10_shutIn_12 : decode cX10_shutIn 12 = .ok (.aload_n 0, 1) := by decide +kernel
theorem dX10_shutIn_13 : decode cX10_shutIn 13 = .ok (.iload_n 2, 1) := by decide +kernel
theorem dX10_shutIn_14 : decode cX10_shutIn 14 = .ok (.invokevirtual 279, 3) := by decide +kernel
theorem dX10_shutIn_17 : decode cX10_shutIn 17 = .ok (.ifCond .ne 9, 3) := by decide +kernel
theorem dX10_shutIn_20 : decode cX10_shutIn 20 = .ok (.aload_n 0, 1) := by decide +kernel
theorem dX10_shutIn_21 : decode cX10_shutIn 21 = .ok (.iconst 1, 1) := by decide +kernel
theorem dX10_shutIn_22 : decode cX10_shutIn 22 = .ok (.invokevirtual 157, 3) := by decide +kernel
theorem dX10_shutIn_25 : decode cX10_shutIn 25 = .ok (.ireturn, 1) := by decide +kernel
theorem dX10_shutIn_26 : decode cX10_shutIn 26 = .ok (.iconst 0, 1) := by decide +kernel
theorem dX10_shutIn_27 : decode cX10_shutIn 27 = .ok (.istore_n 3, 1) := by decide +kernel
theorem dX10_shutIn_28 : decode cX10_shutIn 28 = .ok (.iload_n 3, 1) := by decide +kernel
theorem dX10_shutIn_29 : decode cX10_shutIn 29 = .ok (.bipush 20, 2) := by decide +kernel
theorem dX10_shutIn_31 : decode cX10_shutIn 31 = .ok (.if_icmp .gt 29, 3) := by decide +kernel
theorem dX10_shutIn_34 : decode cX10_shutIn 34 = .ok (.aload_n 0, 1) := by decide +kernel
theorem dX10_shutIn_35 : decode cX10_shutIn 35 = .ok (.iload_n 3, 1) := by decide +kernel
theorem dX10_shutIn_36 : decode cX10_shutIn 36 = .ok (.invokevirtual 293, 3) := by decide +kernel
theorem dX10_shutIn_39 : decode cX10_shutIn 39 = .ok (.aload_n 0, 1) := by decide +kernel
theorem dX10_shutIn_40 : decode cX10_shutIn 40 = .ok (.aload_n 0, 1) := by decide +kernel
theorem dX10_shutIn_41 : decode cX10_shutIn 41 = .ok (.getfield 35, 3) := by decide +kernel
theorem dX10_shutIn_44 : decode cX10_shutIn 44 = .ok (.iload_n 1, 1) := by decide +kernel
theorem dX10_shutIn_45 : decode cX10_shutIn 45 = .ok (.iload_n 2, 1) := by decide +kernel
theorem dX10_shutIn_46 : decode cX10_shutIn 46 = .ok (.invokevirtual 282, 3) := by decide +kernel
theorem dX10_shutIn_49 : decode cX10_shutIn 49 = .ok (.ifCond .ne 5, 3) := by decide +kernel
theorem dX10_shutIn_52 : decode cX10_shutIn 52 = .ok (.iload_n 3, 1) := by decide +kernel
theorem dX10_shutIn_53 : decode cX10_shutIn 53 = .ok (.ireturn, 1) := by decide +kernel
theorem dX10_shutIn_54 : decode cX10_shutIn 54 = .ok (.iinc 3 1, 3) := by decide +kernel
theorem dX10_shutIn_57 : decode cX10_shutIn 57 = .ok (.goto (-29), 3) := by decide +kernel
theorem dX10_shutIn_60 : decode cX10_shutIn 60 = .ok (.bipush (-2), 2) := by decide +kernel
theorem dX10_shutIn_62 : decode cX10_shutIn 62 = .ok (.ireturn, 1) := by decide +kernel
theorem dX10_nextTine_0 : decode cX10_nextTine 0 = .ok (.aload_n 1, 1) := by decide +kernel
theorem dX10_nextTine_1 : decode cX10_nextTine 1 = .ok (.iload_n 2, 1) := by decide +kernel
theorem dX10_nextTine_2 : decode cX10_nextTine 2 = .ok (.iaload, 1) := by decide +kernel
theorem dX10_nextTine_3 : decode cX10_nextTine 3 = .ok (.aload_n 1, 1) := by decide +kernel
theorem dX10_nextTine_4 : decode cX10_nextTine 4 = .ok (.iload_n 2, 1) := by decide +kernel
theorem dX10_nextTine_5 : decode cX10_nextTine 5 = .ok (.iaload, 1) := by decide +kernel
theorem dX10_nextTine_6 : decode cX10_nextTine 6 = .ok (.aload_n 0, 1) := by decide +kernel
theorem dX10_nextTine_7 : decode cX10_nextTine 7 = .ok (.getfield 20, 3) := by decide +kernel
theorem dX10_nextTine_10 : decode cX10_nextTine 10 = .ok (.iconst 0, 1) := by decide +kernel
theorem dX10_nextTine_11 : decode cX10_nextTine 11 = .ok (.iaload, 1) := by decide +kernel
theorem dX10_nextTine_12 : decode cX10_nextTine 12 = .ok (.invokestatic 244, 3) := by decide +kernel
theorem dX10_nextTine_15 : decode cX10_nextTine 15 = .ok (.iconst 1, 1) := by decide +kernel
theorem dX10_nextTine_16 : decode cX10_nextTine 16 = .ok (.isub, 1) := by decide +kernel
theorem dX10_nextTine_17 : decode cX10_nextTine 17 = .ok (.aload_n 0, 1) := by decide +kernel
theorem dX10_nextTine_18 : decode cX10_nextTine 18 = .ok (.getfield 20, 3) := by decide +kernel
theorem dX10_nextTine_21 : decode cX10_nextTine 21 = .ok (.iconst 0, 1) := by decide +kernel
theorem dX10_nextTine_22 : decode cX10_nextTine 22 = .ok (.iaload, 1) := by decide +kernel
theorem dX10_nextTine_23 : decode cX10_nextTine 23 = .ok (.imul, 1) := by decide +kernel
theorem dX10_nextTine_24 : decode cX10_nextTine 24 = .ok (.isub, 1) := by decide +kernel
theorem dX10_nextTine_25 : decode cX10_nextTine 25 = .ok (.ireturn, 1) := by decide +kernel
theorem dX10_cheapestOf_0 : decode cX10_cheapestOf 0 = .ok (.bipush (-2), 2) := by decide +kernel
theorem dX10_cheapestOf_2 : decode cX10_cheapestOf 2 = .ok (.istore_n 3, 1) := by decide +kernel
theorem dX10_cheapestOf_3 : decode cX10_cheapestOf 3 = .ok (.iconst 0, 1) := by decide +kernel
theorem dX10_cheapestOf_4 : decode cX10_cheapestOf 4 = .ok (.istore 4, 2) := by decide +kernel
theorem dX10_cheapestOf_6 : decode cX10_cheapestOf 6 = .ok (.iload 4, 2) := by decide +kernel
theorem dX10_cheapestOf_8 : decode cX10_cheapestOf 8 = .ok (.aload_n 0, 1) := by decide +kernel
theorem dX10_cheapestOf_9 : decode cX10_cheapestOf 9 = .ok (.getfield 20, 3) := by decide +kernel
theorem dX10_cheapestOf_12 : decode cX10_cheapestOf 12 = .ok (.iconst 5, 1) := by decide +kernel
theorem dX10_cheapestOf_13 : decode cX10_cheapestOf 13 = .ok (.iaload, 1) := by decide +kernel
theorem dX10_cheapestOf_14 : decode cX10_cheapestOf 14 = .ok (.if_icmp .ge 43, 3) := by decide +kernel
theorem dX10_cheapestOf_17 : decode cX10_cheapestOf 17 = .ok (.aload_n 0, 1) := by decide +kernel
theorem dX10_cheapestOf_18 : decode cX10_cheapestOf 18 = .ok (.aload_n 1, 1) := by decide +kernel
theorem dX10_cheapestOf_19 : decode cX10_cheapestOf 19 = .ok (.iload 4, 2) := by decide +kernel
theorem dX10_cheapestOf_21 : decode cX10_cheapestOf 21 = .ok (.iload_n 2, 1) := by decide +kernel
theorem dX10_cheapestOf_22 : decode cX10_cheapestOf 22 = .ok (.invokevirtual 240, 3) := by decide +kernel
theorem dX10_cheapestOf_25 : decode cX10_cheapestOf 25 = .ok (.ifCond .eq 26, 3) := by decide +kernel
theorem dX10_cheapestOf_28 : decode cX10_cheapestOf 28 = .ok (.iload_n 3, 1) := by decide +kernel
theorem dX10_cheapestOf_29 : decode cX10_cheapestOf 29 = .ok (.ifCond .lt 19, 3) := by decide +kernel
theorem dX10_cheapestOf_32 : decode cX10_cheapestOf 32 = .ok (.aload_n 0, 1) := by decide +kernel
theorem dX10_cheapestOf_33 : decode cX10_cheapestOf 33 = .ok (.aload_n 1, 1) := by decide +kernel
theorem dX10_cheapestOf_34 : decode cX10_cheapestOf 34 = .ok (.iload 4, 2) := by decide +kernel
theorem dX10_cheapestOf_36 : decode cX10_cheapestOf 36 = .ok (.invokevirtual 296, 3) := by decide +kernel
theorem dX10_cheapestOf_39 : decode cX10_cheapestOf 39 = .ok (.aload_n 0, 1) := by decide +kernel
theorem dX10_cheapestOf_40 : decode cX10_cheapestOf 40 = .ok (.aload_n 1, 1) := by decide +kernel
theorem dX10_cheapestOf_41 : decode cX10_cheapestOf 41 = .ok (.iload_n 3, 1) := by decide +kernel
theorem dX10_cheapestOf_42 : decode cX10_cheapestOf 42 = .ok (.invokevirtual 296, 3) := by decide +kernel
theorem dX10_cheapestOf_45 : decode cX10_cheapestOf 45 = .ok (.if_icmp .ge 6, 3) := by decide +kernel
theorem dX10_cheapestOf_48 : decode cX10_cheapestOf 48 = .ok (.iload 4, 2) := by decide +kernel
theorem dX10_cheapestOf_50 : decode cX10_cheapestOf 50 = .ok (.istore_n 3, 1) := by decide +kernel
theorem dX10_cheapestOf_51 : decode cX10_cheapestOf 51 = .ok (.iinc 4 1, 3) := by decide +kernel
theorem dX10_cheapestOf_54 : decode cX10_cheapestOf 54 = .ok (.goto (-48), 3) := by decide +kernel
theorem dX10_cheapestOf_57 : decode cX10_cheapestOf 57 = .ok (.iload_n 3, 1) := by decide +kernel
theorem dX10_cheapestOf_58 : decode cX10_cheapestOf 58 = .ok (.ireturn, 1) := by decide +kernel
theorem dX10_payOf_0 : decode cX10_payOf 0 = .ok (.aload_n 0, 1) := by decide +kernel
theorem dX10_payOf_1 : decode cX10_payOf 1 = .ok (.iconst 0, 1) := by decide +kernel
theorem dX10_payOf_2 : decode cX10_payOf 2 = .ok (.invokevirtual 293, 3) := by decide +kernel
theorem dX10_payOf_5 : decode cX10_payOf 5 = .ok (.iconst 0, 1) := by decide +kernel
theorem dX10_payOf_6 : decode cX10_payOf 6 = .ok (.istore_n 3, 1) := by decide +kernel
theorem dX10_payOf_7 : decode cX10_payOf 7 = .ok (.aload_n 0, 1) := by decide +kernel
theorem dX10_payOf_8 : decode cX10_payOf 8 = .ok (.aload_n 0, 1) := by decide +kernel
theorem dX10_payOf_9 : decode cX10_payOf 9 = .ok (.getfield 35, 3) := by decide +kernel
theorem dX10_payOf_12 : decode cX10_payOf 12 = .ok (.iload_n 1, 1) := by decide +kernel
theorem dX10_payOf_13 : decode cX10_payOf 13 = .ok (.iload_n 2, 1) := by decide +kernel
theorem dX10_payOf_14 : decode cX10_payOf 14 = .ok (.invokevirtual 282, 3) := by decide +kernel
theorem dX10_payOf_17 : decode cX10_payOf 17 = .ok (.ifCond .ne 46, 3) := by decide +kernel
theorem dX10_payOf_20 : decode cX10_payOf 20 = .ok (.aload_n 0, 1) := by decide +kernel
theorem dX10_payOf_21 : decode cX10_payOf 21 = .ok (.aload_n 0, 1) := by decide +kernel
theorem dX10_payOf_22 : decode cX10_payOf 22 = .ok (.getfield 35, 3) := by decide +kernel
theorem dX10_payOf_25 : decode cX10_payOf 25 = .ok (.iload_n 1, 1) := by decide +kernel
theorem dX10_payOf_26 : decode cX10_payOf 26 = .ok (.invokevirtual 299, 3) := by decide +kernel
theorem dX10_payOf_29 : decode cX10_payOf 29 = .ok (.istore 4, 2) := by decide +kernel
theorem dX10_payOf_31 : decode cX10_payOf 31 = .ok (.aload_n 0, 1) := by decide +kernel
theorem dX10_payOf_32 : decode cX10_payOf 32 = .ok (.aload_n 0, 1) := by decide +kernel
theorem dX10_payOf_33 : decode cX10_payOf 33 = .ok (.getfield 35, 3) := by decide +kernel
theorem dX10_payOf_36 : decode cX10_payOf 36 = .ok (.iload 4, 2) := by decide +kernel
theorem dX10_payOf_38 : decode cX10_payOf 38 = .ok (.invokevirtual 296, 3) := by decide +kernel
theorem dX10_payOf_41 : decode cX10_payOf 41 = .ok (.istore 5, 2) := by decide +kernel
theorem dX10_payOf_43 : decode cX10_payOf 43 = .ok (.iload_n 3, 1) := by decide +kernel
theorem dX10_payOf_44 : decode cX10_payOf 44 = .ok (.iload 5, 2) := by decide +kernel
theorem dX10_payOf_46 : decode cX10_payOf 46 = .ok (.iadd, 1) := by decide +kernel
theorem dX10_payOf_47 : decode cX10_payOf 47 = .ok (.istore_n 3, 1) := by decide +kernel
theorem dX10_payOf_48 : decode cX10_payOf 48 = .ok (.aload_n 0, 1) := by decide +kernel
theorem dX10_payOf_49 : decode cX10_payOf 49 = .ok (.getfield 35, 3) := by decide +kernel
theorem dX10_payOf_52 : decode cX10_payOf 52 = .ok (.iload 4, 2) := by decide +kernel
theorem dX10_payOf_54 : decode cX10_payOf 54 = .ok (.dup2, 1) := by decide +kernel
theorem dX10_payOf_55 : decode cX10_payOf 55 = .ok (.iaload, 1) := by decide +kernel
theorem dX10_payOf_56 : decode cX10_payOf 56 = .ok (.iload 5, 2) := by decide +kernel
theorem dX10_payOf_58 : decode cX10_payOf 58 = .ok (.isub, 1) := by decide +kernel
theorem dX10_payOf_59 : decode cX10_payOf 59 = .ok (.iastore, 1) := by decide +kernel
theorem dX10_payOf_60 : decode cX10_payOf 60 = .ok (.goto (-53), 3) := by decide +kernel
theorem dX10_payOf_63 : decode cX10_payOf 63 = .ok (.iload_n 3, 1) := by decide +kernel
theorem dX10_payOf_64 : decode cX10_payOf 64 = .ok (.aload_n 0, 1) := by decide +kernel
theorem dX10_payOf_65 : decode cX10_payOf 65 = .ok (.getfield 26, 3) := by decide +kernel
theorem dX10_payOf_68 : decode cX10_payOf 68 = .ok (.bipush 7, 2) := by decide +kernel
theorem dX10_payOf_70 : decode cX10_payOf 70 = .ok (.iload_n 1, 1) := by decide +kernel
theorem dX10_payOf_71 : decode cX10_payOf 71 = .ok (.iadd, 1) := by decide +kernel
theorem dX10_payOf_72 : decode cX10_payOf 72 = .ok (.iaload, 1) := by decide +kernel
theorem dX10_payOf_73 : decode cX10_payOf 73 = .ok (.if_icmp .le 8, 3) := by decide +kernel
theorem dX10_payOf_76 : decode cX10_payOf 76 = .ok (.bipush (-2), 2) := by decide +kernel
theorem dX10_payOf_78 : decode cX10_payOf 78 = .ok (.goto 4, 3) := by decide +kernel
theorem dX10_payOf_81 : decode cX10_payOf 81 = .ok (.iload_n 3, 1) := by decide +kernel
theorem dX10_payOf_82 : decode cX10_payOf 82 = .ok (.ireturn, 1) := by decide +kernel
theorem dX10_payFor_0 : decode cX10_payFor 0 = .ok (.aload_n 0, 1) := by decide +kernel
theorem dX10_payFor_1 : decode cX10_payFor 1 = .ok (.invokevirtual 154, 3) := by decide +kernel
theorem dX10_payFor_4 : decode cX10_payFor 4 = .ok (.aload_n 0, 1) := by decide +kernel
theorem dX10_payFor_5 : decode cX10_payFor 5 = .ok (.iload_n 1, 1) := by decide +kernel
theorem dX10_payFor_6 : decode cX10_payFor 6 = .ok (.invokevirtual 264, 3) := by decide +kernel
theorem dX10_payFor_9 : decode cX10_payFor 9 = .ok (.ifCond .eq 20, 3) := by decide +kernel
theorem dX10_payFor_12 : decode cX10_payFor 12 = .ok (.aload_n 0, 1) := by decide +kernel
theorem dX10_payFor_13 : decode cX10_payFor 13 = .ok (.iload_n 2, 1) := by decide +kernel
theorem dX10_payFor_14 : decode cX10_payFor 14 = .ok (.invokevirtual 279, 3) := by decide +kernel
theorem dX10_payFor_17 : decode cX10_payFor 17 = .ok (.ifCond .eq 12, 3) := by decide +kernel
theorem dX10_payFor_20 : decode cX10_payFor 20 = .ok (.aload_n 0, 1) := by decide +kernel
theorem dX10_payFor_21 : decode cX10_payFor 21 = .ok (.iload_n 1, 1) := by decide +kernel
theorem dX10_payFor_22 : decode cX10_payFor 22 = .ok (.iload_n 2, 1) := by decide +kernel
theorem dX10_payFor_23 : decode cX10_payFor 23 = .ok (.invokevirtual 302, 3) := by decide +kernel
theorem dX10_payFor_26 : decode cX10_payFor 26 = .ok (.goto 8, 3) := by decide +kernel
theorem dX10_payFor_29 : decode cX10_payFor 29 = .ok (.aload_n 0, 1) := by decide +kernel
theorem dX10_payFor_30 : decode cX10_payFor 30 = .ok (.iconst 1, 1) := by decide +kernel
theorem dX10_payFor_31 : decode cX10_payFor 31 = .ok (.invokevirtual 157, 3) := by decide +kernel
theorem dX10_payFor_34 : decode cX10_payFor 34 = .ok (.ireturn, 1) := by decide +kernel
theorem dX10_payAll_0 : decode cX10_payAll 0 = .ok (.aload_n 0, 1) := by decide +kernel
theorem dX10_payAll_1 : decode cX10_payAll 1 = .ok (.invokevirtual 154, 3) := by decide +kernel
theorem dX10_payAll_4 : decode cX10_payAll 4 = .ok (.aload_n 0, 1) := by decide +kernel
theorem dX10_payAll_5 : decode cX10_payAll 5 = .ok (.getfield 167, 3) := by decide +kernel
theorem dX10_payAll_8 : decode cX10_payAll 8 = .ok (.ifCond .ne 9, 3) := by decide +kernel
theorem dX10_payAll_11 : decode cX10_payAll 11 = .ok (.aload_n 0, 1) := by decide +kernel
theorem dX10_payAll_12 : decode cX10_payAll 12 = .ok (.iconst 1, 1) := by decide +kernel
theorem dX10_payAll_13 : decode cX10_payAll 13 = .ok (.invokevirtual 157, 3) := by decide +kernel
theorem dX10_payAll_16 : decode cX10_payAll 16 = .ok (.ireturn, 1) := by decide +kernel
theorem dX10_payAll_17 : decode cX10_payAll 17 = .ok (.iconst 0, 1) := by decide +kernel
theorem dX10_payAll_18 : decode cX10_payAll 18 = .ok (.istore_n 1, 1) := by decide +kernel
theorem dX10_payAll_19 : decode cX10_payAll 19 = .ok (.iconst 0, 1) := by decide +kernel
theorem dX10_payAll_20 : decode cX10_payAll 20 = .ok (.istore_n 2, 1) := by decide +kernel
theorem dX10_payAll_21 : decode cX10_payAll 21 = .ok (.iload_n 2, 1) := by decide +kernel
theorem dX10_payAll_22 : decode cX10_payAll 22 = .ok (.aload_n 0, 1) := by decide +kernel
theorem dX10_payAll_23 : decode cX10_payAll 23 = .ok (.getfield 20, 3) := by decide +kernel
theorem dX10_payAll_26 : decode cX10_payAll 26 = .ok (.iconst 4, 1) := by decide +kernel
theorem dX10_payAll_27 : decode cX10_payAll 27 = .ok (.iaload, 1) := by decide +kernel
theorem dX10_payAll_28 : decode cX10_payAll 28 = .ok (.if_icmp .ge 53, 3) := by decide +kernel
theorem dX10_payAll_31 : decode cX10_payAll 31 = .ok (.aload_n 0, 1) := by decide +kernel
theorem dX10_payAll_32 : decode cX10_payAll 32 = .ok (.getfield 20, 3) := by decide +kernel
theorem dX10_payAll_35 : decode cX10_payAll 35 = .ok (.bipush 73, 2) := by decide +kernel
theorem dX10_payAll_37 : decode cX10_payAll 37 = .ok (.iload_n 2, 1) := by decide +kernel
theorem dX10_payAll_38 : decode cX10_payAll 38 = .ok (.iadd, 1) := by decide +kernel
theorem dX10_payAll_39 : decode cX10_payAll 39 = .ok (.iaload, 1) := by decide +kernel
theorem dX10_payAll_40 : decode cX10_payAll 40 = .ok (.ifCond .ne 7, 3) := by decide +kernel
theorem dX10_payAll_43 : decode cX10_payAll 43 = .ok (.iconst 0, 1) := by decide +kernel
theorem dX10_payAll_44 : decode cX10_payAll 44 = .ok (.goto 19, 3) := by decide +kernel
theorem dX10_payAll_47 : decode cX10_payAll 47 = .ok (.aload_n 0, 1) := by decide +kernel
theorem dX10_payAll_48 : decode cX10_payAll 48 = .ok (.iload_n 2, 1) := by decide +kernel
theorem dX10_payAll_49 : decode cX10_payAll 49 = .ok (.aload_n 0, 1) := by decide +kernel
theorem dX10_payAll_50 : decode cX10_payAll 50 = .ok (.getfield 20, 3) := by decide +kernel
theorem dX10_payAll_53 : decode cX10_payAll 53 = .ok (.bipush 73, 2) := by decide +kernel
theorem dX10_payAll_55 : decode cX10_payAll 55 = .ok (.iload_n 2, 1) := by decide +kernel
theorem dX10_payAll_56 : decode cX10_payAll 56 = .ok (.iadd, 1) := by decide +kernel
theorem dX10_payAll_57 : decode cX10_payAll 57 = .ok (.iaload, 1) := by decide +kernel
theorem dX10_payAll_58 : decode cX10_payAll 58 = .ok (.iconst 1, 1) := by decide +kernel
theorem dX10_payAll_59 : decode cX10_payAll 59 = .ok (.isub, 1) := by decide +kernel
theorem dX10_payAll_60 : decode cX10_payAll 60 = .ok (.invokevirtual 302, 3) := by decide +kernel
theorem dX10_payAll_63 : decode cX10_payAll 63 = .ok (.istore_n 3, 1) := by decide +kernel
theorem dX10_payAll_64 : decode cX10_payAll 64 = .ok (.iload_n 3, 1) := by decide +kernel
theorem dX10_payAll_65 : decode cX10_payAll 65 = .ok (.ifCond .ge 6, 3) := by decide +kernel
theorem dX10_payAll_68 : decode cX10_payAll 68 = .ok (.bipush (-2), 2) := by decide +kernel
theorem dX10_payAll_70 : decode cX10_payAll 70 = .ok (.ireturn, 1) := by decide +kernel
theorem dX10_payAll_71 : decode cX10_payAll 71 = .ok (.iload_n 1, 1) := by decide +kernel
theorem dX10_payAll_72 : decode cX10_payAll 72 = .ok (.iload_n 3, 1) := by decide +kernel
theorem dX10_payAll_73 : decode cX10_payAll 73 = .ok (.iadd, 1) := by decide +kernel
theorem dX10_payAll_74 : decode cX10_payAll 74 = .ok (.istore_n 1, 1) := by decide +kernel
theorem dX10_payAll_75 : decode cX10_payAll 75 = .ok (.iinc 2 1, 3) := by decide +kernel
theorem dX10_payAll_78 : decode cX10_payAll 78 = .ok (.goto (-57), 3) := by decide +kernel
theorem dX10_payAll_81 : decode cX10_payAll 81 = .ok (.iload_n 1, 1) := by decide +kernel
theorem dX10_payAll_82 : decode cX10_payAll 82 = .ok (.ireturn, 1) := by decide +kernel
theorem dX10_passers_0 : decode cX10_passers 0 = .ok (.aload_n 0, 1) := by decide +kernel
theorem dX10_passers_1 : decode cX10_passers 1 = .ok (.invokevirtual 154, 3) := by decide +kernel
theorem dX10_passers_4 : decode cX10_passers 4 = .ok (.aload_n 0, 1) := by decide +kernel
theorem dX10_passers_5 : decode cX10_passers 5 = .ok (.iconst 0, 1) := by decide +kernel
theorem dX10_passers_6 : decode cX10_passers 6 = .ok (.putfield 247, 3) := by decide +kernel
theorem dX10_passers_9 : decode cX10_passers 9 = .ok (.aload_n 0, 1) := by decide +kernel
theorem dX10_passers_10 : decode cX10_passers 10 = .ok (.getfield 167, 3) := by decide +kernel
theorem dX10_passers_13 : decode cX10_passers 13 = .ok (.ifCond .ne 9, 3) := by decide +kernel
theorem dX10_passers_16 : decode cX10_passers 16 = .ok (.aload_n 0, 1) := by decide +kernel
theorem dX10_passers_17 : decode cX10_passers 17 = .ok (.iconst 1, 1) := by decide +kernel
theorem dX10_passers_18 : decode cX10_passers 18 = .ok (.invokevirtual 157, 3) := by decide +kernel
theorem dX10_passers_21 : decode cX10_passers 21 = .ok (.ireturn, 1) := by decide +kernel
theorem dX10_passers_22 : decode cX10_passers 22 = .ok (.iconst 0, 1) := by decide +kernel
theorem dX10_passers_23 : decode cX10_passers 23 = .ok (.istore_n 1, 1) := by decide +kernel
theorem dX10_passers_24 : decode cX10_passers 24 = .ok (.iconst 0, 1) := by decide +kernel
theorem dX10_passers_25 : decode cX10_passers 25 = .ok (.istore_n 2, 1) := by decide +kernel
theorem dX10_passers_26 : decode cX10_passers 26 = .ok (.iload_n 2, 1) := by decide +kernel
theorem dX10_passers_27 : decode cX10_passers 27 = .ok (.aload_n 0, 1) := by decide +kernel
theorem dX10_passers_28 : decode cX10_passers 28 = .ok (.getfield 20, 3) := by decide +kernel
theorem dX10_passers_31 : decode cX10_passers 31 = .ok (.iconst 4, 1) := by decide +kernel
theorem dX10_passers_32 : decode cX10_passers 32 = .ok (.iaload, 1) := by decide +kernel
theorem dX10_passers_33 : decode cX10_passers 33 = .ok (.if_icmp .ge 54, 3) := by decide +kernel
theorem dX10_passers_36 : decode cX10_passers 36 = .ok (.iload_n 1, 1) := by decide +kernel
theorem dX10_passers_37 : decode cX10_passers 37 = .ok (.aload_n 0, 1) := by decide +kernel
theorem dX10_passers_38 : decode cX10_passers 38 = .ok (.getfield 20, 3) := by decide +kernel
theorem dX10_passers_41 : decode cX10_passers 41 = .ok (.bipush 73, 2) := by decide +kernel
theorem dX10_passers_43 : decode cX10_passers 43 = .ok (.iload_n 2, 1) := by decide +kernel
theorem dX10_passers_44 : decode cX10_passers 44 = .ok (.iadd, 1) := by decide +kernel
theorem dX10_passers_45 : decode cX10_passers 45 = .ok (.iaload, 1) := by decide +kernel
theorem dX10_passers_46 : decode cX10_passers 46 = .ok (.ifCond .le 32, 3) := by decide +kernel
theorem dX10_passers_49 : decode cX10_passers 49 = .ok (.aload_n 0, 1) := by decide +kernel
theorem dX10_passers_50 : decode cX10_passers 50 = .ok (.aload_n 0, 1) := by decide +kernel
theorem dX10_passers_51 : decode cX10_passers 51 = .ok (.getfield 26, 3) := by decide +kernel
theorem dX10_passers_54 : decode cX10_passers 54 = .ok (.iload_n 2, 1) := by decide +kernel
theorem dX10_passers_55 : decode cX10_passers 55 = .ok (.aload_n 0, 1) := by decide +kernel
theorem dX10_passers_56 : decode cX10_passers 56 = .ok (.getfield 20, 3) := by decide +kernel
theorem dX10_passers_59 : decode cX10_passers 59 = .ok (.bipush 73, 2) := by decide +kernel
theorem dX10_passers_61 : decode cX10_passers 61 = .ok (.iload_n 2, 1) := by decide +kernel
theorem dX10_passers_62 : decode cX10_passers 62 = .ok (.iadd, 1) := by decide +kernel
theorem dX10_passers_63 : decode cX10_passers 63 = .ok (.iaload, 1) := by decide +kernel
theorem dX10_passers_64 : decode cX10_passers 64 = .ok (.iconst 1, 1) := by decide +kernel
theorem dX10_passers_65 : decode cX10_passers 65 = .ok (.isub, 1) := by decide +kernel
theorem dX10_passers_66 : decode cX10_passers 66 = .ok (.invokevirtual 282, 3) := by decide +kernel
theorem dX10_passers_69 : decode cX10_passers 69 = .ok (.ifCond .eq 9, 3) := by decide +kernel
theorem dX10_passers_72 : decode cX10_passers 72 = .ok (.iconst 1, 1) := by decide +kernel
theorem dX10_passers_73 : decode cX10_passers 73 = .ok (.iload_n 2, 1) := by decide +kernel
theorem dX10_passers_74 : decode cX10_passers 74 = .ok (.ishl, 1) := by decide +kernel
theorem dX10_passers_75 : decode cX10_passers 75 = .ok (.goto 4, 3) := by decide +kernel
theorem dX10_passers_78 : decode cX10_passers 78 = .ok (.iconst 0, 1) := by decide +kernel
theorem dX10_passers_79 : decode cX10_passers 79 = .ok (.ior, 1) := by decide +kernel
theorem dX10_passers_80 : decode cX10_passers 80 = .ok (.istore_n 1, 1) := by decide +kernel
theorem dX10_passers_81 : decode cX10_passers 81 = .ok (.iinc 2 1, 3) := by decide +kernel
theorem dX10_passers_84 : decode cX10_passers 84 = .ok (.goto (-58), 3) := by decide +kernel
theorem dX10_passers_87 : decode cX10_passers 87 = .ok (.iload_n 1, 1) := by decide +kernel
theorem dX10_passers_88 : decode cX10_passers 88 = .ok (.ireturn, 1) := by decide +kernel
theorem dX10_shamed_0 : decode cX10_shamed 0 = .ok (.aload_n 0, 1) := by decide +kernel
theorem dX10_shamed_1 : decode cX10_shamed 1 = .ok (.invokevirtual 154, 3) := by decide +kernel
theorem dX10_shamed_4 : decode cX10_shamed 4 = .ok (.aload_n 0, 1) := by decide +kernel
theorem dX10_shamed_5 : decode cX10_shamed 5 = .ok (.getfield 167, 3) := by decide +kernel
theorem dX10_shamed_8 : decode cX10_shamed 8 = .ok (.ifCond .ne 9, 3) := by decide +kernel
theorem dX10_shamed_11 : decode cX10_shamed 11 = .ok (.aload_n 0, 1) := by decide +kernel
theorem dX10_shamed_12 : decode cX10_shamed 12 = .ok (.iconst 1, 1) := by decide +kernel
theorem dX10_shamed_13 : decode cX10_shamed 13 = .ok (.invokevirtual 157, 3) := by decide +kernel
theorem dX10_shamed_16 : decode cX10_shamed 16 = .ok (.ireturn, 1) := by decide +kernel
theorem dX10_shamed_17 : decode cX10_shamed 17 = .ok (.iconst 0, 1) := by decide +kernel
theorem dX10_shamed_18 : decode cX10_shamed 18 = .ok (.istore_n 1, 1) := by decide +kernel
theorem dX10_shamed_19 : decode cX10_shamed 19 = .ok (.iconst 0, 1) := by decide +kernel
theorem dX10_shamed_20 : decode cX10_shamed 20 = .ok (.istore_n 2, 1) := by decide +kernel
theorem dX10_shamed_21 : decode cX10_shamed 21 = .ok (.iload_n 2, 1) := by decide +kernel
theorem dX10_shamed_22 : decode cX10_shamed 22 = .ok (.aload_n 0, 1) := by decide +kernel
theorem dX10_shamed_23 : decode cX10_shamed 23 = .ok (.getfield 20, 3) := by decide +kernel
theorem dX10_shamed_26 : decode cX10_shamed 26 = .ok (.iconst 4, 1) := by decide +kernel
theorem dX10_shamed_27 : decode cX10_shamed 27 = .ok (.iaload, 1) := by decide +kernel
theorem dX10_shamed_28 : decode cX10_shamed 28 = .ok (.if_icmp .ge 50, 3) := by decide +kernel
theorem dX10_shamed_31 : decode cX10_shamed 31 = .ok (.iload_n 1, 1) := by decide +kernel
theorem dX10_shamed_32 : decode cX10_shamed 32 = .ok (.aload_n 0, 1) := by decide +kernel
theorem dX10_shamed_33 : decode cX10_shamed 33 = .ok (.getfield 20, 3) := by decide +kernel
theorem dX10_shamed_36 : decode cX10_shamed 36 = .ok (.bipush 73, 2) := by decide +kernel
theorem dX10_shamed_38 : decode cX10_shamed 38 = .ok (.iload_n 2, 1) := by decide +kernel
theorem dX10_shamed_39 : decode cX10_shamed 39 = .ok (.iadd, 1) := by decide +kernel
theorem dX10_shamed_40 : decode cX10_shamed 40 = .ok (.iaload, 1) := by decide +kernel
theorem dX10_shamed_41 : decode cX10_shamed 41 = .ok (.ifCond .le 28, 3) := by decide +kernel
theorem dX10_shamed_44 : decode cX10_shamed 44 = .ok (.aload_n 0, 1) := by decide +kernel
theorem dX10_shamed_45 : decode cX10_shamed 45 = .ok (.iload_n 2, 1) := by decide +kernel
theorem dX10_shamed_46 : decode cX10_shamed 46 = .ok (.aload_n 0, 1) := by decide +kernel
theorem dX10_shamed_47 : decode cX10_shamed 47 = .ok (.getfield 20, 3) := by decide +kernel
theorem dX10_shamed_50 : decode cX10_shamed 50 = .ok (.bipush 73, 2) := by decide +kernel
theorem dX10_shamed_52 : decode cX10_shamed 52 = .ok (.iload_n 2, 1) := by decide +kernel
theorem dX10_shamed_53 : decode cX10_shamed 53 = .ok (.iadd, 1) := by decide +kernel
theorem dX10_shamed_54 : decode cX10_shamed 54 = .ok (.iaload, 1) := by decide +kernel
theorem dX10_shamed_55 : decode cX10_shamed 55 = .ok (.iconst 1, 1) := by decide +kernel
theorem dX10_shamed_56 : decode cX10_shamed 56 = .ok (.isub, 1) := by decide +kernel
theorem dX10_shamed_57 : decode cX10_shamed 57 = .ok (.invokevirtual 302, 3) := by decide +kernel
theorem dX10_shamed_60 : decode cX10_shamed 60 = .ok (.ifCond .ge 9, 3) := by decide +kernel
theorem dX10_shamed_63 : decode cX10_shamed 63 = .ok (.iconst 1, 1) := by decide +kernel
theorem dX10_shamed_64 : decode cX10_shamed 64 = .ok (.iload_n 2, 1) := by decide +kernel
theorem dX10_shamed_65 : decode cX10_shamed 65 = .ok (.ishl, 1) := by decide +kernel
theorem dX10_shamed_66 : decode cX10_shamed 66 = .ok (.goto 4, 3) := by decide +kernel
theorem dX10_shamed_69 : decode cX10_shamed 69 = .ok (.iconst 0, 1) := by decide +kernel
theorem dX10_shamed_70 : decode cX10_shamed 70 = .ok (.ior, 1) := by decide +kernel
theorem dX10_shamed_71 : decode cX10_shamed 71 = .ok (.istore_n 1, 1) := by decide +kernel
theorem dX10_shamed_72 : decode cX10_shamed 72 = .ok (.iinc 2 1, 3) := by decide +kernel
theorem dX10_shamed_75 : decode cX10_shamed 75 = .ok (.goto (-54), 3) := by decide +kernel
theorem dX10_shamed_78 : decode cX10_shamed 78 = .ok (.iload_n 1, 1) := by decide +kernel
theorem dX10_shamed_79 : decode cX10_shamed 79 = .ok (.ireturn, 1) := by decide +kernel
theorem dX10_cheapest_0 : decode cX10_cheapest 0 = .ok (.aload_n 0, 1) := by decide +kernel
theorem dX10_cheapest_1 : decode cX10_cheapest 1 = .ok (.invokevirtual 154, 3) := by decide +kernel
theorem dX10_cheapest_4 : decode cX10_cheapest 4 = .ok (.aload_n 0, 1) := by decide +kernel
theorem dX10_cheapest_5 : decode cX10_cheapest 5 = .ok (.iload_n 1, 1) := by decide +kernel
theorem dX10_cheapest_6 : decode cX10_cheapest 6 = .ok (.invokevirtual 264, 3) := by decide +kernel
theorem dX10_cheapest_9 : decode cX10_cheapest 9 = .ok (.ifCond .eq 15, 3) := by decide +kernel
theorem dX10_cheapest_12 : decode cX10_cheapest 12 = .ok (.aload_n 0, 1) := by decide +kernel
theorem dX10_cheapest_13 : decode cX10_cheapest 13 = .ok (.aload_n 0, 1) := by decide +kernel
theorem dX10_cheapest_14 : decode cX10_cheapest 14 = .ok (.getfield 26, 3) := by decide +kernel
theorem dX10_cheapest_17 : decode cX10_cheapest 17 = .ok (.iload_n 1, 1) := by decide +kernel
theorem dX10_cheapest_18 : decode cX10_cheapest 18 = .ok (.invokevirtual 299, 3) := by decide +kernel
theorem dX10_cheapest_21 : decode cX10_cheapest 21 = .ok (.goto 8, 3) := by decide +kernel
theorem dX10_cheapest_24 : decode cX10_cheapest 24 = .ok (.aload_n 0, 1) := by decide +kernel
theorem dX10_cheapest_25 : decode cX10_cheapest 25 = .ok (.iconst 1, 1) := by decide +kernel
theorem dX10_cheapest_26 : decode cX10_cheapest 26 = .ok (.invokevirtual 157, 3) := by decide +kernel
theorem dX10_cheapest_29 : decode cX10_cheapest 29 = .ok (.ireturn, 1) := by decide +kernel
theorem dX10_widthFor_0 : decode cX10_widthFor 0 = .ok (.aload_n 0, 1) := by decide +kernel
theorem dX10_widthFor_1 : decode cX10_widthFor 1 = .ok (.invokevirtual 154, 3) := by decide +kernel
theorem dX10_widthFor_4 : decode cX10_widthFor 4 = .ok (.aload_n 0, 1) := by decide +kernel
theorem dX10_widthFor_5 : decode cX10_widthFor 5 = .ok (.iconst 0, 1) := by decide +kernel
theorem dX10_widthFor_6 : decode cX10_widthFor 6 = .ok (.putfield 247, 3) := by decide +kernel
theorem dX10_widthFor_9 : decode cX10_widthFor 9 = .ok (.aload_n 0, 1) := by decide +kernel
theorem dX10_widthFor_10 : decode cX10_widthFor 10 = .ok (.aload_n 0, 1) := by decide +kernel
theorem dX10_widthFor_11 : decode cX10_widthFor 11 = .ok (.getfield 167, 3) := by decide +kernel
theorem dX10_widthFor_14 : decode cX10_widthFor 14 = .ok (.aload_n 0, 1) := by decide +kernel
theorem dX10_widthFor_15 : decode cX10_widthFor 15 = .ok (.getfield 167, 3) := by decide +kernel
theorem dX10_widthFor_18 : decode cX10_widthFor 18 = .ok (.ifCond .eq 21, 3) := by decide +kernel
theorem dX10_widthFor_21 : decode cX10_widthFor 21 = .ok (.iload_n 1, 1) := by decide +kernel
theorem dX10_widthFor_22 : decode cX10_widthFor 22 = .ok (.iconst 0, 1) := by decide +kernel
theorem dX10_widthFor_23 : decode cX10_widthFor 23 = .ok (.aload_n 0, 1) := by decide +kernel
theorem dX10_widthFor_24 : decode cX10_widthFor 24 = .ok (.getfield 20, 3) := by decide +kernel
theorem dX10_widthFor_27 : decode cX10_widthFor 27 = .ok (.iconst 4, 1) := by decide +kernel
theorem dX10_widthFor_28 : decode cX10_widthFor 28 = .ok (.iaload, 1) := by decide +kernel
theorem dX10_widthFor_29 : decode cX10_widthFor 29 = .ok (.invokestatic 139, 3) := by decide +kernel
theorem dX10_widthFor_32 : decode cX10_widthFor 32 = .ok (.ifCond .eq 7, 3) := by decide +kernel
theorem dX10_widthFor_35 : decode cX10_widthFor 35 = .ok (.iconst 1, 1) := by decide +kernel
theorem dX10_widthFor_36 : decode cX10_widthFor 36 = .ok (.goto 4, 3) := by decide +kernel
theorem dX10_widthFor_39 : decode cX10_widthFor 39 = .ok (.iconst 0, 1) := by decide +kernel
theorem dX10_widthFor_40 : decode cX10_widthFor 40 = .ok (.invokevirtual 289, 3) := by decide +kernel
theorem dX10_widthFor_43 : decode cX10_widthFor 43 = .ok (.istore_n 2, 1) := by decide +kernel
theorem dX10_widthFor_44 : decode cX10_widthFor 44 = .ok (.iload_n 2, 1) := by decide +kernel
theorem dX10_widthFor_45 : decode cX10_widthFor 45 = .ok (.ifCond .eq 9, 3) := by decide +kernel
theorem dX10_widthFor_48 : decode cX10_widthFor 48 = .ok (.aload_n 0, 1) := by decide +kernel
theorem dX10_widthFor_49 : decode cX10_widthFor 49 = .ok (.iload_n 2, 1) := by decide +kernel
theorem dX10_widthFor_50 : decode cX10_widthFor 50 = .ok (.invokevirtual 157, 3) := by decide +kernel
theorem dX10_widthFor_53 : decode cX10_widthFor 53 = .ok (.ireturn, 1) := by decide +kernel
theorem dX10_widthFor_54 : decode cX10_widthFor 54 = .ok (.iconst 0, 1) := by decide +kernel
theorem dX10_widthFor_55 : decode cX10_widthFor 55 = .ok (.istore_n 3, 1) := by decide +kernel
theorem dX10_widthFor_56 : decode cX10_widthFor 56 = .ok (.iconst 0, 1) := by decide +kernel
theorem dX10_widthFor_57 : decode cX10_widthFor 57 = .ok (.istore 4, 2) := by decide +kernel
theorem dX10_widthFor_59 : decode cX10_widthFor 59 = .ok (.iconst 0, 1) := by decide +kernel
theorem dX10_widthFor_60 : decode cX10_widthFor 60 = .ok (.istore 5, 2) := by decide +kernel
theorem dX10_widthFor_62 : decode cX10_widthFor 62 = .ok (.iload 5, 2) := by decide +kernel
theorem dX10_widthFor_64 : decode cX10_widthFor 64 = .ok (.aload_n 0, 1) := by decide +kernel
theorem dX10_widthFor_65 : decode cX10_widthFor 65 = .ok (.getfield 20, 3) := by decide +kernel
theorem dX10_widthFor_68 : decode cX10_widthFor 68 = .ok (.iconst 4, 1) := by decide +kernel
theorem dX10_widthFor_69 : decode cX10_widthFor 69 = .ok (.iaload, 1) := by decide +kernel
theorem dX10_widthFor_70 : decode cX10_widthFor 70 = .ok (.if_icmp .ge 33, 3) := by decide +kernel
theorem dX10_widthFor_73 : decode cX10_widthFor 73 = .ok (.iload 4, 2) := by decide +kernel
theorem dX10_widthFor_75 : decode cX10_widthFor 75 = .ok (.aload_n 0, 1) := by decide +kernel
theorem dX10_widthFor_76 : decode cX10_widthFor 76 = .ok (.aload_n 0, 1) := by decide +kernel
theorem dX10_widthFor_77 : decode cX10_widthFor 77 = .ok (.getfield 26, 3) := by decide +kernel
theorem dX10_widthFor_80 : decode cX10_widthFor 80 = .ok (.iload 5, 2) := by decide +kernel
theorem dX10_widthFor_82 : decode cX10_widthFor 82 = .ok (.invokevirtual 261, 3) := by decide +kernel
theorem dX10_widthFor_85 : decode cX10_widthFor 85 = .ok (.iload_n 3, 1) := by decide +kernel
theorem dX10_widthFor_86 : decode cX10_widthFor 86 = .ok (.if_icmp .gt 7, 3) := by decide +kernel
theorem dX10_widthFor_89 : decode cX10_widthFor 89 = .ok (.iconst 1, 1) := by decide +kernel
theorem dX10_widthFor_90 : decode cX10_widthFor 90 = .ok (.goto 4, 3) := by decide +kernel
theorem dX10_widthFor_93 : decode cX10_widthFor 93 = .ok (.iconst 0, 1) := by decide +kernel
theorem dX10_widthFor_94 : decode cX10_widthFor 94 = .ok (.iadd, 1) := by decide +kernel
theorem dX10_widthFor_95 : decode cX10_widthFor 95 = .ok (.istore 4, 2) := by decide +kernel
theorem dX10_widthFor_97 : decode cX10_widthFor 97 = .ok (.iinc 5 1, 3) := by decide +kernel
theorem dX10_widthFor_100 : decode cX10_widthFor 100 = .ok (.goto (-38), 3) := by decide +kernel
theorem dX10_widthFor_103 : decode cX10_widthFor 103 = .ok (.iload 4, 2) := by decide +kernel
theorem dX10_widthFor_105 : decode cX10_widthFor 105 = .ok (.iload_n 1, 1) := by decide +kernel
theorem dX10_widthFor_106 : decode cX10_widthFor 106 = .ok (.if_icmp .lt 13, 3) := by decide +kernel
theorem dX10_widthFor_109 : decode cX10_widthFor 109 = .ok (.iload_n 1, 1) := by decide +kernel
theorem dX10_widthFor_110 : decode cX10_widthFor 110 = .ok (.ifCond .ne 7, 3) := by decide +kernel
theorem dX10_widthFor_113 : decode cX10_widthFor 113 = .ok (.iconst 0, 1) := by decide +kernel
theorem dX10_widthFor_114 : decode cX10_widthFor 114 = .ok (.goto 4, 3) := by decide +kernel
theorem dX10_widthFor_117 : decode cX10_widthFor 117 = .ok (.iload_n 3, 1) := by decide +kernel
theorem dX10_widthFor_118 : decode cX10_widthFor 118 = .ok (.ireturn, 1) := by decide +kernel
theorem dX10_widthFor_119 : decode cX10_widthFor 119 = .ok (.iinc 3 1, 3) := by decide +kernel
theorem dX10_widthFor_122 : decode cX10_widthFor 122 = .ok (.goto (-66), 3) := by decide +kernel
theorem dX10_tryGuests_0 : decode cX10_tryGuests 0 = .ok (.iload_n 1, 1) := by decide +kernel
theorem dX10_tryGuests_1 : decode cX10_tryGuests 1 = .ok (.aload_n 0, 1) := by decide +kernel
theorem dX10_tryGuests_2 : decode cX10_tryGuests 2 = .ok (.getfield 20, 3) := by decide +kernel
theorem dX10_tryGuests_5 : decode cX10_tryGuests 5 = .ok (.iconst 4, 1) := by decide +kernel
theorem dX10_tryGuests_6 : decode cX10_tryGuests 6 = .ok (.iaload, 1) := by decide +kernel
theorem dX10_tryGuests_7 : decode cX10_tryGuests 7 = .ok (.if_icmp .ne 32, 3) := by decide +kernel
theorem dX10_tryGuests_10 : decode cX10_tryGuests 10 = .ok (.iload_n 3, 1) := by decide +kernel
theorem dX10_tryGuests_11 : decode cX10_tryGuests 11 = .ok (.aload_n 0, 1) := by decide +kernel
theorem dX10_tryGuests_12 : decode cX10_tryGuests 12 = .ok (.getfield 305, 3) := by decide +kernel
theorem dX10_tryGuests_15 : decode cX10_tryGuests 15 = .ok (.if_icmp .gt 4, 3) := by decide +kernel
theorem dX10_tryGuests_18 : decode cX10_tryGuests 18 = .ok (.return_, 1) := by decide +kernel
theorem dX10_tryGuests_19 : decode cX10_tryGuests 19 = .ok (.aload_n 0, 1) := by decide +kernel
theorem dX10_tryGuests_20 : decode cX10_tryGuests 20 = .ok (.iload_n 3, 1) := by decide +kernel
theorem dX10_tryGuests_21 : decode cX10_tryGuests 21 = .ok (.putfield 305, 3) := by decide +kernel
theorem dX10_tryGuests_24 : decode cX10_tryGuests 24 = .ok (.aload_n 0, 1) := by decide +kernel
theorem dX10_tryGuests_25 : decode cX10_tryGuests 25 = .ok (.getfield 38, 3) := by decide +kernel
theorem dX10_tryGuests_28 : decode cX10_tryGuests 28 = .ok (.iconst 0, 1) := by decide +kernel
theorem dX10_tryGuests_29 : decode cX10_tryGuests 29 = .ok (.aload_n 0, 1) := by decide +kernel
theorem dX10_tryGuests_30 : decode cX10_tryGuests 30 = .ok (.getfield 41, 3) := by decide +kernel
theorem dX10_tryGuests_33 : decode cX10_tryGuests 33 = .ok (.iconst 0, 1) := by decide +kernel
theorem dX10_tryGuests_34 : decode cX10_tryGuests 34 = .ok (.iconst 5, 1) := by decide +kernel
theorem dX10_tryGuests_35 : decode cX10_tryGuests 35 = .ok (.invokestatic 163, 3) := by decide +kernel
theorem dX10_tryGuests_38 : decode cX10_tryGuests 38 = .ok (.return_, 1) := by decide +kernel
theorem dX10_tryGuests_39 : decode cX10_tryGuests 39 = .ok (.iconst 0, 1) := by decide +kernel
theorem dX10_tryGuests_40 : decode cX10_tryGuests 40 = .ok (.istore 4, 2) := by decide +kernel
theorem dX10_tryGuests_42 : decode cX10_tryGuests 42 = .ok (.iload 4, 2) := by decide +kernel
theorem dX10_tryGuests_44 : decode cX10_tryGuests 44 = .ok (.aload_n 0, 1) := by decide +kernel
theorem dX10_tryGuests_45 : decode cX10_tryGuests 45 = .ok (.getfield 20, 3) := by decide +kernel
theorem dX10_tryGuests_48 : decode cX10_tryGuests 48 = .ok (.bipush 7, 2) := by decide +kernel
theorem dX10_tryGuests_50 : decode cX10_tryGuests 50 = .ok (.iaload, 1) := by decide +kernel
theorem dX10_tryGuests_51 : decode cX10_tryGuests 51 = .ok (.if_icmp .ge 59, 3) := by decide +kernel
theorem dX10_tryGuests_54 : decode cX10_tryGuests 54 = .ok (.iload_n 2, 1) := by decide +kernel
theorem dX10_tryGuests_55 : decode cX10_tryGuests 55 = .ok (.iload 4, 2) := by decide +kernel
theorem dX10_tryGuests_57 : decode cX10_tryGuests 57 = .ok (.invokestatic 250, 3) := by decide +kernel
theorem dX10_tryGuests_60 : decode cX10_tryGuests 60 = .ok (.ifCond .ne 44, 3) := by decide +kernel
theorem dX10_tryGuests_63 : decode cX10_tryGuests 63 = .ok (.aload_n 0, 1) := by decide +kernel
theorem dX10_tryGuests_64 : decode cX10_tryGuests 64 = .ok (.aload_n 0, 1) := by decide +kernel
theorem dX10_tryGuests_65 : decode cX10_tryGuests 65 = .ok (.getfield 26, 3) := by decide +kernel
theorem dX10_tryGuests_68 : decode cX10_tryGuests 68 = .ok (.iload_n 1, 1) := by decide +kernel
theorem dX10_tryGuests_69 : decode cX10_tryGuests 69 = .ok (.iload 4, 2) := by decide +kernel
theorem dX10_tryGuests_71 : decode cX10_tryGuests 71 = .ok (.invokevirtual 282, 3) := by decide +kernel
theorem dX10_tryGuests_74 : decode cX10_tryGuests 74 = .ok (.ifCond .ne 6, 3) := by decide +kernel
theorem dX10_tryGuests_77 : decode cX10_tryGuests 77 = .ok (.goto 27, 3) := by decide +kernel
theorem dX10_tryGuests_80 : decode cX10_tryGuests 80 = .ok (.aload_n 0, 1) := by decide +kernel
theorem dX10_tryGuests_81 : decode cX10_tryGuests 81 = .ok (.getfield 38, 3) := by decide +kernel
theorem dX10_tryGuests_84 : decode cX10_tryGuests 84 = .ok (.iload_n 1, 1) := by decide +kernel
theorem dX10_tryGuests_85 : decode cX10_tryGuests 85 = .ok (.iload 4, 2) := by decide +kernel
theorem dX10_tryGuests_87 : decode cX10_tryGuests 87 = .ok (.iastore, 1) := by decide +kernel
theorem dX10_tryGuests_88 : decode cX10_tryGuests 88 = .ok (.aload_n 0, 1) := by decide +kernel
theorem dX10_tryGuests_89 : decode cX10_tryGuests 89 = .ok (.iload_n 1, 1) := by decide +kernel
theorem dX10_tryGuests_90 : decode cX10_tryGuests 90 = .ok (.iconst 1, 1) := by decide +kernel
theorem dX10_tryGuests_91 : decode cX10_tryGuests 91 = .ok (.iadd, 1) := by decide +kernel
theorem dX10_tryGuests_92 : decode cX10_tryGuests 92 = .ok (.iload_n 2, 1) := by decide +kernel
theorem dX10_tryGuests_93 : decode cX10_tryGuests 93 = .ok (.iconst 1, 1) := by decide +kernel
theorem dX10_tryGuests_94 : decode cX10_tryGuests 94 = .ok (.iload 4, 2) := by decide +kernel
theorem dX10_tryGuests_96 : decode cX10_tryGuests 96 = .ok (.ishl, 1) := by decide +kernel
theorem dX10_tryGuests_97 : decode cX10_tryGuests 97 = .ok (.ior, 1) := by decide +kernel
theorem dX10_tryGuests_98 : decode cX10_tryGuests 98 = .ok (.iload_n 3, 1) := by decide +kernel
theorem dX10_tryGuests_99 : decode cX10_tryGuests 99 = .ok (.iconst 1, 1) := by decide +kernel
theorem dX10_tryGuests_100 : decode cX10_tryGuests 100 = .ok (.iadd, 1) := by decide +kernel
theorem dX10_tryGuests_101 : decode cX10_tryGuests 101 = .ok (.invokevirtual 308, 3) := by decide +kernel
theorem dX10_tryGuests_104 : decode cX10_tryGuests 104 = .ok (.iinc 4 1, 3) := by decide +kernel
theorem dX10_tryGuests_107 : decode cX10_tryGuests 107 = .ok (.goto (-65), 3) := by decide +kernel
theorem dX10_tryGuests_110 : decode cX10_tryGuests 110 = .ok (.aload_n 0, 1) := by decide +kernel
theorem dX10_tryGuests_111 : decode cX10_tryGuests 111 = .ok (.getfield 38, 3) := by decide +kernel
theorem dX10_tryGuests_114 : decode cX10_tryGuests 114 = .ok (.iload_n 1, 1) := by decide +kernel
theorem dX10_tryGuests_115 : decode cX10_tryGuests 115 = .ok (.bipush (-2), 2) := by decide +kernel
theorem dX10_tryGuests_117 : decode cX10_tryGuests 117 = .ok (.iastore, 1) := by decide +kernel
theorem dX10_tryGuests_118 : decode cX10_tryGuests 118 = .ok (.aload_n 0, 1) := by decide +kernel
theorem dX10_tryGuests_119 : decode cX10_tryGuests 119 = .ok (.iload_n 1, 1) := by decide +kernel
theorem dX10_tryGuests_120 : decode cX10_tryGuests 120 = .ok (.iconst 1, 1) := by decide +kernel
theorem dX10_tryGuests_121 : decode cX10_tryGuests 121 = .ok (.iadd, 1) := by decide +kernel
theorem dX10_tryGuests_122 : decode cX10_tryGuests 122 = .ok (.iload_n 2, 1) := by decide +kernel
theorem dX10_tryGuests_123 : decode cX10_tryGuests 123 = .ok (.iload_n 3, 1) := by decide +kernel
theorem dX10_tryGuests_124 : decode cX10_tryGuests 124 = .ok (.invokevirtual 308, 3) := by decide +kernel
theorem dX10_tryGuests_127 : decode cX10_tryGuests 127 = .ok (.return_, 1) := by decide +kernel
theorem dX10_seekGuests_0 : decode cX10_seekGuests 0 = .ok (.aload_n 0, 1) := by decide +kernel
theorem dX10_seekGuests_1 : decode cX10_seekGuests 1 = .ok (.iconst 0, 1) := by decide +kernel
theorem dX10_seekGuests_2 : decode cX10_seekGuests 2 = .ok (.putfield 247, 3) := by decide +kernel
theorem dX10_seekGuests_5 : decode cX10_seekGuests 5 = .ok (.aload_n 0, 1) := by decide +kernel
theorem dX10_seekGuests_6 : decode cX10_seekGuests 6 = .ok (.iconst (-1), 1) := by decide +kernel
theorem dX10_seekGuests_7 : decode cX10_seekGuests 7 = .ok (.putfield 305, 3) := by decide +kernel
theorem dX10_seekGuests_10 : decode cX10_seekGuests 10 = .ok (.aload_n 0, 1) := by decide +kernel
theorem dX10_seekGuests_11 : decode cX10_seekGuests 11 = .ok (.iconst 0, 1) := by decide +kernel
theorem dX10_seekGuests_12 : decode cX10_seekGuests 12 = .ok (.iconst 0, 1) := by decide +kernel
theorem dX10_seekGuests_13 : decode cX10_seekGuests 13 = .ok (.iconst 0, 1) := by decide +kernel
theorem dX10_seekGuests_14 : decode cX10_seekGuests 14 = .ok (.invokevirtual 308, 3) := by decide +kernel
theorem dX10_seekGuests_17 : decode cX10_seekGuests 17 = .ok (.return_, 1) := by decide +kernel
theorem dX10_guests_0 : decode cX10_guests 0 = .ok (.aload_n 0, 1) := by decide +kernel
theorem dX10_guests_1 : decode cX10_guests 1 = .ok (.invokevirtual 154, 3) := by decide +kernel
theorem dX10_guests_4 : decode cX10_guests 4 = .ok (.aload_n 0, 1) := by decide +kernel
theorem dX10_guests_5 : decode cX10_guests 5 = .ok (.getfield 167, 3) := by decide +kernel
theorem dX10_guests_8 : decode cX10_guests 8 = .ok (.ifCond .ne 9, 3) := by decide +kernel
theorem dX10_guests_11 : decode cX10_guests 11 = .ok (.aload_n 0, 1) := by decide +kernel
theorem dX10_guests_12 : decode cX10_guests 12 = .ok (.iconst 1, 1) := by decide +kernel
theorem dX10_guests_13 : decode cX10_guests 13 = .ok (.invokevirtual 157, 3) := by decide +kernel
theorem dX10_guests_16 : decode cX10_guests 16 = .ok (.ireturn, 1) := by decide +kernel
theorem dX10_guests_17 : decode cX10_guests 17 = .ok (.aload_n 0, 1) := by decide +kernel
theorem dX10_guests_18 : decode cX10_guests 18 = .ok (.invokevirtual 312, 3) := by decide +kernel
theorem dX10_guests_21 : decode cX10_guests 21 = .ok (.aload_n 0, 1) := by decide +kernel
theorem dX10_guests_22 : decode cX10_guests 22 = .ok (.getfield 305, 3) := by decide +kernel
theorem dX10_guests_25 : decode cX10_guests 25 = .ok (.ireturn, 1) := by decide +kernel
theorem dX10_doorOf_0 : decode cX10_doorOf 0 = .ok (.aload_n 0, 1) := by decide +kernel
theorem dX10_doorOf_1 : decode cX10_doorOf 1 = .ok (.invokevirtual 154, 3) := by decide +kernel
theorem dX10_doorOf_4 : decode cX10_doorOf 4 = .ok (.aload_n 0, 1) := by decide +kernel
theorem dX10_doorOf_5 : decode cX10_doorOf 5 = .ok (.iload_n 1, 1) := by decide +kernel
theorem dX10_doorOf_6 : decode cX10_doorOf 6 = .ok (.invokevirtual 264, 3) := by decide +kernel
theorem dX10_doorOf_9 : decode cX10_doorOf 9 = .ok (.ifCond .ne 9, 3) := by decide +kernel
theorem dX10_doorOf_12 : decode cX10_doorOf 12 = .ok (.aload_n 0, 1) := by decide +kernel
theorem dX10_doorOf_13 : decode cX10_doorOf 13 = .ok (.iconst 1, 1) := by decide +kernel
theorem dX10_doorOf_14 : decode cX10_doorOf 14 = .ok (.invokevirtual 157, 3) := by decide +kernel
theorem dX10_doorOf_17 : decode cX10_doorOf 17 = .ok (.ireturn, 1) := by decide +kernel
theorem dX10_doorOf_18 : decode cX10_doorOf 18 = .ok (.aload_n 0, 1) := by decide +kernel
theorem dX10_doorOf_19 : decode cX10_doorOf 19 = .ok (.invokevirtual 312, 3) := by decide +kernel
theorem dX10_doorOf_22 : decode cX10_doorOf 22 = .ok (.aload_n 0, 1) := by decide +kernel
theorem dX10_doorOf_23 : decode cX10_doorOf 23 = .ok (.getfield 41, 3) := by decide +kernel
theorem dX10_doorOf_26 : decode cX10_doorOf 26 = .ok (.iload_n 1, 1) := by decide +kernel
theorem dX10_doorOf_27 : decode cX10_doorOf 27 = .ok (.iaload, 1) := by decide +kernel
theorem dX10_doorOf_28 : decode cX10_doorOf 28 = .ok (.ireturn, 1) := by decide +kernel
theorem dX10_owesNow_0 : decode cX10_owesNow 0 = .ok (.aload_n 0, 1) := by decide +kernel
theorem dX10_owesNow_1 : decode cX10_owesNow 1 = .ok (.iload_n 1, 1) := by decide +kernel
theorem dX10_owesNow_2 : decode cX10_owesNow 2 = .ok (.iload_n 2, 1) := by decide +kernel
theorem dX10_owesNow_3 : decode cX10_owesNow 3 = .ok (.invokevirtual 267, 3) := by decide +kernel
theorem dX10_owesNow_6 : decode cX10_owesNow 6 = .ok (.ifCond .le 7, 3) := by decide +kernel
theorem dX10_owesNow_9 : decode cX10_owesNow 9 = .ok (.iconst 1, 1) := by decide +kernel
theorem dX10_owesNow_10 : decode cX10_owesNow 10 = .ok (.goto 4, 3) := by decide +kernel
theorem dX10_owesNow_13 : decode cX10_owesNow 13 = .ok (.iconst 0, 1) := by decide +kernel
theorem dX10_owesNow_14 : decode cX10_owesNow 14 = .ok (.ireturn, 1) := by decide +kernel
theorem dX10_tryRing_0 : decode cX10_tryRing 0 = .ok (.iload_n 1, 1) := by decide +kernel
theorem dX10_tryRing_1 : decode cX10_tryRing 1 = .ok (.iconst 2, 1) := by decide +kernel
theorem dX10_tryRing_2 : decode cX10_tryRing 2 = .ok (.if_icmp .lt 51, 3) := by decide +kernel
theorem dX10_tryRing_5 : decode cX10_tryRing 5 = .ok (.aload_n 0, 1) := by decide +kernel
theorem dX10_tryRing_6 : decode cX10_tryRing 6 = .ok (.aload_n 0, 1) := by decide +kernel
theorem dX10_tryRing_7 : decode cX10_tryRing 7 = .ok (.getfield 44, 3) := by decide +kernel
theorem dX10_tryRing_10 : decode cX10_tryRing 10 = .ok (.iload_n 1, 1) := by decide +kernel
theorem dX10_tryRing_11 : decode cX10_tryRing 11 = .ok (.iconst 1, 1) := by decide +kernel
theorem dX10_tryRing_12 : decode cX10_tryRing 12 = .ok (.isub, 1) := by decide +kernel
theorem dX10_tryRing_13 : decode cX10_tryRing 13 = .ok (.iaload, 1) := by decide +kernel
theorem dX10_tryRing_14 : decode cX10_tryRing 14 = .ok (.aload_n 0, 1) := by decide +kernel
theorem dX10_tryRing_15 : decode cX10_tryRing 15 = .ok (.getfield 44, 3) := by decide +kernel
theorem dX10_tryRing_18 : decode cX10_tryRing 18 = .ok (.iconst 0, 1) := by decide +kernel
theorem dX10_tryRing_19 : decode cX10_tryRing 19 = .ok (.iaload, 1) := by decide +kernel
theorem dX10_tryRing_20 : decode cX10_tryRing 20 = .ok (.invokevirtual 315, 3) := by decide +kernel
theorem dX10_tryRing_23 : decode cX10_tryRing 23 = .ok (.ifCond .eq 30, 3) := by decide +kernel
theorem dX10_tryRing_26 : decode cX10_tryRing 26 = .ok (.iload_n 1, 1) := by decide +kernel
theorem dX10_tryRing_27 : decode cX10_tryRing 27 = .ok (.aload_n 0, 1) := by decide +kernel
theorem dX10_tryRing_28 : decode cX10_tryRing 28 = .ok (.getfield 318, 3) := by decide +kernel
theorem dX10_tryRing_31 : decode cX10_tryRing 31 = .ok (.if_icmp .ge 22, 3) := by decide +kernel
theorem dX10_tryRing_34 : decode cX10_tryRing 34 = .ok (.aload_n 0, 1) := by decide +kernel
theorem dX10_tryRing_35 : decode cX10_tryRing 35 = .ok (.iload_n 1, 1) := by decide +kernel
theorem dX10_tryRing_36 : decode cX10_tryRing 36 = .ok (.putfield 318, 3) := by decide +kernel
theorem dX10_tryRing_39 : decode cX10_tryRing 39 = .ok (.aload_n 0, 1) := by decide +kernel
theorem dX10_tryRing_40 : decode cX10_tryRing 40 = .ok (.getfield 44, 3) := by decide +kernel
theorem dX10_tryRing_43 : decode cX10_tryRing 43 = .ok (.iconst 0, 1) := by decide +kernel
theorem dX10_tryRing_44 : decode cX10_tryRing 44 = .ok (.aload_n 0, 1) := by decide +kernel
theorem dX10_tryRing_45 : decode cX10_tryRing 45 = .ok (.getfield 47, 3) := by decide +kernel
theorem dX10_tryRing_48 : decode cX10_tryRing 48 = .ok (.iconst 0, 1) := by decide +kernel
theorem dX10_tryRing_49 : decode cX10_tryRing 49 = .ok (.iconst 5, 1) := by decide +kernel
theorem dX10_tryRing_50 : decode cX10_tryRing 50 = .ok (.invokestatic 163, 3) := by decide +kernel
theorem dX10_tryRing_53 : decode cX10_tryRing 53 = .ok (.iconst 0, 1) := by decide +kernel
theorem dX10_tryRing_54 : decode cX10_tryRing 54 = .ok (.istore_n 3, 1) := by decide +kernel
theorem dX10_tryRing_55 : decode cX10_tryRing 55 = .ok (.iload_n 3, 1) := by decide +kernel
theorem dX10_tryRing_56 : decode cX10_tryRing 56 = .ok (.aload_n 0, 1) := by decide +kernel
theorem dX10_tryRing_57 : decode cX10_tryRing 57 = .ok (.getfield 20, 3) := by decide +kernel
theorem dX10_tryRing_60 : decode cX10_tryRing 60 = .ok (.iconst 4, 1) := by decide +kernel
theorem dX10_tryRing_61 : decode cX10_tryRing 61 = .ok (.iaload, 1) := by decide +kernel
theorem dX10_tryRing_62 : decode cX10_tryRing 62 = .ok (.if_icmp .ge 55, 3) := by decide +kernel
theorem dX10_tryRing_65 : decode cX10_tryRing 65 = .ok (.iload_n 2, 1) := by decide +kernel
theorem dX10_tryRing_66 : decode cX10_tryRing 66 = .ok (.iload_n 3, 1) := by decide +kernel
theorem dX10_tryRing_67 : decode cX10_tryRing 67 = .ok (.invokestatic 250, 3) := by decide +kernel
theorem dX10_tryRing_70 : decode cX10_tryRing 70 = .ok (.ifCond .ne 41, 3) := by decide +kernel
theorem dX10_tryRing_73 : decode cX10_tryRing 73 = .ok (.aload_n 0, 1) := by decide +kernel
theorem dX10_tryRing_74 : decode cX10_tryRing 74 = .ok (.aload_n 0, 1) := by decide +kernel
theorem dX10_tryRing_75 : decode cX10_tryRing 75 = .ok (.getfield 44, 3) := by decide +kernel
theorem dX10_tryRing_78 : decode cX10_tryRing 78 = .ok (.iload_n 1, 1) := by decide +kernel
theorem dX10_tryRing_79 : decode cX10_tryRing 79 = .ok (.iconst 1, 1) := by decide +kernel
theorem dX10_tryRing_80 : decode cX10_tryRing 80 = .ok (.isub, 1) := by decide +kernel
theorem dX10_tryRing_81 : decode cX10_tryRing 81 = .ok (.iaload, 1) := by decide +kernel
theorem dX10_tryRing_82 : decode cX10_tryRing 82 = .ok (.iload_n 3, 1) := by decide +kernel
theorem dX10_tryRing_83 : decode cX10_tryRing 83 = .ok (.invokevirtual 315, 3) := by decide +kernel
theorem dX10_tryRing_86 : decode cX10_tryRing 86 = .ok (.ifCond .ne 6, 3) := by decide +kernel
theorem dX10_tryRing_89 : decode cX10_tryRing 89 = .ok (.goto 22, 3) := by decide +kernel
theorem dX10_tryRing_92 : decode cX10_tryRing 92 = .ok (.aload_n 0, 1) := by decide +kernel
theorem dX10_tryRing_93 : decode cX10_tryRing 93 = .ok (.getfield 44, 3) := by decide +kernel
theorem dX10_tryRing_96 : decode cX10_tryRing 96 = .ok (.iload_n 1, 1) := by decide +kernel
theorem dX10_tryRing_97 : decode cX10_tryRing 97 = .ok (.iload_n 3, 1) := by decide +kernel
theorem dX10_tryRing_98 : decode cX10_tryRing 98 = .ok (.iastore, 1) := by decide +kernel
theorem dX10_tryRing_99 : decode cX10_tryRing 99 = .ok (.aload_n 0, 1) := by decide +kernel
theorem dX10_tryRing_100 : decode cX10_tryRing 100 = .ok (.iload_n 1, 1) := by decide +kernel
theorem dX10_tryRing_101 : decode cX10_tryRing 101 = .ok (.iconst 1, 1) := by decide +kernel
theorem dX10_tryRing_102 : decode cX10_tryRing 102 = .ok (.iadd, 1) := by decide +kernel
theorem dX10_tryRing_103 : decode cX10_tryRing 103 = .ok (.iload_n 2, 1) := by decide +kernel
theorem dX10_tryRing_104 : decode cX10_tryRing 104 = .ok (.iconst 1, 1) := by decide +kernel
theorem dX10_tryRing_105 : decode cX10_tryRing 105 = .ok (.iload_n 3, 1) := by decide +kernel
theorem dX10_tryRing_106 : decode cX10_tryRing 106 = .ok (.ishl, 1) := by decide +kernel
theorem dX10_tryRing_107 : decode cX10_tryRing 107 = .ok (.ior, 1) := by decide +kernel
theorem dX10_tryRing_108 : decode cX10_tryRing 108 = .ok (.invokevirtual 321, 3) := by decide +kernel
theorem dX10_tryRing_111 : decode cX10_tryRing 111 = .ok (.iinc 3 1, 3) := by decide +kernel
theorem dX10_tryRing_114 : decode cX10_tryRing 114 = .ok (.goto (-59), 3) := by decide +kernel
theorem dX10_tryRing_117 : decode cX10_tryRing 117 = .ok (.return_, 1) := by decide +kernel
theorem dX10_seekRing_0 : decode cX10_seekRing 0 = .ok (.aload_n 0, 1) := by decide +kernel
theorem dX10_seekRing_1 : decode cX10_seekRing 1 = .ok (.ldc_w 324, 3) := by decide +kernel
theorem dX10_seekRing_4 : decode cX10_seekRing 4 = .ok (.putfield 318, 3) := by decide +kernel
theorem dX10_seekRing_7 : decode cX10_seekRing 7 = .ok (.aload_n 0, 1) := by decide +kernel
theorem dX10_seekRing_8 : decode cX10_seekRing 8 = .ok (.getfield 44, 3) := by decide +kernel
theorem dX10_seekRing_11 : decode cX10_seekRing 11 = .ok (.iconst 0, 1) := by decide +kernel
theorem dX10_seekRing_12 : decode cX10_seekRing 12 = .ok (.iload_n 1, 1) := by decide +kernel
theorem dX10_seekRing_13 : decode cX10_seekRing 13 = .ok (.iastore, 1) := by decide +kernel
theorem dX10_seekRing_14 : decode cX10_seekRing 14 = .ok (.aload_n 0, 1) := by decide +kernel
theorem dX10_seekRing_15 : decode cX10_seekRing 15 = .ok (.iconst 1, 1) := by decide +kernel
theorem dX10_seekRing_16 : decode cX10_seekRing 16 = .ok (.iconst 1, 1) := by decide +kernel
theorem dX10_seekRing_17 : decode cX10_seekRing 17 = .ok (.iload_n 1, 1) := by decide +kernel
theorem dX10_seekRing_18 : decode cX10_seekRing 18 = .ok (.ishl, 1) := by decide +kernel
theorem dX10_seekRing_19 : decode cX10_seekRing 19 = .ok (.invokevirtual 321, 3) := by decide +kernel
theorem dX10_seekRing_22 : decode cX10_seekRing 22 = .ok (.aload_n 0, 1) := by decide +kernel
theorem dX10_seekRing_23 : decode cX10_seekRing 23 = .ok (.getfield 318, 3) := by decide +kernel
theorem dX10_seekRing_26 : decode cX10_seekRing 26 = .ok (.ldc_w 324, 3) := by decide +kernel
theorem dX10_seekRing_29 : decode cX10_seekRing 29 = .ok (.if_icmp .ge 7, 3) := by decide +kernel
theorem dX10_seekRing_32 : decode cX10_seekRing 32 = .ok (.iconst 1, 1) := by decide +kernel
theorem dX10_seekRing_33 : decode cX10_seekRing 33 = .ok (.goto 4, 3) := by decide +kernel
theorem dX10_seekRing_36 : decode cX10_seekRing 36 = .ok (.iconst 0, 1) := by decide +kernel
theorem dX10_seekRing_37 : decode cX10_seekRing 37 = .ok (.ireturn, 1) := by decide +kernel
theorem dX10_sumOf_0 : decode cX10_sumOf 0 = .ok (.ldc_w 324, 3) := by decide +kernel
theorem dX10_sumOf_3 : decode cX10_sumOf 3 = .ok (.istore_n 1, 1) := by decide +kernel
theorem dX10_sumOf_4 : decode cX10_sumOf 4 = .ok (.iconst 0, 1) := by decide +kernel
theorem dX10_sumOf_5 : decode cX10_sumOf 5 = .ok (.istore_n 2, 1) := by decide +kernel
theorem dX10_sumOf_6 : decode cX10_sumOf 6 = .ok (.iload_n 2, 1) := by decide +kernel
theorem dX10_sumOf_7 : decode cX10_sumOf 7 = .ok (.aload_n 0, 1) := by decide +kernel
theorem dX10_sumOf_8 : decode cX10_sumOf 8 = .ok (.getfield 318, 3) := by decide +kernel
theorem dX10_sumOf_11 : decode cX10_sumOf 11 = .ok (.if_icmp .ge 44, 3) := by decide +kernel
theorem dX10_sumOf_14 : decode cX10_sumOf 14 = .ok (.aload_n 0, 1) := by decide +kernel
theorem dX10_sumOf_15 : decode cX10_sumOf 15 = .ok (.aload_n 0, 1) := by decide +kernel
theorem dX10_sumOf_16 : decode cX10_sumOf 16 = .ok (.getfield 47, 3) := by decide +kernel
theorem dX10_sumOf_19 : decode cX10_sumOf 19 = .ok (.iload_n 2, 1) := by decide +kernel
theorem dX10_sumOf_20 : decode cX10_sumOf 20 = .ok (.iaload, 1) := by decide +kernel
theorem dX10_sumOf_21 : decode cX10_sumOf 21 = .ok (.aload_n 0, 1) := by decide +kernel
theorem dX10_sumOf_22 : decode cX10_sumOf 22 = .ok (.getfield 47, 3) := by decide +kernel
theorem dX10_sumOf_25 : decode cX10_sumOf 25 = .ok (.iload_n 2, 1) := by decide +kernel
theorem dX10_sumOf_26 : decode cX10_sumOf 26 = .ok (.iconst 1, 1) := by decide +kernel
theorem dX10_sumOf_27 : decode cX10_sumOf 27 = .ok (.iadd, 1) := by decide +kernel
theorem dX10_sumOf_28 : decode cX10_sumOf 28 = .ok (.aload_n 0, 1) := by decide +kernel
theorem dX10_sumOf_29 : decode cX10_sumOf 29 = .ok (.getfield 318, 3) := by decide +kernel
theorem dX10_sumOf_32 : decode cX10_sumOf 32 = .ok (.irem, 1) := by decide +kernel
theorem dX10_sumOf_33 : decode cX10_sumOf 33 = .ok (.iaload, 1) := by decide +kernel
theorem dX10_sumOf_34 : decode cX10_sumOf 34 = .ok (.invokevirtual 267, 3) := by decide +kernel
theorem dX10_sumOf_37 : decode cX10_sumOf 37 = .ok (.istore_n 3, 1) := by decide +kernel
theorem dX10_sumOf_38 : decode cX10_sumOf 38 = .ok (.iload_n 3, 1) := by decide +kernel
theorem dX10_sumOf_39 : decode cX10_sumOf 39 = .ok (.iload_n 1, 1) := by decide +kernel
theorem dX10_sumOf_40 : decode cX10_sumOf 40 = .ok (.if_icmp .ge 7, 3) := by decide +kernel
theorem dX10_sumOf_43 : decode cX10_sumOf 43 = .ok (.iload_n 3, 1) := by decide +kernel
theorem dX10_sumOf_44 : decode cX10_sumOf 44 = .ok (.goto 4, 3) := by decide +kernel
theorem dX10_sumOf_47 : decode cX10_sumOf 47 = .ok (.iload_n 1, 1) := by decide +kernel
theorem dX10_sumOf_48 : decode cX10_sumOf 48 = .ok (.istore_n 1, 1) := by decide +kernel
theorem dX10_sumOf_49 : decode cX10_sumOf 49 = .ok (.iinc 2 1, 3) := by decide +kernel
theorem dX10_sumOf_52 : decode cX10_sumOf 52 = .ok (.goto (-46), 3) := by decide +kernel
theorem dX10_sumOf_55 : decode cX10_sumOf 55 = .ok (.iload_n 1, 1) := by decide +kernel
theorem dX10_sumOf_56 : decode cX10_sumOf 56 = .ok (.ireturn, 1) := by decide +kernel
theorem dX10_ring_0 : decode cX10_ring 0 = .ok (.aload_n 0, 1) := by decide +kernel
theorem dX10_ring_1 : decode cX10_ring 1 = .ok (.invokevirtual 154, 3) := by decide +kernel
theorem dX10_ring_4 : decode cX10_ring 4 = .ok (.aload_n 0, 1) := by decide +kernel
theorem dX10_ring_5 : decode cX10_ring 5 = .ok (.iload_n 1, 1) := by decide +kernel
theorem dX10_ring_6 : decode cX10_ring 6 = .ok (.invokevirtual 264, 3) := by decide +kernel
theorem dX10_ring_9 : decode cX10_ring 9 = .ok (.ifCond .ne 9, 3) := by decide +kernel
theorem dX10_ring_12 : decode cX10_ring 12 = .ok (.aload_n 0, 1) := by decide +kernel
theorem dX10_ring_13 : decode cX10_ring 13 = .ok (.iconst 1, 1) := by decide +kernel
theorem dX10_ring_14 : decode cX10_ring 14 = .ok (.invokevirtual 157, 3) := by decide +kernel
theorem dX10_ring_17 : decode cX10_ring 17 = .ok (.ireturn, 1) := by decide +kernel
theorem dX10_ring_18 : decode cX10_ring 18 = .ok (.aload_n 0, 1) := by decide +kernel
theorem dX10_ring_19 : decode cX10_ring 19 = .ok (.iload_n 1, 1) := by decide +kernel
theorem dX10_ring_20 : decode cX10_ring 20 = .ok (.invokevirtual 325, 3) := by decide +kernel
theorem dX10_ring_23 : decode cX10_ring 23 = .ok (.ifCond .eq 10, 3) := by decide +kernel
theorem dX10_ring_26 : decode cX10_ring 26 = .ok (.aload_n 0, 1) := by decide +kernel
theorem dX10_ring_27 : decode cX10_ring 27 = .ok (.getfield 318, 3) := by decide +kernel
theorem dX10_ring_30 : decode cX10_ring 30 = .ok (.goto 5, 3) := by decide +kernel
theorem dX10_ring_33 : decode cX10_ring 33 = .ok (.bipush (-2), 2) := by decide +kernel
theorem dX10_ring_35 : decode cX10_ring 35 = .ok (.ireturn, 1) := by decide +kernel
theorem dX10_ringAt_0 : decode cX10_ringAt 0 = .ok (.aload_n 0, 1) := by decide +kernel
theorem dX10_ringAt_1 : decode cX10_ringAt 1 = .ok (.invokevirtual 154, 3) := by decide +kernel
theorem dX10_ringAt_4 : decode cX10_ringAt 4 = .ok (.aload_n 0, 1) := by decide +kernel
theorem dX10_ringAt_5 : decode cX10_ringAt 5 = .ok (.iload_n 1, 1) := by decide +kernel
theorem dX10_ringAt_6 : decode cX10_ringAt 6 = .ok (.invokevirtual 264, 3) := by decide +kernel
theorem dX10_ringAt_9 : decode cX10_ringAt 9 = .ok (.ifCond .eq 25, 3) := by decide +kernel
theorem dX10_ringAt_12 : decode cX10_ringAt 12 = .ok (.aload_n 0, 1) := by decide +kernel
theorem dX10_ringAt_13 : decode cX10_ringAt 13 = .ok (.iload_n 1, 1) := by decide +kernel
theorem dX10_ringAt_14 : decode cX10_ringAt 14 = .ok (.invokevirtual 325, 3) := by decide +kernel
theorem dX10_ringAt_17 : decode cX10_ringAt 17 = .ok (.ifCond .eq 17, 3) := by decide +kernel
theorem dX10_ringAt_20 : decode cX10_ringAt 20 = .ok (.iload_n 2, 1) := by decide +kernel
theorem dX10_ringAt_21 : decode cX10_ringAt 21 = .ok (.iconst 0, 1) := by decide +kernel
theorem dX10_ringAt_22 : decode cX10_ringAt 22 = .ok (.aload_n 0, 1) := by decide +kernel
theorem dX10_ringAt_23 : decode cX10_ringAt 23 = .ok (.getfield 318, 3) := by decide +kernel
theorem dX10_ringAt_26 : decode cX10_ringAt 26 = .ok (.iconst 1, 1) := by decide +kernel
theorem dX10_ringAt_27 : decode cX10_ringAt 27 = .ok (.isub, 1) := by decide +kernel
theorem dX10_ringAt_28 : decode cX10_ringAt 28 = .ok (.invokestatic 139, 3) := by decide +kernel
theorem dX10_ringAt_31 : decode cX10_ringAt 31 = .ok (.ifCond .ne 9, 3) := by decide +kernel
theorem dX10_ringAt_34 : decode cX10_ringAt 34 = .ok (.aload_n 0, 1) := by decide +kernel
theorem dX10_ringAt_35 : decode cX10_ringAt 35 = .ok (.iconst 1, 1) := by decide +kernel
theorem dX10_ringAt_36 : decode cX10_ringAt 36 = .ok (.invokevirtual 157, 3) := by decide +kernel
theorem dX10_ringAt_39 : decode cX10_ringAt 39 = .ok (.ireturn, 1) := by decide +kernel
theorem dX10_ringAt_40 : decode cX10_ringAt 40 = .ok (.aload_n 0, 1) := by decide +kernel
theorem dX10_ringAt_41 : decode cX10_ringAt 41 = .ok (.getfield 47, 3) := by decide +kernel
theorem dX10_ringAt_44 : decode cX10_ringAt 44 = .ok (.iload_n 2, 1) := by decide +kernel
theorem dX10_ringAt_45 : decode cX10_ringAt 45 = .ok (.iaload, 1) := by decide +kernel
theorem dX10_ringAt_46 : decode cX10_ringAt 46 = .ok (.ireturn, 1) := by decide +kernel
theorem dX10_ringSum_0 : decode cX10_ringSum 0 = .ok (.aload_n 0, 1) := by decide +kernel
theorem dX10_ringSum_1 : decode cX10_ringSum 1 = .ok (.invokevirtual 154, 3) := by decide +kernel
theorem dX10_ringSum_4 : decode cX10_ringSum 4 = .ok (.aload_n 0, 1) := by decide +kernel
theorem dX10_ringSum_5 : decode cX10_ringSum 5 = .ok (.iload_n 1, 1) := by decide +kernel
theorem dX10_ringSum_6 : decode cX10_ringSum 6 = .ok (.invokevirtual 264, 3) := by decide +kernel
theorem dX10_ringSum_9 : decode cX10_ringSum 9 = .ok (.ifCond .ne 9, 3) := by decide +kernel
theorem dX10_ringSum_12 : decode cX10_ringSum 12 = .ok (.aload_n 0, 1) := by decide +kernel
theorem dX10_ringSum_13 : decode cX10_ringSum 13 = .ok (.iconst 1, 1) := by decide +kernel
theorem dX10_ringSum_14 : decode cX10_ringSum 14 = .ok (.invokevirtual 157, 3) := by decide +kernel
theorem dX10_ringSum_17 : decode cX10_ringSum 17 = .ok (.ireturn, 1) := by decide +kernel
theorem dX10_ringSum_18 : decode cX10_ringSum 18 = .ok (.aload_n 0, 1) := by decide +kernel
theorem dX10_ringSum_19 : decode cX10_ringSum 19 = .ok (.iload_n 1, 1) := by decide +kernel
theorem dX10_ringSum_20 : decode cX10_ringSum 20 = .ok (.invokevirtual 325, 3) := by decide +kernel
theorem dX10_ringSum_23 : decode cX10_ringSum 23 = .ok (.ifCond .eq 10, 3) := by decide +kernel
theorem dX10_ringSum_26 : decode cX10_ringSum 26 = .ok (.aload_n 0, 1) := by decide +kernel
theorem dX10_ringSum_27 : decode cX10_ringSum 27 = .ok (.invokevirtual 328, 3) := by decide +kernel
theorem dX10_ringSum_30 : decode cX10_ringSum 30 = .ok (.goto 5, 3) := by decide +kernel
theorem dX10_ringSum_33 : decode cX10_ringSum 33 = .ok (.bipush (-2), 2) := by decide +kernel
theorem dX10_ringSum_35 : decode cX10_ringSum 35 = .ok (.ireturn, 1) := by decide +kernel
theorem dX10_bestRing_0 : decode cX10_bestRing 0 = .ok (.aload_n 0, 1) := by decide +kernel
theorem dX10_bestRing_1 : decode cX10_bestRing 1 = .ok (.invokevirtual 154, 3) := by decide +kernel
theorem dX10_bestRing_4 : decode cX10_bestRing 4 = .ok (.aload_n 0, 1) := by decide +kernel
theorem dX10_bestRing_5 : decode cX10_bestRing 5 = .ok (.getfield 167, 3) := by decide +kernel
theorem dX10_bestRing_8 : decode cX10_bestRing 8 = .ok (.ifCond .ne 9, 3) := by decide +kernel
theorem dX10_bestRing_11 : decode cX10_bestRing 11 = .ok (.aload_n 0, 1) := by decide +kernel
theorem dX10_bestRing_12 : decode cX10_bestRing 12 = .ok (.iconst 1, 1) := by decide +kernel
theorem dX10_bestRing_13 : decode cX10_bestRing 13 = .ok (.invokevirtual 157, 3) := by decide +kernel
theorem dX10_bestRing_16 : decode cX10_bestRing 16 = .ok (.ireturn, 1) := by decide +kernel
theorem dX10_bestRing_17 : decode cX10_bestRing 17 = .ok (.bipush (-2), 2) := by decide +kernel
theorem dX10_bestRing_19 : decode cX10_bestRing 19 = .ok (.istore_n 1, 1) := by decide +kernel
theorem dX10_bestRing_20 : decode cX10_bestRing 20 = .ok (.iconst (-1), 1) := by decide +kernel
theorem dX10_bestRing_21 : decode cX10_bestRing 21 = .ok (.istore_n 2, 1) := by decide +kernel
theorem dX10_bestRing_22 : decode cX10_bestRing 22 = .ok (.iconst 0, 1) := by decide +kernel
theorem dX10_bestRing_23 : decode cX10_bestRing 23 = .ok (.istore_n 3, 1) := by decide +kernel
theorem dX10_bestRing_24 : decode cX10_bestRing 24 = .ok (.iload_n 3, 1) := by decide +kernel
theorem dX10_bestRing_25 : decode cX10_bestRing 25 = .ok (.aload_n 0, 1) := by decide +kernel
theorem dX10_bestRing_26 : decode cX10_bestRing 26 = .ok (.getfield 20, 3) := by decide +kernel
theorem dX10_bestRing_29 : decode cX10_bestRing 29 = .ok (.iconst 4, 1) := by decide +kernel
theorem dX10_bestRing_30 : decode cX10_bestRing 30 = .ok (.iaload, 1) := by decide +kernel
theorem dX10_bestRing_31 : decode cX10_bestRing 31 = .ok (.if_icmp .ge 46, 3) := by decide +kernel
theorem dX10_bestRing_34 : decode cX10_bestRing 34 = .ok (.aload_n 0, 1) := by decide +kernel
theorem dX10_bestRing_35 : decode cX10_bestRing 35 = .ok (.iload_n 3, 1) := by decide +kernel
theorem dX10_bestRing_36 : decode cX10_bestRing 36 = .ok (.invokevirtual 325, 3) := by decide +kernel
theorem dX10_bestRing_39 : decode cX10_bestRing 39 = .ok (.ifCond .eq 15, 3) := by decide +kernel
theorem dX10_bestRing_42 : decode cX10_bestRing 42 = .ok (.aload_n 0, 1) := by decide +kernel
theorem dX10_bestRing_43 : decode cX10_bestRing 43 = .ok (.invokevirtual 328, 3) := by decide +kernel
theorem dX10_bestRing_46 : decode cX10_bestRing 46 = .ok (.aload_n 0, 1) := by decide +kernel
theorem dX10_bestRing_47 : decode cX10_bestRing 47 = .ok (.getfield 318, 3) := by decide +kernel
theorem dX10_bestRing_50 : decode cX10_bestRing 50 = .ok (.imul, 1) := by decide +kernel
theorem dX10_bestRing_51 : decode cX10_bestRing 51 = .ok (.goto 4, 3) := by decide +kernel
theorem dX10_bestRing_54 : decode cX10_bestRing 54 = .ok (.iconst (-1), 1) := by decide +kernel
theorem dX10_bestRing_55 : decode cX10_bestRing 55 = .ok (.istore 4, 2) := by decide +kernel
theorem dX10_bestRing_57 : decode cX10_bestRing 57 = .ok (.iload 4, 2) := by decide +kernel
theorem dX10_bestRing_59 : decode cX10_bestRing 59 = .ok (.iload_n 2, 1) := by decide +kernel
theorem dX10_bestRing_60 : decode cX10_bestRing 60 = .ok (.if_icmp .gt 6, 3) := by decide +kernel
theorem dX10_bestRing_63 : decode cX10_bestRing 63 = .ok (.goto 8, 3) := by decide +kernel
theorem dX10_bestRing_66 : decode cX10_bestRing 66 = .ok (.iload_n 3, 1) := by decide +kernel
theorem dX10_bestRing_67 : decode cX10_bestRing 67 = .ok (.istore_n 1, 1) := by decide +kernel
theorem dX10_bestRing_68 : decode cX10_bestRing 68 = .ok (.iload 4, 2) := by decide +kernel
theorem dX10_bestRing_70 : decode cX10_bestRing 70 = .ok (.istore_n 2, 1) := by decide +kernel
theorem dX10_bestRing_71 : decode cX10_bestRing 71 = .ok (.iinc 3 1, 3) := by decide +kernel
theorem dX10_bestRing_74 : decode cX10_bestRing 74 = .ok (.goto (-50), 3) := by decide +kernel
theorem dX10_bestRing_77 : decode cX10_bestRing 77 = .ok (.iload_n 1, 1) := by decide +kernel
theorem dX10_bestRing_78 : decode cX10_bestRing 78 = .ok (.ireturn, 1) := by decide +kernel
theorem dX10_reach_0 : decode cX10_reach 0 = .ok (.aload_n 0, 1) := by decide +kernel
theorem dX10_reach_1 : decode cX10_reach 1 = .ok (.invokevirtual 154, 3) := by decide +kernel
theorem dX10_reach_4 : decode cX10_reach 4 = .ok (.aload_n 0, 1) := by decide +kernel
theorem dX10_reach_5 : decode cX10_reach 5 = .ok (.iload_n 1, 1) := by decide +kernel
theorem dX10_reach_6 : decode cX10_reach 6 = .ok (.invokevirtual 264, 3) := by decide +kernel
theorem dX10_reach_9 : decode cX10_reach 9 = .ok (.ifCond .ne 9, 3) := by decide +kernel
theorem dX10_reach_12 : decode cX10_reach 12 = .ok (.aload_n 0, 1) := by decide +kernel
theorem dX10_reach_13 : decode cX10_reach 13 = .ok (.iconst 1, 1) := by decide +kernel
theorem dX10_reach_14 : decode cX10_reach 14 = .ok (.invokevirtual 157, 3) := by decide +kernel
theorem dX10_reach_17 : decode cX10_reach 17 = .ok (.ireturn, 1) := by decide +kernel
theorem dX10_reach_18 : decode cX10_reach 18 = .ok (.aload_n 0, 1) := by decide +kernel
theorem dX10_reach_19 : decode cX10_reach 19 = .ok (.iload_n 1, 1) := by decide +kernel
theorem dX10_reach_20 : decode cX10_reach 20 = .ok (.invokevirtual 273, 3) := by decide +kernel
theorem dX10_reach_23 : decode cX10_reach 23 = .ok (.istore_n 2, 1) := by decide +kernel
theorem dX10_reach_24 : decode cX10_reach 24 = .ok (.iconst 0, 1) := by decide +kernel
theorem dX10_reach_25 : decode cX10_reach 25 = .ok (.istore_n 3, 1) := by decide +kernel
theorem dX10_reach_26 : decode cX10_reach 26 = .ok (.iload_n 3, 1) := by decide +kernel
theorem dX10_reach_27 : decode cX10_reach 27 = .ok (.iconst 5, 1) := by decide +kernel
theorem dX10_reach_28 : decode cX10_reach 28 = .ok (.if_icmp .ge 51, 3) := by decide +kernel
theorem dX10_reach_31 : decode cX10_reach 31 = .ok (.iconst 0, 1) := by decide +kernel
theorem dX10_reach_32 : decode cX10_reach 32 = .ok (.istore 4, 2) := by decide +kernel
theorem dX10_reach_34 : decode cX10_reach 34 = .ok (.iload 4, 2) := by decide +kernel
theorem dX10_reach_36 : decode cX10_reach 36 = .ok (.aload_n 0, 1) := by decide +kernel
theorem dX10_reach_37 : decode cX10_reach 37 = .ok (.getfield 20, 3) := by decide +kernel
theorem dX10_reach_40 : decode cX10_reach 40 = .ok (.iconst 4, 1) := by decide +kernel
theorem dX10_reach_41 : decode cX10_reach 41 = .ok (.iaload, 1) := by decide +kernel
theorem dX10_reach_42 : decode cX10_reach 42 = .ok (.if_icmp .ge 31, 3) := by decide +kernel
theorem dX10_reach_45 : decode cX10_reach 45 = .ok (.iload_n 2, 1) := by decide +kernel
theorem dX10_reach_46 : decode cX10_reach 46 = .ok (.iload_n 2, 1) := by decide +kernel
theorem dX10_reach_47 : decode cX10_reach 47 = .ok (.iload 4, 2) := by decide +kernel
theorem dX10_reach_49 : decode cX10_reach 49 = .ok (.invokestatic 250, 3) := by decide +kernel
theorem dX10_reach_52 : decode cX10_reach 52 = .ok (.ifCond .eq 12, 3) := by decide +kernel
theorem dX10_reach_55 : decode cX10_reach 55 = .ok (.aload_n 0, 1) := by decide +kernel
theorem dX10_reach_56 : decode cX10_reach 56 = .ok (.iload 4, 2) := by decide +kernel
theorem dX10_reach_58 : decode cX10_reach 58 = .ok (.invokevirtual 273, 3) := by decide +kernel
theorem dX10_reach_61 : decode cX10_reach 61 = .ok (.goto 4, 3) := by decide +kernel
theorem dX10_reach_64 : decode cX10_reach 64 = .ok (.iconst 0, 1) := by decide +kernel
theorem dX10_reach_65 : decode cX10_reach 65 = .ok (.ior, 1) := by decide +kernel
theorem dX10_reach_66 : decode cX10_reach 66 = .ok (.istore_n 2, 1) := by decide +kernel
theorem dX10_reach_67 : decode cX10_reach 67 = .ok (.iinc 4 1, 3) := by decide +kernel
theorem dX10_reach_70 : decode cX10_reach 70 = .ok (.goto (-36), 3) := by decide +kernel
theorem dX10_reach_73 : decode cX10_reach 73 = .ok (.iinc 3 1, 3) := by decide +kernel
theorem dX10_reach_76 : decode cX10_reach 76 = .ok (.goto (-50), 3) := by decide +kernel
theorem dX10_reach_79 : decode cX10_reach 79 = .ok (.iload_n 2, 1) := by decide +kernel
theorem dX10_reach_80 : decode cX10_reach 80 = .ok (.ireturn, 1) := by decide +kernel
theorem dX10_readAs_0 : decode cX10_readAs 0 = .ok (.iload_n 2, 1) := by decide +kernel
theorem dX10_readAs_1 : decode cX10_readAs 1 = .ok (.iload_n 1, 1) := by decide +kernel
theorem dX10_readAs_2 : decode cX10_readAs 2 = .ok (.if_icmp .ne 18, 3) := by decide +kernel
theorem dX10_readAs_5 : decode cX10_readAs 5 = .ok (.ldc2_w 331, 3) := by decide +kernel
theorem dX10_readAs_8 : decode cX10_readAs 8 = .ok (.bipush 100, 2) := by decide +kernel
theorem dX10_readAs_10 : decode cX10_readAs 10 = .ok (.aload_n 0, 1) := by decide +kernel
theorem dX10_readAs_11 : decode cX10_readAs 11 = .ok (.getfield 20, 3) := by decide +kernel
theorem dX10_readAs_14 : decode cX10_readAs 14 = .ok (.iconst 1, 1) := by decide +kernel
theorem dX10_readAs_15 : decode cX10_readAs 15 = .ok (.iaload, 1) := by decide +kernel
theorem dX10_readAs_16 : decode cX10_readAs 16 = .ok (.isub, 1) := by decide +kernel
theorem dX10_readAs_17 : decode cX10_readAs 17 = .ok (.i2l, 1) := by decide +kernel
theorem dX10_readAs_18 : decode cX10_readAs 18 = .ok (.lmul, 1) := by decide +kernel
theorem dX10_readAs_19 : decode cX10_readAs 19 = .ok (.lreturn, 1) := by decide +kernel
theorem dX10_readAs_20 : decode cX10_readAs 20 = .ok (.iload_n 1, 1) := by decide +kernel
theorem dX10_readAs_21 : decode cX10_readAs 21 = .ok (.ifCond .ne 24, 3) := by decide +kernel
theorem dX10_readAs_24 : decode cX10_readAs 24 = .ok (.iload_n 2, 1) := by decide +kernel
theorem dX10_readAs_25 : decode cX10_readAs 25 = .ok (.iconst 1, 1) := by decide +kernel
theorem dX10_readAs_26 : decode cX10_readAs 26 = .ok (.if_icmp .ne 17, 3) := by decide +kernel
theorem dX10_readAs_29 : decode cX10_readAs 29 = .ok (.ldc2_w 331, 3) := by decide +kernel
theorem dX10_readAs_32 : decode cX10_readAs 32 = .ok (.aload_n 0, 1) := by decide +kernel
theorem dX10_readAs_33 : decode cX10_readAs 33 = .ok (.getfield 20, 3) := by decide +kernel
theorem dX10_readAs_36 : decode cX10_readAs 36 = .ok (.iconst 1, 1) := by decide +kernel
theorem dX10_readAs_37 : decode cX10_readAs 37 = .ok (.iaload, 1) := by decide +kernel
theorem dX10_readAs_38 : decode cX10_readAs 38 = .ok (.i2l, 1) := by decide +kernel
theorem dX10_readAs_39 : decode cX10_readAs 39 = .ok (.lmul, 1) := by decide +kernel
theorem dX10_readAs_40 : decode cX10_readAs 40 = .ok (.goto 4, 3) := by decide +kernel
theorem dX10_readAs_43 : decode cX10_readAs 43 = .ok (.lconst 0, 1) := by decide +kernel
theorem dX10_readAs_44 : decode cX10_readAs 44 = .ok (.lreturn, 1) := by decide +kernel
theorem dX10_readAs_45 : decode cX10_readAs 45 = .ok (.iload_n 2, 1) := by decide +kernel
theorem dX10_readAs_46 : decode cX10_readAs 46 = .ok (.iload_n 1, 1) := by decide +kernel
theorem dX10_readAs_47 : decode cX10_readAs 47 = .ok (.iconst 1, 1) := by decide +kernel
theorem dX10_readAs_48 : decode cX10_readAs 48 = .ok (.iadd, 1) := by decide +kernel
theorem dX10_readAs_49 : decode cX10_readAs 49 = .ok (.if_icmp .eq 10, 3) := by decide +kernel
theorem dX10_readAs_52 : decode cX10_readAs 52 = .ok (.iload_n 2, 1) := by decide +kernel
theorem dX10_readAs_53 : decode cX10_readAs 53 = .ok (.iload_n 1, 1) := by decide +kernel
theorem dX10_readAs_54 : decode cX10_readAs 54 = .ok (.iconst 1, 1) := by decide +kernel
theorem dX10_readAs_55 : decode cX10_readAs 55 = .ok (.isub, 1) := by decide +kernel
theorem dX10_readAs_56 : decode cX10_readAs 56 = .ok (.if_icmp .ne 13, 3) := by decide +kernel
theorem dX10_readAs_59 : decode cX10_readAs 59 = .ok (.aload_n 0, 1) := by decide +kernel
theorem dX10_readAs_60 : decode cX10_readAs 60 = .ok (.getfield 20, 3) := by decide +kernel
theorem dX10_readAs_63 : decode cX10_readAs 63 = .ok (.iconst 1, 1) := by decide +kernel
theorem dX10_readAs_64 : decode cX10_readAs 64 = .ok (.iaload, 1) := by decide +kernel
theorem dX10_readAs_65 : decode cX10_readAs 65 = .ok (.i2l, 1) := by decide +kernel
theorem dX10_readAs_66 : decode cX10_readAs 66 = .ok (.goto 4, 3) := by decide +kernel
theorem dX10_readAs_69 : decode cX10_readAs 69 = .ok (.lconst 0, 1) := by decide +kernel
theorem dX10_readAs_70 : decode cX10_readAs 70 = .ok (.lreturn, 1) := by decide +kernel
theorem dX10_weightOf_0 : decode cX10_weightOf 0 = .ok (.aload_n 0, 1) := by decide +kernel
theorem dX10_weightOf_1 : decode cX10_weightOf 1 = .ok (.iload_n 1, 1) := by decide +kernel
theorem dX10_weightOf_2 : decode cX10_weightOf 2 = .ok (.putfield 247, 3) := by decide +kernel
theorem dX10_weightOf_5 : decode cX10_weightOf 5 = .ok (.lconst 1, 1) := by decide +kernel
theorem dX10_weightOf_6 : decode cX10_weightOf 6 = .ok (.lstore_n 2, 1) := by decide +kernel
theorem dX10_weightOf_7 : decode cX10_weightOf 7 = .ok (.iconst 0, 1) := by decide +kernel
theorem dX10_weightOf_8 : decode cX10_weightOf 8 = .ok (.istore 4, 2) := by decide +kernel
theorem dX10_weightOf_10 : decode cX10_weightOf 10 = .ok (.iload 4, 2) := by decide +kernel
theorem dX10_weightOf_12 : decode cX10_weightOf 12 = .ok (.aload_n 0, 1) := by decide +kernel
theorem dX10_weightOf_13 : decode cX10_weightOf 13 = .ok (.getfield 20, 3) := by decide +kernel
theorem dX10_weightOf_16 : decode cX10_weightOf 16 = .ok (.bipush 9, 2) := by decide +kernel
theorem dX10_weightOf_18 : decode cX10_weightOf 18 = .ok (.iaload, 1) := by decide +kernel
theorem dX10_weightOf_19 : decode cX10_weightOf 19 = .ok (.if_icmp .ge 50, 3) := by decide +kernel
theorem dX10_weightOf_22 : decode cX10_weightOf 22 = .ok (.lload_n 2, 1) := by decide +kernel
theorem dX10_weightOf_23 : decode cX10_weightOf 23 = .ok (.aload_n 0, 1) := by decide +kernel
theorem dX10_weightOf_24 : decode cX10_weightOf 24 = .ok (.aload_n 0, 1) := by decide +kernel
theorem dX10_weightOf_25 : decode cX10_weightOf 25 = .ok (.aload_n 0, 1) := by decide +kernel
theorem dX10_weightOf_26 : decode cX10_weightOf 26 = .ok (.getfield 26, 3) := by decide +kernel
theorem dX10_weightOf_29 : decode cX10_weightOf 29 = .ok (.aload_n 0, 1) := by decide +kernel
theorem dX10_weightOf_30 : decode cX10_weightOf 30 = .ok (.getfield 20, 3) := by decide +kernel
theorem dX10_weightOf_33 : decode cX10_weightOf 33 = .ok (.bipush 78, 2) := by decide +kernel
theorem dX10_weightOf_35 : decode cX10_weightOf 35 = .ok (.iconst 2, 1) := by decide +kernel
theorem dX10_weightOf_36 : decode cX10_weightOf 36 = .ok (.iload 4, 2) := by decide +kernel
theorem dX10_weightOf_38 : decode cX10_weightOf 38 = .ok (.imul, 1) := by decide +kernel
theorem dX10_weightOf_39 : decode cX10_weightOf 39 = .ok (.iadd, 1) := by decide +kernel
theorem dX10_weightOf_40 : decode cX10_weightOf 40 = .ok (.iaload, 1) := by decide +kernel
theorem dX10_weightOf_41 : decode cX10_weightOf 41 = .ok (.invokevirtual 261, 3) := by decide +kernel
theorem dX10_weightOf_44 : decode cX10_weightOf 44 = .ok (.aload_n 0, 1) := by decide +kernel
theorem dX10_weightOf_45 : decode cX10_weightOf 45 = .ok (.getfield 20, 3) := by decide +kernel
theorem dX10_weightOf_48 : decode cX10_weightOf 48 = .ok (.bipush 78, 2) := by decide +kernel
theorem dX10_weightOf_50 : decode cX10_weightOf 50 = .ok (.iconst 2, 1) := by decide +kernel
theorem dX10_weightOf_51 : decode cX10_weightOf 51 = .ok (.iload 4, 2) := by decide +kernel
theorem dX10_weightOf_53 : decode cX10_weightOf 53 = .ok (.imul, 1) := by decide +kernel
theorem dX10_weightOf_54 : decode cX10_weightOf 54 = .ok (.iadd, 1) := by decide +kernel
theorem dX10_weightOf_55 : decode cX10_weightOf 55 = .ok (.iconst 1, 1) := by decide +kernel
theorem dX10_weightOf_56 : decode cX10_weightOf 56 = .ok (.iadd, 1) := by decide +kernel
theorem dX10_weightOf_57 : decode cX10_weightOf 57 = .ok (.iaload, 1) := by decide +kernel
theorem dX10_weightOf_58 : decode cX10_weightOf 58 = .ok (.invokevirtual 333, 3) := by decide +kernel
theorem dX10_weightOf_61 : decode cX10_weightOf 61 = .ok (.lmul, 1) := by decide +kernel
theorem dX10_weightOf_62 : decode cX10_weightOf 62 = .ok (.lstore_n 2, 1) := by decide +kernel
theorem dX10_weightOf_63 : decode cX10_weightOf 63 = .ok (.iinc 4 1, 3) := by decide +kernel
theorem dX10_weightOf_66 : decode cX10_weightOf 66 = .ok (.goto (-56), 3) := by decide +kernel
theorem dX10_weightOf_69 : decode cX10_weightOf 69 = .ok (.lload_n 2, 1) := by decide +kernel
theorem dX10_weightOf_70 : decode cX10_weightOf 70 = .ok (.lreturn, 1) := by decide +kernel
theorem dX10_allSets_0 : decode cX10_allSets 0 = .ok (.iconst 1, 1) := by decide +kernel
theorem dX10_allSets_1 : decode cX10_allSets 1 = .ok (.aload_n 0, 1) := by decide +kernel
theorem dX10_allSets_2 : decode cX10_allSets 2 = .ok (.getfield 20, 3) := by decide +kernel
theorem dX10_allSets_5 : decode cX10_allSets 5 = .ok (.bipush 6, 2) := by decide +kernel
theorem dX10_allSets_7 : decode cX10_allSets 7 = .ok (.iaload, 1) := by decide +kernel
theorem dX10_allSets_8 : decode cX10_allSets 8 = .ok (.ishl, 1) := by decide +kernel
theorem dX10_allSets_9 : decode cX10_allSets 9 = .ok (.ireturn, 1) := by decide +kernel
theorem dX10_allWeight_0 : decode cX10_allWeight 0 = .ok (.lconst 0, 1) := by decide +kernel
theorem dX10_allWeight_1 : decode cX10_allWeight 1 = .ok (.lstore_n 1, 1) := by decide +kernel
theorem dX10_allWeight_2 : decode cX10_allWeight 2 = .ok (.iconst 0, 1) := by decide +kernel
theorem dX10_allWeight_3 : decode cX10_allWeight 3 = .ok (.istore_n 3, 1) := by decide +kernel
theorem dX10_allWeight_4 : decode cX10_allWeight 4 = .ok (.iload_n 3, 1) := by decide +kernel
theorem dX10_allWeight_5 : decode cX10_allWeight 5 = .ok (.aload_n 0, 1) := by decide +kernel
theorem dX10_allWeight_6 : decode cX10_allWeight 6 = .ok (.invokevirtual 337, 3) := by decide +kernel
theorem dX10_allWeight_9 : decode cX10_allWeight 9 = .ok (.if_icmp .ge 17, 3) := by decide +kernel
theorem dX10_allWeight_12 : decode cX10_allWeight 12 = .ok (.lload_n 1, 1) := by decide +kernel
theorem dX10_allWeight_13 : decode cX10_allWeight 13 = .ok (.aload_n 0, 1) := by decide +kernel
theorem dX10_allWeight_14 : decode cX10_allWeight 14 = .ok (.iload_n 3, 1) := by decide +kernel
theorem dX10_allWeight_15 : decode cX10_allWeight 15 = .ok (.invokevirtual 340, 3) := by decide +kernel
theorem dX10_allWeight_18 : decode cX10_allWeight 18 = .ok (.ladd, 1) := by decide +kernel
theorem dX10_allWeight_19 : decode cX10_allWeight 19 = .ok (.lstore_n 1, 1) := by decide +kernel
theorem dX10_allWeight_20 : decode cX10_allWeight 20 = .ok (.iinc 3 1, 3) := by decide +kernel
theorem dX10_allWeight_23 : decode cX10_allWeight 23 = .ok (.goto (-19), 3) := by decide +kernel
theorem dX10_allWeight_26 : decode cX10_allWeight 26 = .ok (.lload_n 1, 1) := by decide +kernel
theorem dX10_allWeight_27 : decode cX10_allWeight 27 = .ok (.lreturn, 1) := by decide +kernel
theorem dX10_odds_0 : decode cX10_odds 0 = .ok (.aload_n 0, 1) := by decide +kernel
theorem dX10_odds_1 : decode cX10_odds 1 = .ok (.invokevirtual 344, 3) := by decide +kernel
theorem dX10_odds_4 : decode cX10_odds 4 = .ok (.lstore 4, 2) := by decide +kernel
theorem dX10_odds_6 : decode cX10_odds 6 = .ok (.lload 4, 2) := by decide +kernel
theorem dX10_odds_8 : decode cX10_odds 8 = .ok (.lconst 0, 1) := by decide +kernel
theorem dX10_odds_9 : decode cX10_odds 9 = .ok (.lcmp, 1) := by decide +kernel
theorem dX10_odds_10 : decode cX10_odds 10 = .ok (.ifCond .ne 12, 3) := by decide +kernel
theorem dX10_odds_13 : decode cX10_odds 13 = .ok (.lconst 0, 1) := by decide +kernel
theorem dX10_odds_14 : decode cX10_odds 14 = .ok (.lconst 1, 1) := by decide +kernel
theorem dX10_odds_15 : decode cX10_odds 15 = .ok (.iload_n 3, 1) := by decide +kernel
theorem dX10_odds_16 : decode cX10_odds 16 = .ok (.invokestatic 348, 3) := by decide +kernel
theorem dX10_odds_19 : decode cX10_odds 19 = .ok (.goto 10, 3) := by decide +kernel
theorem dX10_odds_22 : decode cX10_odds 22 = .ok (.lload_n 1, 1) := by decide +kernel
theorem dX10_odds_23 : decode cX10_odds 23 = .ok (.lload 4, 2) := by decide +kernel
theorem dX10_odds_25 : decode cX10_odds 25 = .ok (.iload_n 3, 1) := by decide +kernel
theorem dX10_odds_26 : decode cX10_odds 26 = .ok (.invokestatic 348, 3) := by decide +kernel
theorem dX10_odds_29 : decode cX10_odds 29 = .ok (.lreturn, 1) := by decide +kernel
theorem dX10_seekFits_0 : decode cX10_seekFits 0 = .ok (.iconst (-1), 1) := by decide +kernel
theorem dX10_seekFits_1 : decode cX10_seekFits 1 = .ok (.istore_n 2, 1) := by decide +kernel
theorem dX10_seekFits_2 : decode cX10_seekFits 2 = .ok (.aload_n 0, 1) := by decide +kernel
theorem dX10_seekFits_3 : decode cX10_seekFits 3 = .ok (.iconst 0, 1) := by decide +kernel
theorem dX10_seekFits_4 : decode cX10_seekFits 4 = .ok (.putfield 352, 3) := by decide +kernel
theorem dX10_seekFits_7 : decode cX10_seekFits 7 = .ok (.iconst 0, 1) := by decide +kernel
theorem dX10_seekFits_8 : decode cX10_seekFits 8 = .ok (.istore_n 3, 1) := by decide +kernel
theorem dX10_seekFits_9 : decode cX10_seekFits 9 = .ok (.iload_n 3, 1) := by decide +kernel
theorem dX10_seekFits_10 : decode cX10_seekFits 10 = .ok (.aload_n 0, 1) := by decide +kernel
theorem dX10_seekFits_11 : decode cX10_seekFits 11 = .ok (.invokevirtual 337, 3) := by decide +kernel
theorem dX10_seekFits_14 : decode cX10_seekFits 14 = .ok (.if_icmp .ge 42, 3) := by decide +kernel
theorem dX10_seekFits_17 : decode cX10_seekFits 17 = .ok (.aload_n 0, 1) := by decide +kernel
theorem dX10_seekFits_18 : decode cX10_seekFits 18 = .ok (.iload_n 3, 1) := by decide +kernel
theorem dX10_seekFits_19 : decode cX10_seekFits 19 = .ok (.invokevirtual 340, 3) := by decide +kernel
theorem dX10_seekFits_22 : decode cX10_seekFits 22 = .ok (.lconst 0, 1) := by decide +kernel
theorem dX10_seekFits_23 : decode cX10_seekFits 23 = .ok (.lcmp, 1) := by decide +kernel
theorem dX10_seekFits_24 : decode cX10_seekFits 24 = .ok (.ifCond .ne 6, 3) := by decide +kernel
theorem dX10_seekFits_27 : decode cX10_seekFits 27 = .ok (.goto 23, 3) := by decide +kernel
theorem dX10_seekFits_30 : decode cX10_seekFits 30 = .ok (.aload_n 0, 1) := by decide +kernel
theorem dX10_seekFits_31 : decode cX10_seekFits 31 = .ok (.getfield 352, 3) := by decide +kernel
theorem dX10_seekFits_34 : decode cX10_seekFits 34 = .ok (.iload_n 1, 1) := by decide +kernel
theorem dX10_seekFits_35 : decode cX10_seekFits 35 = .ok (.if_icmp .ne 5, 3) := by decide +kernel
theorem dX10_seekFits_38 : decode cX10_seekFits 38 = .ok (.iload_n 3, 1) := by decide +kernel
theorem dX10_seekFits_39 : decode cX10_seekFits 39 = .ok (.istore_n 2, 1) := by decide +kernel
theorem dX10_seekFits_40 : decode cX10_seekFits 40 = .ok (.aload_n 0, 1) := by decide +kernel
theorem dX10_seekFits_41 : decode cX10_seekFits 41 = .ok (.dup, 1) := by decide +kernel
theorem dX10_seekFits_42 : decode cX10_seekFits 42 = .ok (.getfield 352, 3) := by decide +kernel
theorem dX10_seekFits_45 : decode cX10_seekFits 45 = .ok (.iconst 1, 1) := by decide +kernel
theorem dX10_seekFits_46 : decode cX10_seekFits 46 = .ok (.iadd, 1) := by decide +kernel
theorem dX10_seekFits_47 : decode cX10_seekFits 47 = .ok (.putfield 352, 3) := by decide +kernel
theorem dX10_seekFits_50 : decode cX10_seekFits 50 = .ok (.iinc 3 1, 3) := by decide +kernel
theorem dX10_seekFits_53 : decode cX10_seekFits 53 = .ok (.goto (-44), 3) := by decide +kernel
theorem dX10_seekFits_56 : decode cX10_seekFits 56 = .ok (.iload_n 2, 1) := by decide +kernel
theorem dX10_seekFits_57 : decode cX10_seekFits 57 = .ok (.ireturn, 1) := by decide +kernel
theorem dX10_fits_0 : decode cX10_fits 0 = .ok (.aload_n 0, 1) := by decide +kernel
theorem dX10_fits_1 : decode cX10_fits 1 = .ok (.invokevirtual 154, 3) := by decide +kernel
theorem dX10_fits_4 : decode cX10_fits 4 = .ok (.aload_n 0, 1) := by decide +kernel
theorem dX10_fits_5 : decode cX10_fits 5 = .ok (.getfield 167, 3) := by decide +kernel
theorem dX10_fits_8 : decode cX10_fits 8 = .ok (.ifCond .ne 9, 3) := by decide +kernel
theorem dX10_fits_11 : decode cX10_fits 11 = .ok (.aload_n 0, 1) := by decide +kernel
theorem dX10_fits_12 : decode cX10_fits 12 = .ok (.iconst 1, 1) := by decide +kernel
theorem dX10_fits_13 : decode cX10_fits 13 = .ok (.invokevirtual 157, 3) := by decide +kernel
theorem dX10_fits_16 : decode cX10_fits 16 = .ok (.ireturn, 1) := by decide +kernel
theorem dX10_fits_17 : decode cX10_fits 17 = .ok (.aload_n 0, 1) := by decide +kernel
theorem dX10_fits_18 : decode cX10_fits 18 = .ok (.iconst (-1), 1) := by decide +kernel
theorem dX10_fits_19 : decode cX10_fits 19 = .ok (.invokevirtual 355, 3) := by decide +kernel
theorem dX10_fits_22 : decode cX10_fits 22 = .ok (.pop, 1) := by decide +kernel
theorem dX10_fits_23 : decode cX10_fits 23 = .ok (.aload_n 0, 1) := by decide +kernel
theorem dX10_fits_24 : decode cX10_fits 24 = .ok (.getfield 352, 3) := by decide +kernel
theorem dX10_fits_27 : decode cX10_fits 27 = .ok (.ireturn, 1) := by decide +kernel
theorem dX10_fitAt_0 : decode cX10_fitAt 0 = .ok (.aload_n 0, 1) := by decide +kernel
theorem dX10_fitAt_1 : decode cX10_fitAt 1 = .ok (.invokevirtual 154, 3) := by decide +kernel
theorem dX10_fitAt_4 : decode cX10_fitAt 4 = .ok (.aload_n 0, 1) := by decide +kernel
theorem dX10_fitAt_5 : decode cX10_fitAt 5 = .ok (.getfield 167, 3) := by decide +kernel
theorem dX10_fitAt_8 : decode cX10_fitAt 8 = .ok (.ifCond .eq 7, 3) := by decide +kernel
theorem dX10_fitAt_11 : decode cX10_fitAt 11 = .ok (.iload_n 1, 1) := by decide +kernel
theorem dX10_fitAt_12 : decode cX10_fitAt 12 = .ok (.ifCond .ge 9, 3) := by decide +kernel
theorem dX10_fitAt_15 : decode cX10_fitAt 15 = .ok (.aload_n 0, 1) := by decide +kernel
theorem dX10_fitAt_16 : decode cX10_fitAt 16 = .ok (.iconst 1, 1) := by decide +kernel
theorem dX10_fitAt_17 : decode cX10_fitAt 17 = .ok (.invokevirtual 157, 3) := by decide +kernel
theorem dX10_fitAt_20 : decode cX10_fitAt 20 = .ok (.ireturn, 1) := by decide +kernel
theorem dX10_fitAt_21 : decode cX10_fitAt 21 = .ok (.aload_n 0, 1) := by decide +kernel
theorem dX10_fitAt_22 : decode cX10_fitAt 22 = .ok (.iload_n 1, 1) := by decide +kernel
theorem dX10_fitAt_23 : decode cX10_fitAt 23 = .ok (.invokevirtual 355, 3) := by decide +kernel
theorem dX10_fitAt_26 : decode cX10_fitAt 26 = .ok (.istore_n 2, 1) := by decide +kernel
theorem dX10_fitAt_27 : decode cX10_fitAt 27 = .ok (.iload_n 2, 1) := by decide +kernel
theorem dX10_fitAt_28 : decode cX10_fitAt 28 = .ok (.ifCond .ge 11, 3) := by decide +kernel
theorem dX10_fitAt_31 : decode cX10_fitAt 31 = .ok (.aload_n 0, 1) := by decide +kernel
theorem dX10_fitAt_32 : decode cX10_fitAt 32 = .ok (.iconst 1, 1) := by decide +kernel
theorem dX10_fitAt_33 : decode cX10_fitAt 33 = .ok (.invokevirtual 157, 3) := by decide +kernel
theorem dX10_fitAt_36 : decode cX10_fitAt 36 = .ok (.goto 4, 3) := by decide +kernel
theorem dX10_fitAt_39 : decode cX10_fitAt 39 = .ok (.iload_n 2, 1) := by decide +kernel
theorem dX10_fitAt_40 : decode cX10_fitAt 40 = .ok (.ireturn, 1) := by decide +kernel
theorem dX10_likely_0 : decode cX10_likely 0 = .ok (.aload_n 0, 1) := by decide +kernel
theorem dX10_likely_1 : decode cX10_likely 1 = .ok (.invokevirtual 154, 3) := by decide +kernel
theorem dX10_likely_4 : decode cX10_likely 4 = .ok (.aload_n 0, 1) := by decide +kernel
theorem dX10_likely_5 : decode cX10_likely 5 = .ok (.getfield 167, 3) := by decide +kernel
theorem dX10_likely_8 : decode cX10_likely 8 = .ok (.ifCond .eq 20, 3) := by decide +kernel
theorem dX10_likely_11 : decode cX10_likely 11 = .ok (.iload_n 1, 1) := by decide +kernel
theorem dX10_likely_12 : decode cX10_likely 12 = .ok (.iconst 0, 1) := by decide +kernel
theorem dX10_likely_13 : decode cX10_likely 13 = .ok (.aload_n 0, 1) := by decide +kernel
theorem dX10_likely_14 : decode cX10_likely 14 = .ok (.getfield 20, 3) := by decide +kernel
theorem dX10_likely_17 : decode cX10_likely 17 = .ok (.bipush 6, 2) := by decide +kernel
theorem dX10_likely_19 : decode cX10_likely 19 = .ok (.iaload, 1) := by decide +kernel
theorem dX10_likely_20 : decode cX10_likely 20 = .ok (.iconst 1, 1) := by decide +kernel
theorem dX10_likely_21 : decode cX10_likely 21 = .ok (.isub, 1) := by decide +kernel
theorem dX10_likely_22 : decode cX10_likely 22 = .ok (.invokestatic 139, 3) := by decide +kernel
theorem dX10_likely_25 : decode cX10_likely 25 = .ok (.ifCond .ne 10, 3) := by decide +kernel
theorem dX10_likely_28 : decode cX10_likely 28 = .ok (.aload_n 0, 1) := by decide +kernel
theorem dX10_likely_29 : decode cX10_likely 29 = .ok (.iconst 1, 1) := by decide +kernel
theorem dX10_likely_30 : decode cX10_likely 30 = .ok (.invokevirtual 157, 3) := by decide +kernel
theorem dX10_likely_33 : decode cX10_likely 33 = .ok (.i2l, 1) := by decide +kernel
theorem dX10_likely_34 : decode cX10_likely 34 = .ok (.lreturn, 1) := by decide +kernel
theorem dX10_likely_35 : decode cX10_likely 35 = .ok (.lconst 0, 1) := by decide +kernel
theorem dX10_likely_36 : decode cX10_likely 36 = .ok (.lstore_n 3, 1) := by decide +kernel
theorem dX10_likely_37 : decode cX10_likely 37 = .ok (.iconst 0, 1) := by decide +kernel
theorem dX10_likely_38 : decode cX10_likely 38 = .ok (.istore 5, 2) := by decide +kernel
theorem dX10_likely_40 : decode cX10_likely 40 = .ok (.iload 5, 2) := by decide +kernel
theorem dX10_likely_42 : decode cX10_likely 42 = .ok (.aload_n 0, 1) := by decide +kernel
theorem dX10_likely_43 : decode cX10_likely 43 = .ok (.invokevirtual 337, 3) := by decide +kernel
theorem dX10_likely_46 : decode cX10_likely 46 = .ok (.if_icmp .ge 31, 3) := by decide +kernel
theorem dX10_likely_49 : decode cX10_likely 49 = .ok (.lload_n 3, 1) := by decide +kernel
theorem dX10_likely_50 : decode cX10_likely 50 = .ok (.iload 5, 2) := by decide +kernel
theorem dX10_likely_52 : decode cX10_likely 52 = .ok (.iload_n 1, 1) := by decide +kernel
theorem dX10_likely_53 : decode cX10_likely 53 = .ok (.invokestatic 250, 3) := by decide +kernel
theorem dX10_likely_56 : decode cX10_likely 56 = .ok (.ifCond .eq 12, 3) := by decide +kernel
theorem dX10_likely_59 : decode cX10_likely 59 = .ok (.aload_n 0, 1) := by decide +kernel
theorem dX10_likely_60 : decode cX10_likely 60 = .ok (.iload 5, 2) := by decide +kernel
theorem dX10_likely_62 : decode cX10_likely 62 = .ok (.invokevirtual 340, 3) := by decide +kernel
theorem dX10_likely_65 : decode cX10_likely 65 = .ok (.goto 4, 3) := by decide +kernel
theorem dX10_likely_68 : decode cX10_likely 68 = .ok (.lconst 0, 1) := by decide +kernel
theorem dX10_likely_69 : decode cX10_likely 69 = .ok (.ladd, 1) := by decide +kernel
theorem dX10_likely_70 : decode cX10_likely 70 = .ok (.lstore_n 3, 1) := by decide +kernel
theorem dX10_likely_71 : decode cX10_likely 71 = .ok (.iinc 5 1, 3) := by decide +kernel
theorem dX10_likely_74 : decode cX10_likely 74 = .ok (.goto (-34), 3) := by decide +kernel
theorem dX10_likely_77 : decode cX10_likely 77 = .ok (.aload_n 0, 1) := by decide +kernel
theorem dX10_likely_78 : decode cX10_likely 78 = .ok (.lload_n 3, 1) := by decide +kernel
theorem dX10_likely_79 : decode cX10_likely 79 = .ok (.iload_n 2, 1) := by decide +kernel
theorem dX10_likely_80 : decode cX10_likely 80 = .ok (.invokevirtual 358, 3) := by decide +kernel
theorem dX10_likely_83 : decode cX10_likely 83 = .ok (.lreturn, 1) := by decide +kernel
theorem dX10_headIs_0 : decode cX10_headIs 0 = .ok (.aload_n 0, 1) := by decide +kernel
theorem dX10_headIs_1 : decode cX10_headIs 1 = .ok (.invokevirtual 154, 3) := by decide +kernel
theorem dX10_headIs_4 : decode cX10_headIs 4 = .ok (.aload_n 0, 1) := by decide +kernel
theorem dX10_headIs_5 : decode cX10_headIs 5 = .ok (.aload_n 0, 1) := by decide +kernel
theorem dX10_headIs_6 : decode cX10_headIs 6 = .ok (.iload_n 1, 1) := by decide +kernel
theorem dX10_headIs_7 : decode cX10_headIs 7 = .ok (.invokevirtual 264, 3) := by decide +kernel
theorem dX10_headIs_10 : decode cX10_headIs 10 = .ok (.iload_n 2, 1) := by decide +kernel
theorem dX10_headIs_11 : decode cX10_headIs 11 = .ok (.iconst 0, 1) := by decide +kernel
theorem dX10_headIs_12 : decode cX10_headIs 12 = .ok (.bipush 99, 2) := by decide +kernel
theorem dX10_headIs_14 : decode cX10_headIs 14 = .ok (.invokestatic 139, 3) := by decide +kernel
theorem dX10_headIs_17 : decode cX10_headIs 17 = .ok (.invokevirtual 289, 3) := by decide +kernel
theorem dX10_headIs_20 : decode cX10_headIs 20 = .ok (.istore 4, 2) := by decide +kernel
theorem dX10_headIs_22 : decode cX10_headIs 22 = .ok (.iload 4, 2) := by decide +kernel
theorem dX10_headIs_24 : decode cX10_headIs 24 = .ok (.ifCond .eq 11, 3) := by decide +kernel
theorem dX10_headIs_27 : decode cX10_headIs 27 = .ok (.aload_n 0, 1) := by decide +kernel
theorem dX10_headIs_28 : decode cX10_headIs 28 = .ok (.iload 4, 2) := by decide +kernel
theorem dX10_headIs_30 : decode cX10_headIs 30 = .ok (.invokevirtual 157, 3) := by decide +kernel
theorem dX10_headIs_33 : decode cX10_headIs 33 = .ok (.i2l, 1) := by decide +kernel
theorem dX10_headIs_34 : decode cX10_headIs 34 = .ok (.lreturn, 1) := by decide +kernel
theorem dX10_headIs_35 : decode cX10_headIs 35 = .ok (.lconst 0, 1) := by decide +kernel
theorem dX10_headIs_36 : decode cX10_headIs 36 = .ok (.lstore 5, 2) := by decide +kernel
theorem dX10_headIs_38 : decode cX10_headIs 38 = .ok (.iconst 0, 1) := by decide +kernel
theorem dX10_headIs_39 : decode cX10_headIs 39 = .ok (.istore 7, 2) := by decide +kernel
theorem dX10_headIs_41 : decode cX10_headIs 41 = .ok (.iload 7, 2) := by decide +kernel
theorem dX10_headIs_43 : decode cX10_headIs 43 = .ok (.aload_n 0, 1) := by decide +kernel
theorem dX10_headIs_44 : decode cX10_headIs 44 = .ok (.invokevirtual 337, 3) := by decide +kernel
theorem dX10_headIs_47 : decode cX10_headIs 47 = .ok (.if_icmp .ge 41, 3) := by decide +kernel
theorem dX10_headIs_50 : decode cX10_headIs 50 = .ok (.aload_n 0, 1) := by decide +kernel
theorem dX10_headIs_51 : decode cX10_headIs 51 = .ok (.iload 7, 2) := by decide +kernel
theorem dX10_headIs_53 : decode cX10_headIs 53 = .ok (.invokevirtual 340, 3) := by decide +kernel
theorem dX10_headIs_56 : decode cX10_headIs 56 = .ok (.lstore 8, 2) := by decide +kernel
theorem dX10_headIs_58 : decode cX10_headIs 58 = .ok (.lload 5, 2) := by decide +kernel
theorem dX10_headIs_60 : decode cX10_headIs 60 = .ok (.aload_n 0, 1) := by decide +kernel
theorem dX10_headIs_61 : decode cX10_headIs 61 = .ok (.aload_n 0, 1) := by decide +kernel
theorem dX10_headIs_62 : decode cX10_headIs 62 = .ok (.getfield 26, 3) := by decide +kernel
theorem dX10_headIs_65 : decode cX10_headIs 65 = .ok (.iload_n 1, 1) := by decide +kernel
theorem dX10_headIs_66 : decode cX10_headIs 66 = .ok (.invokevirtual 261, 3) := by decide +kernel
theorem dX10_headIs_69 : decode cX10_headIs 69 = .ok (.iload_n 2, 1) := by decide +kernel
theorem dX10_headIs_70 : decode cX10_headIs 70 = .ok (.if_icmp .ne 8, 3) := by decide +kernel
theorem dX10_headIs_73 : decode cX10_headIs 73 = .ok (.lload 8, 2) := by decide +kernel
theorem dX10_headIs_75 : decode cX10_headIs 75 = .ok (.goto 4, 3) := by decide +kernel
theorem dX10_headIs_78 : decode cX10_headIs 78 = .ok (.lconst 0, 1) := by decide +kernel
theorem dX10_headIs_79 : decode cX10_headIs 79 = .ok (.ladd, 1) := by decide +kernel
theorem dX10_headIs_80 : decode cX10_headIs 80 = .ok (.lstore 5, 2) := by decide +kernel
theorem dX10_headIs_82 : decode cX10_headIs 82 = .ok (.iinc 7 1, 3) := by decide +kernel
theorem dX10_headIs_85 : decode cX10_headIs 85 = .ok (.goto (-44), 3) := by decide +kernel
theorem dX10_headIs_88 : decode cX10_headIs 88 = .ok (.aload_n 0, 1) := by decide +kernel
theorem dX10_headIs_89 : decode cX10_headIs 89 = .ok (.lload 5, 2) := by decide +kernel
theorem dX10_headIs_91 : decode cX10_headIs 91 = .ok (.iload_n 3, 1) := by decide +kernel
theorem dX10_headIs_92 : decode cX10_headIs 92 = .ok (.invokevirtual 358, 3) := by decide +kernel
theorem dX10_headIs_95 : decode cX10_headIs 95 = .ok (.lreturn, 1) := by decide +kernel
theorem dX10_likeliest_0 : decode cX10_likeliest 0 = .ok (.aload_n 0, 1) := by decide +kernel
theorem dX10_likeliest_1 : decode cX10_likeliest 1 = .ok (.invokevirtual 154, 3) := by decide +kernel
theorem dX10_likeliest_4 : decode cX10_likeliest 4 = .ok (.aload_n 0, 1) := by decide +kernel
theorem dX10_likeliest_5 : decode cX10_likeliest 5 = .ok (.getfield 167, 3) := by decide +kernel
theorem dX10_likeliest_8 : decode cX10_likeliest 8 = .ok (.ifCond .ne 9, 3) := by decide +kernel
theorem dX10_likeliest_11 : decode cX10_likeliest 11 = .ok (.aload_n 0, 1) := by decide +kernel
theorem dX10_likeliest_12 : decode cX10_likeliest 12 = .ok (.iconst 1, 1) := by decide +kernel
theorem dX10_likeliest_13 : decode cX10_likeliest 13 = .ok (.invokevirtual 157, 3) := by decide +kernel
theorem dX10_likeliest_16 : decode cX10_likeliest 16 = .ok (.ireturn, 1) := by decide +kernel
theorem dX10_likeliest_17 : decode cX10_likeliest 17 = .ok (.bipush (-2), 2) := by decide +kernel
theorem dX10_likeliest_19 : decode cX10_likeliest 19 = .ok (.istore_n 1, 1) := by decide +kernel
theorem dX10_likeliest_20 : decode cX10_likeliest 20 = .ok (.lconst 0, 1) := by decide +kernel
theorem dX10_likeliest_21 : decode cX10_likeliest 21 = .ok (.lstore_n 2, 1) := by decide +kernel
theorem dX10_likeliest_22 : decode cX10_likeliest 22 = .ok (.iconst 0, 1) := by decide +kernel
theorem dX10_likeliest_23 : decode cX10_likeliest 23 = .ok (.istore 4, 2) := by decide +kernel
theorem dX10_likeliest_25 : decode cX10_likeliest 25 = .ok (.iload 4, 2) := by decide +kernel
theorem dX10_likeliest_27 : decode cX10_likeliest 27 = .ok (.aload_n 0, 1) := by decide +kernel
theorem dX10_likeliest_28 : decode cX10_likeliest 28 = .ok (.invokevirtual 337, 3) := by decide +kernel
theorem dX10_likeliest_31 : decode cX10_likeliest 31 = .ok (.if_icmp .ge 33, 3) := by decide +kernel
theorem dX10_likeliest_34 : decode cX10_likeliest 34 = .ok (.aload_n 0, 1) := by decide +kernel
theorem dX10_likeliest_35 : decode cX10_likeliest 35 = .ok (.iload 4, 2) := by decide +kernel
theorem dX10_likeliest_37 : decode cX10_likeliest 37 = .ok (.invokevirtual 340, 3) := by decide +kernel
theorem dX10_likeliest_40 : decode cX10_likeliest 40 = .ok (.lstore 5, 2) := by decide +kernel
theorem dX10_likeliest_42 : decode cX10_likeliest 42 = .ok (.lload 5, 2) := by decide +kernel
theorem dX10_likeliest_44 : decode cX10_likeliest 44 = .ok (.lload_n 2, 1) := by decide +kernel
theorem dX10_likeliest_45 : decode cX10_likeliest 45 = .ok (.lcmp, 1) := by decide +kernel
theorem dX10_likeliest_46 : decode cX10_likeliest 46 = .ok (.ifCond .gt 6, 3) := by decide +kernel
theorem dX10_likeliest_49 : decode cX10_likeliest 49 = .ok (.goto 9, 3) := by decide +kernel
theorem dX10_likeliest_52 : decode cX10_likeliest 52 = .ok (.iload 4, 2) := by decide +kernel
theorem dX10_likeliest_54 : decode cX10_likeliest 54 = .ok (.istore_n 1, 1) := by decide +kernel
theorem dX10_likeliest_55 : decode cX10_likeliest 55 = .ok (.lload 5, 2) := by decide +kernel
theorem dX10_likeliest_57 : decode cX10_likeliest 57 = .ok (.lstore_n 2, 1) := by decide +kernel
theorem dX10_likeliest_58 : decode cX10_likeliest 58 = .ok (.iinc 4 1, 3) := by decide +kernel
theorem dX10_likeliest_61 : decode cX10_likeliest 61 = .ok (.goto (-36), 3) := by decide +kernel
theorem dX10_likeliest_64 : decode cX10_likeliest 64 = .ok (.iload_n 1, 1) := by decide +kernel
theorem dX10_likeliest_65 : decode cX10_likeliest 65 = .ok (.ireturn, 1) := by decide +kernel
theorem dX10_leavesOf_0 : decode cX10_leavesOf 0 = .ok (.iconst 0, 1) := by decide +kernel
theorem dX10_leavesOf_1 : decode cX10_leavesOf 1 = .ok (.istore_n 2, 1) := by decide +kernel
theorem dX10_leavesOf_2 : decode cX10_leavesOf 2 = .ok (.iconst 0, 1) := by decide +kernel
theorem dX10_leavesOf_3 : decode cX10_leavesOf 3 = .ok (.istore_n 3, 1) := by decide +kernel
theorem dX10_leavesOf_4 : decode cX10_leavesOf 4 = .ok (.iload_n 3, 1) := by decide +kernel
theorem dX10_leavesOf_5 : decode cX10_leavesOf 5 = .ok (.aload_n 0, 1) := by decide +kernel
theorem dX10_leavesOf_6 : decode cX10_leavesOf 6 = .ok (.invokevirtual 337, 3) := by decide +kernel
theorem dX10_leavesOf_9 : decode cX10_leavesOf 9 = .ok (.if_icmp .ge 102, 3) := by decide +kernel
theorem dX10_leavesOf_12 : decode cX10_leavesOf 12 = .ok (.aload_n 0, 1) := by decide +kernel
theorem dX10_leavesOf_13 : decode cX10_leavesOf 13 = .ok (.iload_n 3, 1) := by decide +kernel
theorem dX10_leavesOf_14 : decode cX10_leavesOf 14 = .ok (.invokevirtual 340, 3) := by decide +kernel
theorem dX10_leavesOf_17 : decode cX10_leavesOf 17 = .ok (.lconst 0, 1) := by decide +kernel
theorem dX10_leavesOf_18 : decode cX10_leavesOf 18 = .ok (.lcmp, 1) := by decide +kernel
theorem dX10_leavesOf_19 : decode cX10_leavesOf 19 = .ok (.ifCond .ne 6, 3) := by decide +kernel
theorem dX10_leavesOf_22 : decode cX10_leavesOf 22 = .ok (.goto 83, 3) := by decide +kernel
theorem dX10_leavesOf_25 : decode cX10_leavesOf 25 = .ok (.aload_n 0, 1) := by decide +kernel
theorem dX10_leavesOf_26 : decode cX10_leavesOf 26 = .ok (.aload_n 0, 1) := by decide +kernel
theorem dX10_leavesOf_27 : decode cX10_leavesOf 27 = .ok (.getfield 26, 3) := by decide +kernel
theorem dX10_leavesOf_30 : decode cX10_leavesOf 30 = .ok (.iload_n 1, 1) := by decide +kernel
theorem dX10_leavesOf_31 : decode cX10_leavesOf 31 = .ok (.invokevirtual 261, 3) := by decide +kernel
theorem dX10_leavesOf_34 : decode cX10_leavesOf 34 = .ok (.istore 4, 2) := by decide +kernel
theorem dX10_leavesOf_36 : decode cX10_leavesOf 36 = .ok (.iconst 0, 1) := by decide +kernel
theorem dX10_leavesOf_37 : decode cX10_leavesOf 37 = .ok (.istore 5, 2) := by decide +kernel
theorem dX10_leavesOf_39 : decode cX10_leavesOf 39 = .ok (.iconst 0, 1) := by decide +kernel
theorem dX10_leavesOf_40 : decode cX10_leavesOf 40 = .ok (.istore 6, 2) := by decide +kernel
theorem dX10_leavesOf_42 : decode cX10_leavesOf 42 = .ok (.iload 6, 2) := by decide +kernel
theorem dX10_leavesOf_44 : decode cX10_leavesOf 44 = .ok (.aload_n 0, 1) := by decide +kernel
theorem dX10_leavesOf_45 : decode cX10_leavesOf 45 = .ok (.invokevirtual 337, 3) := by decide +kernel
theorem dX10_leavesOf_48 : decode cX10_leavesOf 48 = .ok (.if_icmp .ge 44, 3) := by decide +kernel
theorem dX10_leavesOf_51 : decode cX10_leavesOf 51 = .ok (.iload 5, 2) := by decide +kernel
theorem dX10_leavesOf_53 : decode cX10_leavesOf 53 = .ok (.aload_n 0, 1) := by decide +kernel
theorem dX10_leavesOf_54 : decode cX10_leavesOf 54 = .ok (.iload 6, 2) := by decide +kernel
theorem dX10_leavesOf_56 : decode cX10_leavesOf 56 = .ok (.invokevirtual 340, 3) := by decide +kernel
theorem dX10_leavesOf_59 : decode cX10_leavesOf 59 = .ok (.lconst 0, 1) := by decide +kernel
theorem dX10_leavesOf_60 : decode cX10_leavesOf 60 = .ok (.lcmp, 1) := by decide +kernel
theorem dX10_leavesOf_61 : decode cX10_leavesOf 61 = .ok (.ifCond .le 21, 3) := by decide +kernel
theorem dX10_leavesOf_64 : decode cX10_leavesOf 64 = .ok (.aload_n 0, 1) := by decide +kernel
theorem dX10_leavesOf_65 : decode cX10_leavesOf 65 = .ok (.aload_n 0, 1) := by decide +kernel
theorem dX10_leavesOf_66 : decode cX10_leavesOf 66 = .ok (.getfield 26, 3) := by decide +kernel
theorem dX10_leavesOf_69 : decode cX10_leavesOf 69 = .ok (.iload_n 1, 1) := by decide +kernel
theorem dX10_leavesOf_70 : decode cX10_leavesOf 70 = .ok (.invokevirtual 261, 3) := by decide +kernel
theorem dX10_leavesOf_73 : decode cX10_leavesOf 73 = .ok (.iload 4, 2) := by decide +kernel
theorem dX10_leavesOf_75 : decode cX10_leavesOf 75 = .ok (.if_icmp .ne 7, 3) := by decide +kernel
theorem dX10_leavesOf_78 : decode cX10_leavesOf 78 = .ok (.iconst 1, 1) := by decide +kernel
theorem dX10_leavesOf_79 : decode cX10_leavesOf 79 = .ok (.goto 4, 3) := by decide +kernel
theorem dX10_leavesOf_82 : decode cX10_leavesOf 82 = .ok (.iconst 0, 1) := by decide +kernel
theorem dX10_leavesOf_83 : decode cX10_leavesOf 83 = .ok (.iadd, 1) := by decide +kernel
theorem dX10_leavesOf_84 : decode cX10_leavesOf 84 = .ok (.istore 5, 2) := by decide +kernel
theorem dX10_leavesOf_86 : decode cX10_leavesOf 86 = .ok (.iinc 6 1, 3) := by decide +kernel
theorem dX10_leavesOf_89 : decode cX10_leavesOf 89 = .ok (.goto (-47), 3) := by decide +kernel
theorem dX10_leavesOf_92 : decode cX10_leavesOf 92 = .ok (.iload 5, 2) := by decide +kernel
theorem dX10_leavesOf_94 : decode cX10_leavesOf 94 = .ok (.iload_n 2, 1) := by decide +kernel
theorem dX10_leavesOf_95 : decode cX10_leavesOf 95 = .ok (.if_icmp .le 8, 3) := by decide +kernel
theorem dX10_leavesOf_98 : decode cX10_leavesOf 98 = .ok (.iload 5, 2) := by decide +kernel
theorem dX10_leavesOf_100 : decode cX10_leavesOf 100 = .ok (.goto 4, 3) := by decide +kernel
theorem dX10_leavesOf_103 : decode cX10_leavesOf 103 = .ok (.iload_n 2, 1) := by decide +kernel
theorem dX10_leavesOf_104 : decode cX10_leavesOf 104 = .ok (.istore_n 2, 1) := by decide +kernel
theorem dX10_leavesOf_105 : decode cX10_leavesOf 105 = .ok (.iinc 3 1, 3) := by decide +kernel
theorem dX10_leavesOf_108 : decode cX10_leavesOf 108 = .ok (.goto (-104), 3) := by decide +kernel
theorem dX10_leavesOf_111 : decode cX10_leavesOf 111 = .ok (.iload_n 2, 1) := by decide +kernel
theorem dX10_leavesOf_112 : decode cX10_leavesOf 112 = .ok (.ireturn, 1) := by decide +kernel
theorem dX10_lookOf_0 : decode cX10_lookOf 0 = .ok (.aload_n 0, 1) := by decide +kernel
theorem dX10_lookOf_1 : decode cX10_lookOf 1 = .ok (.iconst (-1), 1) := by decide +kernel
theorem dX10_lookOf_2 : decode cX10_lookOf 2 = .ok (.invokevirtual 355, 3) := by decide +kernel
theorem dX10_lookOf_5 : decode cX10_lookOf 5 = .ok (.pop, 1) := by decide +kernel
theorem dX10_lookOf_6 : decode cX10_lookOf 6 = .ok (.bipush (-2), 2) := by decide +kernel
theorem dX10_lookOf_8 : decode cX10_lookOf 8 = .ok (.istore_n 1, 1) := by decide +kernel
theorem dX10_lookOf_9 : decode cX10_lookOf 9 = .ok (.iconst 0, 1) := by decide +kernel
theorem dX10_lookOf_10 : decode cX10_lookOf 10 = .ok (.istore_n 2, 1) := by decide +kernel
theorem dX10_lookOf_11 : decode cX10_lookOf 11 = .ok (.iload_n 2, 1) := by decide +kernel
theorem dX10_lookOf_12 : decode cX10_lookOf 12 = .ok (.aload_n 0, 1) := by decide +kernel
theorem dX10_lookOf_13 : decode cX10_lookOf 13 = .ok (.getfield 20, 3) := by decide +kernel
theorem dX10_lookOf_16 : decode cX10_lookOf 16 = .ok (.iconst 4, 1) := by decide +kernel
theorem dX10_lookOf_17 : decode cX10_lookOf 17 = .ok (.iaload, 1) := by decide +kernel
theorem dX10_lookOf_18 : decode cX10_lookOf 18 = .ok (.if_icmp .ge 35, 3) := by decide +kernel
theorem dX10_lookOf_21 : decode cX10_lookOf 21 = .ok (.aload_n 0, 1) := by decide +kernel
theorem dX10_lookOf_22 : decode cX10_lookOf 22 = .ok (.getfield 352, 3) := by decide +kernel
theorem dX10_lookOf_25 : decode cX10_lookOf 25 = .ok (.ifCond .le 28, 3) := by decide +kernel
theorem dX10_lookOf_28 : decode cX10_lookOf 28 = .ok (.iload_n 1, 1) := by decide +kernel
theorem dX10_lookOf_29 : decode cX10_lookOf 29 = .ok (.ifCond .lt 16, 3) := by decide +kernel
theorem dX10_lookOf_32 : decode cX10_lookOf 32 = .ok (.aload_n 0, 1) := by decide +kernel
theorem dX10_lookOf_33 : decode cX10_lookOf 33 = .ok (.iload_n 2, 1) := by decide +kernel
theorem dX10_lookOf_34 : decode cX10_lookOf 34 = .ok (.invokevirtual 362, 3) := by decide +kernel
theorem dX10_lookOf_37 : decode cX10_lookOf 37 = .ok (.aload_n 0, 1) := by decide +kernel
theorem dX10_lookOf_38 : decode cX10_lookOf 38 = .ok (.iload_n 1, 1) := by decide +kernel
theorem dX10_lookOf_39 : decode cX10_lookOf 39 = .ok (.invokevirtual 362, 3) := by decide +kernel
theorem dX10_lookOf_42 : decode cX10_lookOf 42 = .ok (.if_icmp .ge 5, 3) := by decide +kernel
theorem dX10_lookOf_45 : decode cX10_lookOf 45 = .ok (.iload_n 2, 1) := by decide +kernel
theorem dX10_lookOf_46 : decode cX10_lookOf 46 = .ok (.istore_n 1, 1) := by decide +kernel
theorem dX10_lookOf_47 : decode cX10_lookOf 47 = .ok (.iinc 2 1, 3) := by decide +kernel
theorem dX10_lookOf_50 : decode cX10_lookOf 50 = .ok (.goto (-39), 3) := by decide +kernel
theorem dX10_lookOf_53 : decode cX10_lookOf 53 = .ok (.iload_n 1, 1) := by decide +kernel
theorem dX10_lookOf_54 : decode cX10_lookOf 54 = .ok (.ireturn, 1) := by decide +kernel
theorem dX10_look_0 : decode cX10_look 0 = .ok (.aload_n 0, 1) := by decide +kernel
theorem dX10_look_1 : decode cX10_look 1 = .ok (.invokevirtual 154, 3) := by decide +kernel
theorem dX10_look_4 : decode cX10_look 4 = .ok (.aload_n 0, 1) := by decide +kernel
theorem dX10_look_5 : decode cX10_look 5 = .ok (.getfield 167, 3) := by decide +kernel
theorem dX10_look_8 : decode cX10_look 8 = .ok (.ifCond .eq 10, 3) := by decide +kernel
theorem dX10_look_11 : decode cX10_look 11 = .ok (.aload_n 0, 1) := by decide +kernel
theorem dX10_look_12 : decode cX10_look 12 = .ok (.invokevirtual 365, 3) := by decide +kernel
theorem dX10_look_15 : decode cX10_look 15 = .ok (.goto 8, 3) := by decide +kernel
theorem dX10_look_18 : decode cX10_look 18 = .ok (.aload_n 0, 1) := by decide +kernel
theorem dX10_look_19 : decode cX10_look 19 = .ok (.iconst 1, 1) := by decide +kernel
theorem dX10_look_20 : decode cX10_look 20 = .ok (.invokevirtual 157, 3) := by decide +kernel
theorem dX10_look_23 : decode cX10_look 23 = .ok (.ireturn, 1) := by decide +kernel
theorem dX10_lookLeaves_0 : decode cX10_lookLeaves 0 = .ok (.aload_n 0, 1) := by decide +kernel
theorem dX10_lookLeaves_1 : decode cX10_lookLeaves 1 = .ok (.invokevirtual 154, 3) := by decide +kernel
theorem dX10_lookLeaves_4 : decode cX10_lookLeaves 4 = .ok (.aload_n 0, 1) := by decide +kernel
theorem dX10_lookLeaves_5 : decode cX10_lookLeaves 5 = .ok (.getfield 167, 3) := by decide +kernel
theorem dX10_lookLeaves_8 : decode cX10_lookLeaves 8 = .ok (.ifCond .ne 9, 3) := by decide +kernel
theorem dX10_lookLeaves_11 : decode cX10_lookLeaves 11 = .ok (.aload_n 0, 1) := by decide +kernel
theorem dX10_lookLeaves_12 : decode cX10_lookLeaves 12 = .ok (.iconst 1, 1) := by decide +kernel
theorem dX10_lookLeaves_13 : decode cX10_lookLeaves 13 = .ok (.invokevirtual 157, 3) := by decide +kernel
theorem dX10_lookLeaves_16 : decode cX10_lookLeaves 16 = .ok (.ireturn, 1) := by decide +kernel
theorem dX10_lookLeaves_17 : decode cX10_lookLeaves 17 = .ok (.aload_n 0, 1) := by decide +kernel
theorem dX10_lookLeaves_18 : decode cX10_lookLeaves 18 = .ok (.invokevirtual 365, 3) := by decide +kernel
theorem dX10_lookLeaves_21 : decode cX10_lookLeaves 21 = .ok (.istore_n 1, 1) := by decide +kernel
theorem dX10_lookLeaves_22 : decode cX10_lookLeaves 22 = .ok (.iload_n 1, 1) := by decide +kernel
theorem dX10_lookLeaves_23 : decode cX10_lookLeaves 23 = .ok (.ifCond .ge 8, 3) := by decide +kernel
theorem dX10_lookLeaves_26 : decode cX10_lookLeaves 26 = .ok (.bipush (-2), 2) := by decide +kernel
theorem dX10_lookLeaves_28 : decode cX10_lookLeaves 28 = .ok (.goto 8, 3) := by decide +kernel
theorem dX10_lookLeaves_31 : decode cX10_lookLeaves 31 = .ok (.aload_n 0, 1) := by decide +kernel
theorem dX10_lookLeaves_32 : decode cX10_lookLeaves 32 = .ok (.iload_n 1, 1) := by decide +kernel
theorem dX10_lookLeaves_33 : decode cX10_lookLeaves 33 = .ok (.invokevirtual 362, 3) := by decide +kernel
theorem dX10_lookLeaves_36 : decode cX10_lookLeaves 36 = .ok (.ireturn, 1) := by decide +kernel
theorem dX10_judge_0 : decode cX10_judge 0 = .ok (.aload_n 0, 1) := by decide +kernel
theorem dX10_judge_1 : decode cX10_judge 1 = .ok (.invokevirtual 154, 3) := by decide +kernel
theorem dX10_judge_4 : decode cX10_judge 4 = .ok (.aload_n 0, 1) := by decide +kernel
theorem dX10_judge_5 : decode cX10_judge 5 = .ok (.iconst 0, 1) := by decide +kernel
theorem dX10_judge_6 : decode cX10_judge 6 = .ok (.putfield 247, 3) := by decide +kernel
theorem dX10_judge_9 : decode cX10_judge 9 = .ok (.aload_n 0, 1) := by decide +kernel
theorem dX10_judge_10 : decode cX10_judge 10 = .ok (.getfield 167, 3) := by decide +kernel
theorem dX10_judge_13 : decode cX10_judge 13 = .ok (.ifCond .ne 9, 3) := by decide +kernel
theorem dX10_judge_16 : decode cX10_judge 16 = .ok (.aload_n 0, 1) := by decide +kernel
theorem dX10_judge_17 : decode cX10_judge 17 = .ok (.iconst 1, 1) := by decide +kernel
theorem dX10_judge_18 : decode cX10_judge 18 = .ok (.invokevirtual 157, 3) := by decide +kernel
theorem dX10_judge_21 : decode cX10_judge 21 = .ok (.ireturn, 1) := by decide +kernel
theorem dX10_judge_22 : decode cX10_judge 22 = .ok (.iconst 0, 1) := by decide +kernel
theorem dX10_judge_23 : decode cX10_judge 23 = .ok (.istore_n 1, 1) := by decide +kernel
theorem dX10_judge_24 : decode cX10_judge 24 = .ok (.iload_n 1, 1) := by decide +kernel
theorem dX10_judge_25 : decode cX10_judge 25 = .ok (.aload_n 0, 1) := by decide +kernel
theorem dX10_judge_26 : decode cX10_judge 26 = .ok (.getfield 20, 3) := by decide +kernel
theorem dX10_judge_29 : decode cX10_judge 29 = .ok (.bipush 9, 2) := by decide +kernel
theorem dX10_judge_31 : decode cX10_judge 31 = .ok (.iaload, 1) := by decide +kernel
theorem dX10_judge_32 : decode cX10_judge 32 = .ok (.if_icmp .ge 52, 3) := by decide +kernel
theorem dX10_judge_35 : decode cX10_judge 35 = .ok (.aload_n 0, 1) := by decide +kernel
theorem dX10_judge_36 : decode cX10_judge 36 = .ok (.aload_n 0, 1) := by decide +kernel
theorem dX10_judge_37 : decode cX10_judge 37 = .ok (.aload_n 0, 1) := by decide +kernel
theorem dX10_judge_38 : decode cX10_judge 38 = .ok (.getfield 26, 3) := by decide +kernel
theorem dX10_judge_41 : decode cX10_judge 41 = .ok (.aload_n 0, 1) := by decide +kernel
theorem dX10_judge_42 : decode cX10_judge 42 = .ok (.getfield 20, 3) := by decide +kernel
theorem dX10_judge_45 : decode cX10_judge 45 = .ok (.bipush 78, 2) := by decide +kernel
theorem dX10_judge_47 : decode cX10_judge 47 = .ok (.iconst 2, 1) := by decide +kernel
theorem dX10_judge_48 : decode cX10_judge 48 = .ok (.iload_n 1, 1) := by decide +kernel
theorem dX10_judge_49 : decode cX10_judge 49 = .ok (.imul, 1) := by decide +kernel
theorem dX10_judge_50 : decode cX10_judge 50 = .ok (.iadd, 1) := by decide +kernel
theorem dX10_judge_51 : decode cX10_judge 51 = .ok (.iaload, 1) := by decide +kernel
theorem dX10_judge_52 : decode cX10_judge 52 = .ok (.invokevirtual 261, 3) := by decide +kernel
theorem dX10_judge_55 : decode cX10_judge 55 = .ok (.aload_n 0, 1) := by decide +kernel
theorem dX10_judge_56 : decode cX10_judge 56 = .ok (.getfield 20, 3) := by decide +kernel
theorem dX10_judge_59 : decode cX10_judge 59 = .ok (.bipush 78, 2) := by decide +kernel
theorem dX10_judge_61 : decode cX10_judge 61 = .ok (.iconst 2, 1) := by decide +kernel
theorem dX10_judge_62 : decode cX10_judge 62 = .ok (.iload_n 1, 1) := by decide +kernel
theorem dX10_judge_63 : decode cX10_judge 63 = .ok (.imul, 1) := by decide +kernel
theorem dX10_judge_64 : decode cX10_judge 64 = .ok (.iadd, 1) := by decide +kernel
theorem dX10_judge_65 : decode cX10_judge 65 = .ok (.iconst 1, 1) := by decide +kernel
theorem dX10_judge_66 : decode cX10_judge 66 = .ok (.iadd, 1) := by decide +kernel
theorem dX10_judge_67 : decode cX10_judge 67 = .ok (.iaload, 1) := by decide +kernel
theorem dX10_judge_68 : decode cX10_judge 68 = .ok (.invokevirtual 333, 3) := by decide +kernel
theorem dX10_judge_71 : decode cX10_judge 71 = .ok (.lconst 0, 1) := by decide +kernel
theorem dX10_judge_72 : decode cX10_judge 72 = .ok (.lcmp, 1) := by decide +kernel
theorem dX10_judge_73 : decode cX10_judge 73 = .ok (.ifCond .ne 5, 3) := by decide +kernel
theorem dX10_judge_76 : decode cX10_judge 76 = .ok (.iload_n 1, 1) := by decide +kernel
theorem dX10_judge_77 : decode cX10_judge 77 = .ok (.ireturn, 1) := by decide +kernel
theorem dX10_judge_78 : decode cX10_judge 78 = .ok (.iinc 1 1, 3) := by decide +kernel
theorem dX10_judge_81 : decode cX10_judge 81 = .ok (.goto (-57), 3) := by decide +kernel
theorem dX10_judge_84 : decode cX10_judge 84 = .ok (.bipush (-2), 2) := by decide +kernel
theorem dX10_judge_86 : decode cX10_judge 86 = .ok (.ireturn, 1) := by decide +kernel
theorem dX10_duelOf_0 : decode cX10_duelOf 0 = .ok (.iload_n 3, 1) := by decide +kernel
theorem dX10_duelOf_1 : decode cX10_duelOf 1 = .ok (.ifCond .ne 16, 3) := by decide +kernel
theorem dX10_duelOf_4 : decode cX10_duelOf 4 = .ok (.iload 4, 2) := by decide +kernel
theorem dX10_duelOf_6 : decode cX10_duelOf 6 = .ok (.ifCond .eq 7, 3) := by decide +kernel
theorem dX10_duelOf_9 : decode cX10_duelOf 9 = .ok (.iconst 0, 1) := by decide +kernel
theorem dX10_duelOf_10 : decode cX10_duelOf 10 = .ok (.goto 6, 3) := by decide +kernel
theorem dX10_duelOf_13 : decode cX10_duelOf 13 = .ok (.iload_n 2, 1) := by decide +kernel
theorem dX10_duelOf_14 : decode cX10_duelOf 14 = .ok (.iconst 2, 1) := by decide +kernel
theorem dX10_duelOf_15 : decode cX10_duelOf 15 = .ok (.idiv, 1) := by decide +kernel
theorem dX10_duelOf_16 : decode cX10_duelOf 16 = .ok (.ireturn, 1) := by decide +kernel
theorem dX10_duelOf_17 : decode cX10_duelOf 17 = .ok (.iload 4, 2) := by decide +kernel
theorem dX10_duelOf_19 : decode cX10_duelOf 19 = .ok (.ifCond .ne 7, 3) := by decide +kernel
theorem dX10_duelOf_22 : decode cX10_duelOf 22 = .ok (.iload_n 2, 1) := by decide +kernel
theorem dX10_duelOf_23 : decode cX10_duelOf 23 = .ok (.goto 16, 3) := by decide +kernel
theorem dX10_duelOf_26 : decode cX10_duelOf 26 = .ok (.iload_n 0, 1) := by decide +kernel
theorem dX10_duelOf_27 : decode cX10_duelOf 27 = .ok (.iload_n 1, 1) := by decide +kernel
theorem dX10_duelOf_28 : decode cX10_duelOf 28 = .ok (.if_icmp .le 9, 3) := by decide +kernel
theorem dX10_duelOf_31 : decode cX10_duelOf 31 = .ok (.iload_n 2, 1) := by decide +kernel
theorem dX10_duelOf_32 : decode cX10_duelOf 32 = .ok (.iconst 3, 1) := by decide +kernel
theorem dX10_duelOf_33 : decode cX10_duelOf 33 = .ok (.isub, 1) := by decide +kernel
theorem dX10_duelOf_34 : decode cX10_duelOf 34 = .ok (.goto 5, 3) := by decide +kernel
theorem dX10_duelOf_37 : decode cX10_duelOf 37 = .ok (.bipush (-3), 2) := by decide +kernel
theorem dX10_duelOf_39 : decode cX10_duelOf 39 = .ok (.ireturn, 1) := by decide +kernel
theorem dX10_strongOf_0 : decode cX10_strongOf 0 = .ok (.aload_n 0, 1) := by decide +kernel
theorem dX10_strongOf_1 : decode cX10_strongOf 1 = .ok (.getfield 20, 3) := by decide +kernel
theorem dX10_strongOf_4 : decode cX10_strongOf 4 = .ok (.bipush 10, 2) := by decide +kernel
theorem dX10_strongOf_6 : decode cX10_strongOf 6 = .ok (.iconst 3, 1) := by decide +kernel
theorem dX10_strongOf_7 : decode cX10_strongOf 7 = .ok (.iload_n 1, 1) := by decide +kernel
theorem dX10_strongOf_8 : decode cX10_strongOf 8 = .ok (.imul, 1) := by decide +kernel
theorem dX10_strongOf_9 : decode cX10_strongOf 9 = .ok (.iadd, 1) := by decide +kernel
theorem dX10_strongOf_10 : decode cX10_strongOf 10 = .ok (.iconst 2, 1) := by decide +kernel
theorem dX10_strongOf_11 : decode cX10_strongOf 11 = .ok (.iadd, 1) := by decide +kernel
theorem dX10_strongOf_12 : decode cX10_strongOf 12 = .ok (.iaload, 1) := by decide +kernel
theorem dX10_strongOf_13 : decode cX10_strongOf 13 = .ok (.ireturn, 1) := by decide +kernel
theorem dX10_hasBy_0 : decode cX10_hasBy 0 = .ok (.aload_n 0, 1) := by decide +kernel
theorem dX10_hasBy_1 : decode cX10_hasBy 1 = .ok (.iload_n 1, 1) := by decide +kernel
theorem dX10_hasBy_2 : decode cX10_hasBy 2 = .ok (.invokevirtual 368, 3) := by decide +kernel
theorem dX10_hasBy_5 : decode cX10_hasBy 5 = .ok (.aload_n 0, 1) := by decide +kernel
theorem dX10_hasBy_6 : decode cX10_hasBy 6 = .ok (.iload_n 2, 1) := by decide +kernel
theorem dX10_hasBy_7 : decode cX10_hasBy 7 = .ok (.invokevirtual 368, 3) := by decide +kernel
theorem dX10_hasBy_10 : decode cX10_hasBy 10 = .ok (.iload_n 3, 1) := by decide +kernel
theorem dX10_hasBy_11 : decode cX10_hasBy 11 = .ok (.iload 4, 2) := by decide +kernel
theorem dX10_hasBy_13 : decode cX10_hasBy 13 = .ok (.iload 5, 2) := by decide +kernel
theorem dX10_hasBy_15 : decode cX10_hasBy 15 = .ok (.invokestatic 371, 3) := by decide +kernel
theorem dX10_hasBy_18 : decode cX10_hasBy 18 = .ok (.ireturn, 1) := by decide +kernel
theorem dX10_duelWhy_0 : decode cX10_duelWhy 0 = .ok (.aload_n 0, 1) := by decide +kernel
theorem dX10_duelWhy_1 : decode cX10_duelWhy 1 = .ok (.aload_n 0, 1) := by decide +kernel
theorem dX10_duelWhy_2 : decode cX10_duelWhy 2 = .ok (.iload_n 1, 1) := by decide +kernel
theorem dX10_duelWhy_3 : decode cX10_duelWhy 3 = .ok (.invokevirtual 264, 3) := by decide +kernel
theorem dX10_duelWhy_6 : decode cX10_duelWhy 6 = .ok (.ifCond .eq 20, 3) := by decide +kernel
theorem dX10_duelWhy_9 : decode cX10_duelWhy 9 = .ok (.aload_n 0, 1) := by decide +kernel
theorem dX10_duelWhy_10 : decode cX10_duelWhy 10 = .ok (.iload_n 2, 1) := by decide +kernel
theorem dX10_duelWhy_11 : decode cX10_duelWhy 11 = .ok (.invokevirtual 264, 3) := by decide +kernel
theorem dX10_duelWhy_14 : decode cX10_duelWhy 14 = .ok (.ifCond .eq 12, 3) := by decide +kernel
theorem dX10_duelWhy_17 : decode cX10_duelWhy 17 = .ok (.iload_n 1, 1) := by decide +kernel
theorem dX10_duelWhy_18 : decode cX10_duelWhy 18 = .ok (.iload_n 2, 1) := by decide +kernel
theorem dX10_duelWhy_19 : decode cX10_duelWhy 19 = .ok (.if_icmp .eq 7, 3) := by decide +kernel
theorem dX10_duelWhy_22 : decode cX10_duelWhy 22 = .ok (.iconst 1, 1) := by decide +kernel
theorem dX10_duelWhy_23 : decode cX10_duelWhy 23 = .ok (.goto 4, 3) := by decide +kernel
theorem dX10_duelWhy_26 : decode cX10_duelWhy 26 = .ok (.iconst 0, 1) := by decide +kernel
theorem dX10_duelWhy_27 : decode cX10_duelWhy 27 = .ok (.iload_n 3, 1) := by decide +kernel
theorem dX10_duelWhy_28 : decode cX10_duelWhy 28 = .ok (.iconst 0, 1) := by decide +kernel
theorem dX10_duelWhy_29 : decode cX10_duelWhy 29 = .ok (.bipush 99, 2) := by decide +kernel
theorem dX10_duelWhy_31 : decode cX10_duelWhy 31 = .ok (.invokestatic 139, 3) := by decide +kernel
theorem dX10_duelWhy_34 : decode cX10_duelWhy 34 = .ok (.invokevirtual 289, 3) := by decide +kernel
theorem dX10_duelWhy_37 : decode cX10_duelWhy 37 = .ok (.ireturn, 1) := by decide +kernel
theorem dX10_duel_0 : decode cX10_duel 0 = .ok (.aload_n 0, 1) := by decide +kernel
theorem dX10_duel_1 : decode cX10_duel 1 = .ok (.invokevirtual 154, 3) := by decide +kernel
theorem dX10_duel_4 : decode cX10_duel 4 = .ok (.aload_n 0, 1) := by decide +kernel
theorem dX10_duel_5 : decode cX10_duel 5 = .ok (.iload_n 1, 1) := by decide +kernel
theorem dX10_duel_6 : decode cX10_duel 6 = .ok (.iload_n 2, 1) := by decide +kernel
theorem dX10_duel_7 : decode cX10_duel 7 = .ok (.iload_n 3, 1) := by decide +kernel
theorem dX10_duel_8 : decode cX10_duel 8 = .ok (.invokevirtual 375, 3) := by decide +kernel
theorem dX10_duel_11 : decode cX10_duel 11 = .ok (.istore 7, 2) := by decide +kernel
theorem dX10_duel_13 : decode cX10_duel 13 = .ok (.iload 7, 2) := by decide +kernel
theorem dX10_duel_15 : decode cX10_duel 15 = .ok (.ifCond .ne 34, 3) := by decide +kernel
theorem dX10_duel_18 : decode cX10_duel 18 = .ok (.iload 6, 2) := by decide +kernel
theorem dX10_duel_20 : decode cX10_duel 20 = .ok (.ifCond .eq 17, 3) := by decide +kernel
theorem dX10_duel_23 : decode cX10_duel 23 = .ok (.aload_n 0, 1) := by decide +kernel
theorem dX10_duel_24 : decode cX10_duel 24 = .ok (.iload_n 2, 1) := by decide +kernel
theorem dX10_duel_25 : decode cX10_duel 25 = .ok (.iload_n 1, 1) := by decide +kernel
theorem dX10_duel_26 : decode cX10_duel 26 = .ok (.iload_n 3, 1) := by decide +kernel
theorem dX10_duel_27 : decode cX10_duel 27 = .ok (.iload 5, 2) := by decide +kernel
theorem dX10_duel_29 : decode cX10_duel 29 = .ok (.iload 4, 2) := by decide +kernel
theorem dX10_duel_31 : decode cX10_duel 31 = .ok (.invokevirtual 379, 3) := by decide +kernel
theorem dX10_duel_34 : decode cX10_duel 34 = .ok (.goto 14, 3) := by decide +kernel
theorem dX10_duel_37 : decode cX10_duel 37 = .ok (.aload_n 0, 1) := by decide +kernel
theorem dX10_duel_38 : decode cX10_duel 38 = .ok (.iload_n 1, 1) := by decide +kernel
theorem dX10_duel_39 : decode cX10_duel 39 = .ok (.iload_n 2, 1) := by decide +kernel
theorem dX10_duel_40 : decode cX10_duel 40 = .ok (.iload_n 3, 1) := by decide +kernel
theorem dX10_duel_41 : decode cX10_duel 41 = .ok (.iload 4, 2) := by decide +kernel
theorem dX10_duel_43 : decode cX10_duel 43 = .ok (.iload 5, 2) := by decide +kernel
theorem dX10_duel_45 : decode cX10_duel 45 = .ok (.invokevirtual 379, 3) := by decide +kernel
theorem dX10_duel_48 : decode cX10_duel 48 = .ok (.ireturn, 1) := by decide +kernel
theorem dX10_duel_49 : decode cX10_duel 49 = .ok (.aload_n 0, 1) := by decide +kernel
theorem dX10_duel_50 : decode cX10_duel 50 = .ok (.iload 7, 2) := by decide +kernel
theorem dX10_duel_52 : decode cX10_duel 52 = .ok (.putfield 53, 3) := by decide +kernel
theorem dX10_duel_55 : decode cX10_duel 55 = .ok (.bipush (-100), 2) := by decide +kernel
theorem dX10_duel_57 : decode cX10_duel 57 = .ok (.ireturn, 1) := by decide +kernel
theorem dX10_seekRests_0 : decode cX10_seekRests 0 = .ok (.iconst 0, 1) := by decide +kernel
theorem dX10_seekRests_1 : decode cX10_seekRests 1 = .ok (.istore 4, 2) := by decide +kernel
theorem dX10_seekRests_3 : decode cX10_seekRests 3 = .ok (.aload_n 0, 1) := by decide +kernel
theorem dX10_seekRests_4 : decode cX10_seekRests 4 = .ok (.bipush (-2), 2) := by decide +kernel
theorem dX10_seekRests_6 : decode cX10_seekRests 6 = .ok (.putfield 382, 3) := by decide +kernel
theorem dX10_seekRests_9 : decode cX10_seekRests 9 = .ok (.iconst 0, 1) := by decide +kernel
theorem dX10_seekRests_10 : decode cX10_seekRests 10 = .ok (.istore 5, 2) := by decide +kernel
theorem dX10_seekRests_12 : decode cX10_seekRests 12 = .ok (.iload 5, 2) := by decide +kernel
theorem dX10_seekRests_14 : decode cX10_seekRests 14 = .ok (.iconst 4, 1) := by decide +kernel
theorem dX10_seekRests_15 : decode cX10_seekRests 15 = .ok (.if_icmp .ge 130, 3) := by decide +kernel
theorem dX10_seekRests_18 : decode cX10_seekRests 18 = .ok (.iload 5, 2) := by decide +kernel
theorem dX10_seekRests_20 : decode cX10_seekRests 20 = .ok (.iconst 1, 1) := by decide +kernel
theorem dX10_seekRests_21 : decode cX10_seekRests 21 = .ok (.if_icmp .le 7, 3) := by decide +kernel
theorem dX10_seekRests_24 : decode cX10_seekRests 24 = .ok (.iconst 1, 1) := by decide +kernel
theorem dX10_seekRests_25 : decode cX10_seekRests 25 = .ok (.goto 4, 3) := by decide +kernel
theorem dX10_seekRests_28 : decode cX10_seekRests 28 = .ok (.iconst 0, 1) := by decide +kernel
theorem dX10_seekRests_29 : decode cX10_seekRests 29 = .ok (.istore 6, 2) := by decide +kernel
theorem dX10_seekRests_31 : decode cX10_seekRests 31 = .ok (.iload 5, 2) := by decide +kernel
theorem dX10_seekRests_33 : decode cX10_seekRests 33 = .ok (.iconst 2, 1) := by decide +kernel
theorem dX10_seekRests_34 : decode cX10_seekRests 34 = .ok (.irem, 1) := by decide +kernel
theorem dX10_seekRests_35 : decode cX10_seekRests 35 = .ok (.iconst 1, 1) := by decide +kernel
theorem dX10_seekRests_36 : decode cX10_seekRests 36 = .ok (.if_icmp .ne 7, 3) := by decide +kernel
theorem dX10_seekRests_39 : decode cX10_seekRests 39 = .ok (.iconst 1, 1) := by decide +kernel
theorem dX10_seekRests_40 : decode cX10_seekRests 40 = .ok (.goto 4, 3) := by decide +kernel
theorem dX10_seekRests_43 : decode cX10_seekRests 43 = .ok (.iconst 0, 1) := by decide +kernel
theorem dX10_seekRests_44 : decode cX10_seekRests 44 = .ok (.istore 7, 2) := by decide +kernel
theorem dX10_seekRests_46 : decode cX10_seekRests 46 = .ok (.aload_n 0, 1) := by decide +kernel
theorem dX10_seekRests_47 : decode cX10_seekRests 47 = .ok (.iload_n 1, 1) := by decide +kernel
theorem dX10_seekRests_48 : decode cX10_seekRests 48 = .ok (.iload_n 2, 1) := by decide +kernel
theorem dX10_seekRests_49 : decode cX10_seekRests 49 = .ok (.iload_n 3, 1) := by decide +kernel
theorem dX10_seekRests_50 : decode cX10_seekRests 50 = .ok (.iload 6, 2) := by decide +kernel
theorem dX10_seekRests_52 : decode cX10_seekRests 52 = .ok (.ifCond .ne 7, 3) := by decide +kernel
theorem dX10_seekRests_55 : decode cX10_seekRests 55 = .ok (.iconst 1, 1) := by decide +kernel
theorem dX10_seekRests_56 : decode cX10_seekRests 56 = .ok (.goto 4, 3) := by decide +kernel
theorem dX10_seekRests_59 : decode cX10_seekRests 59 = .ok (.iconst 0, 1) := by decide +kernel
theorem dX10_seekRests_60 : decode cX10_seekRests 60 = .ok (.iload 7, 2) := by decide +kernel
theorem dX10_seekRests_62 : decode cX10_seekRests 62 = .ok (.invokevirtual 379, 3) := by decide +kernel
theorem dX10_seekRests_65 : decode cX10_seekRests 65 = .ok (.aload_n 0, 1) := by decide +kernel
theorem dX10_seekRests_66 : decode cX10_seekRests 66 = .ok (.iload_n 1, 1) := by decide +kernel
theorem dX10_seekRests_67 : decode cX10_seekRests 67 = .ok (.iload_n 2, 1) := by decide +kernel
theorem dX10_seekRests_68 : decode cX10_seekRests 68 = .ok (.iload_n 3, 1) := by decide +kernel
theorem dX10_seekRests_69 : decode cX10_seekRests 69 = .ok (.iload 6, 2) := by decide +kernel
theorem dX10_seekRests_71 : decode cX10_seekRests 71 = .ok (.iload 7, 2) := by decide +kernel
theorem dX10_seekRests_73 : decode cX10_seekRests 73 = .ok (.invokevirtual 379, 3) := by decide +kernel
theorem dX10_seekRests_76 : decode cX10_seekRests 76 = .ok (.if_icmp .gt 63, 3) := by decide +kernel
theorem dX10_seekRests_79 : decode cX10_seekRests 79 = .ok (.aload_n 0, 1) := by decide +kernel
theorem dX10_seekRests_80 : decode cX10_seekRests 80 = .ok (.iload_n 2, 1) := by decide +kernel
theorem dX10_seekRests_81 : decode cX10_seekRests 81 = .ok (.iload_n 1, 1) := by decide +kernel
theorem dX10_seekRests_82 : decode cX10_seekRests 82 = .ok (.iload_n 3, 1) := by decide +kernel
theorem dX10_seekRests_83 : decode cX10_seekRests 83 = .ok (.iload 7, 2) := by decide +kernel
theorem dX10_seekRests_85 : decode cX10_seekRests 85 = .ok (.ifCond .ne 7, 3) := by decide +kernel
theorem dX10_seekRests_88 : decode cX10_seekRests 88 = .ok (.iconst 1, 1) := by decide +kernel
theorem dX10_seekRests_89 : decode cX10_seekRests 89 = .ok (.goto 4, 3) := by decide +kernel
theorem dX10_seekRests_92 : decode cX10_seekRests 92 = .ok (.iconst 0, 1) := by decide +kernel
theorem dX10_seekRests_93 : decode cX10_seekRests 93 = .ok (.iload 6, 2) := by decide +kernel
theorem dX10_seekRests_95 : decode cX10_seekRests 95 = .ok (.invokevirtual 379, 3) := by decide +kernel
theorem dX10_seekRests_98 : decode cX10_seekRests 98 = .ok (.aload_n 0, 1) := by decide +kernel
theorem dX10_seekRests_99 : decode cX10_seekRests 99 = .ok (.iload_n 2, 1) := by decide +kernel
theorem dX10_seekRests_100 : decode cX10_seekRests 100 = .ok (.iload_n 1, 1) := by decide +kernel
theorem dX10_seekRests_101 : decode cX10_seekRests 101 = .ok (.iload_n 3, 1) := by decide +kernel
theorem dX10_seekRests_102 : decode cX10_seekRests 102 = .ok (.iload 7, 2) := by decide +kernel
theorem dX10_seekRests_104 : decode cX10_seekRests 104 = .ok (.iload 6, 2) := by decide +kernel
theorem dX10_seekRests_106 : decode cX10_seekRests 106 = .ok (.invokevirtual 379, 3) := by decide +kernel
theorem dX10_seekRests_109 : decode cX10_seekRests 109 = .ok (.if_icmp .le 6, 3) := by decide +kernel
theorem dX10_seekRests_112 : decode cX10_seekRests 112 = .ok (.goto 27, 3) := by decide +kernel
theorem dX10_seekRests_115 : decode cX10_seekRests 115 = .ok (.iload 4, 2) := by decide +kernel
theorem dX10_seekRests_117 : decode cX10_seekRests 117 = .ok (.ifCond .ne 19, 3) := by decide +kernel
theorem dX10_seekRests_120 : decode cX10_seekRests 120 = .ok (.aload_n 0, 1) := by decide +kernel
theorem dX10_seekRests_121 : decode cX10_seekRests 121 = .ok (.bipush 10, 2) := by decide +kernel
theorem dX10_seekRests_123 : decode cX10_seekRests 123 = .ok (.iload 5, 2) := by decide +kernel
theorem dX10_seekRests_125 : decode cX10_seekRests 125 = .ok (.iconst 2, 1) := by decide +kernel
theorem dX10_seekRests_126 : decode cX10_seekRests 126 = .ok (.idiv, 1) := by decide +kernel
theorem dX10_seekRests_127 : decode cX10_seekRests 127 = .ok (.imul, 1) := by decide +kernel
theorem dX10_seekRests_128 : decode cX10_seekRests 128 = .ok (.iload 5, 2) := by decide +kernel
theorem dX10_seekRests_130 : decode cX10_seekRests 130 = .ok (.iconst 2, 1) := by decide +kernel
theorem dX10_seekRests_131 : decode cX10_seekRests 131 = .ok (.irem, 1) := by decide +kernel
theorem dX10_seekRests_132 : decode cX10_seekRests 132 = .ok (.iadd, 1) := by decide +kernel
theorem dX10_seekRests_133 : decode cX10_seekRests 133 = .ok (.putfield 382, 3) := by decide +kernel
theorem dX10_seekRests_136 : decode cX10_seekRests 136 = .ok (.iinc 4 1, 3) := by decide +kernel
theorem dX10_seekRests_139 : decode cX10_seekRests 139 = .ok (.iinc 5 1, 3) := by decide +kernel
theorem dX10_seekRests_142 : decode cX10_seekRests 142 = .ok (.goto (-130), 3) := by decide +kernel
theorem dX10_seekRests_145 : decode cX10_seekRests 145 = .ok (.iload 4, 2) := by decide +kernel
theorem dX10_seekRests_147 : decode cX10_seekRests 147 = .ok (.ireturn, 1) := by decide +kernel
theorem dX10_rests_0 : decode cX10_rests 0 = .ok (.aload_n 0, 1) := by decide +kernel
theorem dX10_rests_1 : decode cX10_rests 1 = .ok (.invokevirtual 154, 3) := by decide +kernel
theorem dX10_rests_4 : decode cX10_rests 4 = .ok (.aload_n 0, 1) := by decide +kernel
theorem dX10_rests_5 : decode cX10_rests 5 = .ok (.iload_n 1, 1) := by decide +kernel
theorem dX10_rests_6 : decode cX10_rests 6 = .ok (.iload_n 2, 1) := by decide +kernel
theorem dX10_rests_7 : decode cX10_rests 7 = .ok (.iload_n 3, 1) := by decide +kernel
theorem dX10_rests_8 : decode cX10_rests 8 = .ok (.invokevirtual 375, 3) := by decide +kernel
theorem dX10_rests_11 : decode cX10_rests 11 = .ok (.istore 4, 2) := by decide +kernel
theorem dX10_rests_13 : decode cX10_rests 13 = .ok (.iload 4, 2) := by decide +kernel
theorem dX10_rests_15 : decode cX10_rests 15 = .ok (.ifCond .eq 12, 3) := by decide +kernel
theorem dX10_rests_18 : decode cX10_rests 18 = .ok (.aload_n 0, 1) := by decide +kernel
theorem dX10_rests_19 : decode cX10_rests 19 = .ok (.iload 4, 2) := by decide +kernel
theorem dX10_rests_21 : decode cX10_rests 21 = .ok (.invokevirtual 157, 3) := by decide +kernel
theorem dX10_rests_24 : decode cX10_rests 24 = .ok (.goto 10, 3) := by decide +kernel
theorem dX10_rests_27 : decode cX10_rests 27 = .ok (.aload_n 0, 1) := by decide +kernel
theorem dX10_rests_28 : decode cX10_rests 28 = .ok (.iload_n 1, 1) := by decide +kernel
theorem dX10_rests_29 : decode cX10_rests 29 = .ok (.iload_n 2, 1) := by decide +kernel
theorem dX10_rests_30 : decode cX10_rests 30 = .ok (.iload_n 3, 1) := by decide +kernel
theorem dX10_rests_31 : decode cX10_rests 31 = .ok (.invokevirtual 385, 3) := by decide +kernel
theorem dX10_rests_34 : decode cX10_rests 34 = .ok (.ireturn, 1) := by decide +kernel
theorem dX10_rest_0 : decode cX10_rest 0 = .ok (.aload_n 0, 1) := by decide +kernel
theorem dX10_rest_1 : decode cX10_rest 1 = .ok (.invokevirtual 154, 3) := by decide +kernel
theorem dX10_rest_4 : decode cX10_rest 4 = .ok (.aload_n 0, 1) := by decide +kernel
theorem dX10_rest_5 : decode cX10_rest 5 = .ok (.iload_n 1, 1) := by decide +kernel
theorem dX10_rest_6 : decode cX10_rest 6 = .ok (.iload_n 2, 1) := by decide +kernel
theorem dX10_rest_7 : decode cX10_rest 7 = .ok (.iload_n 3, 1) := by decide +kernel
theorem dX10_rest_8 : decode cX10_rest 8 = .ok (.invokevirtual 375, 3) := by decide +kernel
theorem dX10_rest_11 : decode cX10_rest 11 = .ok (.istore 4, 2) := by decide +kernel
theorem dX10_rest_13 : decode cX10_rest 13 = .ok (.iload 4, 2) := by decide +kernel
theorem dX10_rest_15 : decode cX10_rest 15 = .ok (.ifCond .eq 10, 3) := by decide +kernel
theorem dX10_rest_18 : decode cX10_rest 18 = .ok (.aload_n 0, 1) := by decide +kernel
theorem dX10_rest_19 : decode cX10_rest 19 = .ok (.iload 4, 2) := by decide +kernel
theorem dX10_rest_21 : decode cX10_rest 21 = .ok (.invokevirtual 157, 3) := by decide +kernel
theorem dX10_rest_24 : decode cX10_rest 24 = .ok (.ireturn, 1) := by decide +kernel
theorem dX10_rest_25 : decode cX10_rest 25 = .ok (.aload_n 0, 1) := by decide +kernel
theorem dX10_rest_26 : decode cX10_rest 26 = .ok (.iload_n 1, 1) := by decide +kernel
theorem dX10_rest_27 : decode cX10_rest 27 = .ok (.iload_n 2, 1) := by decide +kernel
theorem dX10_rest_28 : decode cX10_rest 28 = .ok (.iload_n 3, 1) := by decide +kernel
theorem dX10_rest_29 : decode cX10_rest 29 = .ok (.invokevirtual 385, 3) := by decide +kernel
theorem dX10_rest_32 : decode cX10_rest 32 = .ok (.pop, 1) := by decide +kernel
theorem dX10_rest_33 : decode cX10_rest 33 = .ok (.aload_n 0, 1) := by decide +kernel
theorem dX10_rest_34 : decode cX10_rest 34 = .ok (.getfield 382, 3) := by decide +kernel
theorem dX10_rest_37 : decode cX10_rest 37 = .ok (.ireturn, 1) := by decide +kernel
theorem dX10_locked_0 : decode cX10_locked 0 = .ok (.aload_n 0, 1) := by decide +kernel
theorem dX10_locked_1 : decode cX10_locked 1 = .ok (.invokevirtual 154, 3) := by decide +kernel
theorem dX10_locked_4 : decode cX10_locked 4 = .ok (.aload_n 0, 1) := by decide +kernel
theorem dX10_locked_5 : decode cX10_locked 5 = .ok (.aload_n 0, 1) := by decide +kernel
theorem dX10_locked_6 : decode cX10_locked 6 = .ok (.getfield 167, 3) := by decide +kernel
theorem dX10_locked_9 : decode cX10_locked 9 = .ok (.iload_n 1, 1) := by decide +kernel
theorem dX10_locked_10 : decode cX10_locked 10 = .ok (.iconst 0, 1) := by decide +kernel
theorem dX10_locked_11 : decode cX10_locked 11 = .ok (.bipush 8, 2) := by decide +kernel
theorem dX10_locked_13 : decode cX10_locked 13 = .ok (.invokestatic 139, 3) := by decide +kernel
theorem dX10_locked_16 : decode cX10_locked 16 = .ok (.invokevirtual 289, 3) := by decide +kernel
theorem dX10_locked_19 : decode cX10_locked 19 = .ok (.istore_n 3, 1) := by decide +kernel
theorem dX10_locked_20 : decode cX10_locked 20 = .ok (.iload_n 3, 1) := by decide +kernel
theorem dX10_locked_21 : decode cX10_locked 21 = .ok (.ifCond .eq 12, 3) := by decide +kernel
theorem dX10_locked_24 : decode cX10_locked 24 = .ok (.aload_n 0, 1) := by decide +kernel
theorem dX10_locked_25 : decode cX10_locked 25 = .ok (.iload_n 3, 1) := by decide +kernel
theorem dX10_locked_26 : decode cX10_locked 26 = .ok (.invokevirtual 157, 3) := by decide +kernel
theorem dX10_locked_29 : decode cX10_locked 29 = .ok (.i2l, 1) := by decide +kernel
theorem dX10_locked_30 : decode cX10_locked 30 = .ok (.goto 25, 3) := by decide +kernel
theorem dX10_locked_33 : decode cX10_locked 33 = .ok (.aload_n 0, 1) := by decide +kernel
theorem dX10_locked_34 : decode cX10_locked 34 = .ok (.getfield 20, 3) := by decide +kernel
theorem dX10_locked_37 : decode cX10_locked 37 = .ok (.iconst 2, 1) := by decide +kernel
theorem dX10_locked_38 : decode cX10_locked 38 = .ok (.iaload, 1) := by decide +kernel
theorem dX10_locked_39 : decode cX10_locked 39 = .ok (.i2l, 1) := by decide +kernel
theorem dX10_locked_40 : decode cX10_locked 40 = .ok (.iload_n 1, 1) := by decide +kernel
theorem dX10_locked_41 : decode cX10_locked 41 = .ok (.invokestatic 388, 3) := by decide +kernel
theorem dX10_locked_44 : decode cX10_locked 44 = .ok (.ldc2_w 392, 3) := by decide +kernel
theorem dX10_locked_47 : decode cX10_locked 47 = .ok (.iload_n 1, 1) := by decide +kernel
theorem dX10_locked_48 : decode cX10_locked 48 = .ok (.invokestatic 388, 3) := by decide +kernel
theorem dX10_locked_51 : decode cX10_locked 51 = .ok (.iload_n 2, 1) := by decide +kernel
theorem dX10_locked_52 : decode cX10_locked 52 = .ok (.invokestatic 348, 3) := by decide +kernel
theorem dX10_locked_55 : decode cX10_locked 55 = .ok (.lreturn, 1) := by decide +kernel
theorem dX10_weeks_0 : decode cX10_weeks 0 = .ok (.aload_n 0, 1) := by decide +kernel
theorem dX10_weeks_1 : decode cX10_weeks 1 = .ok (.invokevirtual 154, 3) := by decide +kernel
theorem dX10_weeks_4 : decode cX10_weeks 4 = .ok (.aload_n 0, 1) := by decide +kernel
theorem dX10_weeks_5 : decode cX10_weeks 5 = .ok (.aload_n 0, 1) := by decide +kernel
theorem dX10_weeks_6 : decode cX10_weeks 6 = .ok (.getfield 167, 3) := by decide +kernel
theorem dX10_weeks_9 : decode cX10_weeks 9 = .ok (.iload_n 1, 1) := by decide +kernel
theorem dX10_weeks_10 : decode cX10_weeks 10 = .ok (.iconst 0, 1) := by decide +kernel
theorem dX10_weeks_11 : decode cX10_weeks 11 = .ok (.bipush 8, 2) := by decide +kernel
theorem dX10_weeks_13 : decode cX10_weeks 13 = .ok (.invokestatic 139, 3) := by decide +kernel
theorem dX10_weeks_16 : decode cX10_weeks 16 = .ok (.invokevirtual 289, 3) := by decide +kernel
theorem dX10_weeks_19 : decode cX10_weeks 19 = .ok (.istore_n 3, 1) := by decide +kernel
theorem dX10_weeks_20 : decode cX10_weeks 20 = .ok (.iload_n 3, 1) := by decide +kernel
theorem dX10_weeks_21 : decode cX10_weeks 21 = .ok (.ifCond .eq 10, 3) := by decide +kernel
theorem dX10_weeks_24 : decode cX10_weeks 24 = .ok (.aload_n 0, 1) := by decide +kernel
theorem dX10_weeks_25 : decode cX10_weeks 25 = .ok (.iload_n 3, 1) := by decide +kernel
theorem dX10_weeks_26 : decode cX10_weeks 26 = .ok (.invokevirtual 157, 3) := by decide +kernel
theorem dX10_weeks_29 : decode cX10_weeks 29 = .ok (.i2l, 1) := by decide +kernel
theorem dX10_weeks_30 : decode cX10_weeks 30 = .ok (.lreturn, 1) := by decide +kernel
theorem dX10_weeks_31 : decode cX10_weeks 31 = .ok (.lconst 0, 1) := by decide +kernel
theorem dX10_weeks_32 : decode cX10_weeks 32 = .ok (.lstore 4, 2) := by decide +kernel
theorem dX10_weeks_34 : decode cX10_weeks 34 = .ok (.iconst 1, 1) := by decide +kernel
theorem dX10_weeks_35 : decode cX10_weeks 35 = .ok (.istore 6, 2) := by decide +kernel
theorem dX10_weeks_37 : decode cX10_weeks 37 = .ok (.iload 6, 2) := by decide +kernel
theorem dX10_weeks_39 : decode cX10_weeks 39 = .ok (.iload_n 1, 1) := by decide +kernel
theorem dX10_weeks_40 : decode cX10_weeks 40 = .ok (.if_icmp .gt 37, 3) := by decide +kernel
theorem dX10_weeks_43 : decode cX10_weeks 43 = .ok (.lload 4, 2) := by decide +kernel
theorem dX10_weeks_45 : decode cX10_weeks 45 = .ok (.aload_n 0, 1) := by decide +kernel
theorem dX10_weeks_46 : decode cX10_weeks 46 = .ok (.getfield 20, 3) := by decide +kernel
theorem dX10_weeks_49 : decode cX10_weeks 49 = .ok (.iconst 2, 1) := by decide +kernel
theorem dX10_weeks_50 : decode cX10_weeks 50 = .ok (.iaload, 1) := by decide +kernel
theorem dX10_weeks_51 : decode cX10_weeks 51 = .ok (.i2l, 1) := by decide +kernel
theorem dX10_weeks_52 : decode cX10_weeks 52 = .ok (.iload 6, 2) := by decide +kernel
theorem dX10_weeks_54 : decode cX10_weeks 54 = .ok (.invokestatic 388, 3) := by decide +kernel
theorem dX10_weeks_57 : decode cX10_weeks 57 = .ok (.ldc2_w 392, 3) := by decide +kernel
theorem dX10_weeks_60 : decode cX10_weeks 60 = .ok (.iload_n 1, 1) := by decide +kernel
theorem dX10_weeks_61 : decode cX10_weeks 61 = .ok (.iload 6, 2) := by decide +kernel
theorem dX10_weeks_63 : decode cX10_weeks 63 = .ok (.isub, 1) := by decide +kernel
theorem dX10_weeks_64 : decode cX10_weeks 64 = .ok (.invokestatic 388, 3) := by decide +kernel
theorem dX10_weeks_67 : decode cX10_weeks 67 = .ok (.lmul, 1) := by decide +kernel
theorem dX10_weeks_68 : decode cX10_weeks 68 = .ok (.ladd, 1) := by decide +kernel
theorem dX10_weeks_69 : decode cX10_weeks 69 = .ok (.lstore 4, 2) := by decide +kernel
theorem dX10_weeks_71 : decode cX10_weeks 71 = .ok (.iinc 6 1, 3) := by decide +kernel
theorem dX10_weeks_74 : decode cX10_weeks 74 = .ok (.goto (-37), 3) := by decide +kernel
theorem dX10_weeks_77 : decode cX10_weeks 77 = .ok (.lload 4, 2) := by decide +kernel
theorem dX10_weeks_79 : decode cX10_weeks 79 = .ok (.ldc2_w 392, 3) := by decide +kernel
theorem dX10_weeks_82 : decode cX10_weeks 82 = .ok (.iload_n 1, 1) := by decide +kernel
theorem dX10_weeks_83 : decode cX10_weeks 83 = .ok (.invokestatic 388, 3) := by decide +kernel
theorem dX10_weeks_86 : decode cX10_weeks 86 = .ok (.iload_n 2, 1) := by decide +kernel
theorem dX10_weeks_87 : decode cX10_weeks 87 = .ok (.invokestatic 348, 3) := by decide +kernel
theorem dX10_weeks_90 : decode cX10_weeks 90 = .ok (.lreturn, 1) := by decide +kernel
theorem dX10_eat_0 : decode cX10_eat 0 = .ok (.iconst 0, 1) := by decide +kernel
theorem dX10_eat_1 : decode cX10_eat 1 = .ok (.istore_n 2, 1) := by decide +kernel
theorem dX10_eat_2 : decode cX10_eat 2 = .ok (.iload_n 2, 1) := by decide +kernel
theorem dX10_eat_3 : decode cX10_eat 3 = .ok (.aload_n 0, 1) := by decide +kernel
theorem dX10_eat_4 : decode cX10_eat 4 = .ok (.getfield 20, 3) := by decide +kernel
theorem dX10_eat_7 : decode cX10_eat 7 = .ok (.iconst 5, 1) := by decide +kernel
theorem dX10_eat_8 : decode cX10_eat 8 = .ok (.iaload, 1) := by decide +kernel
theorem dX10_eat_9 : decode cX10_eat 9 = .ok (.if_icmp .ge 77, 3) := by decide +kernel
theorem dX10_eat_12 : decode cX10_eat 12 = .ok (.aload_n 0, 1) := by decide +kernel
theorem dX10_eat_13 : decode cX10_eat 13 = .ok (.aload_n 0, 1) := by decide +kernel
theorem dX10_eat_14 : decode cX10_eat 14 = .ok (.getfield 35, 3) := by decide +kernel
theorem dX10_eat_17 : decode cX10_eat 17 = .ok (.iload_n 2, 1) := by decide +kernel
theorem dX10_eat_18 : decode cX10_eat 18 = .ok (.iload_n 1, 1) := by decide +kernel
theorem dX10_eat_19 : decode cX10_eat 19 = .ok (.invokevirtual 240, 3) := by decide +kernel
theorem dX10_eat_22 : decode cX10_eat 22 = .ok (.ifCond .ne 6, 3) := by decide +kernel
theorem dX10_eat_25 : decode cX10_eat 25 = .ok (.goto 55, 3) := by decide +kernel
theorem dX10_eat_28 : decode cX10_eat 28 = .ok (.aload_n 0, 1) := by decide +kernel
theorem dX10_eat_29 : decode cX10_eat 29 = .ok (.getfield 35, 3) := by decide +kernel
theorem dX10_eat_32 : decode cX10_eat 32 = .ok (.iload_n 2, 1) := by decide +kernel
theorem dX10_eat_33 : decode cX10_eat 33 = .ok (.iaload, 1) := by decide +kernel
theorem dX10_eat_34 : decode cX10_eat 34 = .ok (.aload_n 0, 1) := by decide +kernel
theorem dX10_eat_35 : decode cX10_eat 35 = .ok (.getfield 20, 3) := by decide +kernel
theorem dX10_eat_38 : decode cX10_eat 38 = .ok (.iconst 0, 1) := by decide +kernel
theorem dX10_eat_39 : decode cX10_eat 39 = .ok (.iaload, 1) := by decide +kernel
theorem dX10_eat_40 : decode cX10_eat 40 = .ok (.if_icmp .ge 12, 3) := by decide +kernel
theorem dX10_eat_43 : decode cX10_eat 43 = .ok (.aload_n 0, 1) := by decide +kernel
theorem dX10_eat_44 : decode cX10_eat 44 = .ok (.getfield 35, 3) := by decide +kernel
theorem dX10_eat_47 : decode cX10_eat 47 = .ok (.iload_n 2, 1) := by decide +kernel
theorem dX10_eat_48 : decode cX10_eat 48 = .ok (.iaload, 1) := by decide +kernel
theorem dX10_eat_49 : decode cX10_eat 49 = .ok (.goto 9, 3) := by decide +kernel
theorem dX10_eat_52 : decode cX10_eat 52 = .ok (.aload_n 0, 1) := by decide +kernel
theorem dX10_eat_53 : decode cX10_eat 53 = .ok (.getfield 20, 3) := by decide +kernel
theorem dX10_eat_56 : decode cX10_eat 56 = .ok (.iconst 0, 1) := by decide +kernel
theorem dX10_eat_57 : decode cX10_eat 57 = .ok (.iaload, 1) := by decide +kernel
theorem dX10_eat_58 : decode cX10_eat 58 = .ok (.istore_n 3, 1) := by decide +kernel
theorem dX10_eat_59 : decode cX10_eat 59 = .ok (.aload_n 0, 1) := by decide +kernel
theorem dX10_eat_60 : decode cX10_eat 60 = .ok (.getfield 35, 3) := by decide +kernel
theorem dX10_eat_63 : decode cX10_eat 63 = .ok (.iload_n 2, 1) := by decide +kernel
theorem dX10_eat_64 : decode cX10_eat 64 = .ok (.dup2, 1) := by decide +kernel
theorem dX10_eat_65 : decode cX10_eat 65 = .ok (.iaload, 1) := by decide +kernel
theorem dX10_eat_66 : decode cX10_eat 66 = .ok (.iload_n 3, 1) := by decide +kernel
theorem dX10_eat_67 : decode cX10_eat 67 = .ok (.isub, 1) := by decide +kernel
theorem dX10_eat_68 : decode cX10_eat 68 = .ok (.iastore, 1) := by decide +kernel
theorem dX10_eat_69 : decode cX10_eat 69 = .ok (.aload_n 0, 1) := by decide +kernel
theorem dX10_eat_70 : decode cX10_eat 70 = .ok (.dup, 1) := by decide +kernel
theorem dX10_eat_71 : decode cX10_eat 71 = .ok (.getfield 394, 3) := by decide +kernel
theorem dX10_eat_74 : decode cX10_eat 74 = .ok (.iload_n 3, 1) := by decide +kernel
theorem dX10_eat_75 : decode cX10_eat 75 = .ok (.iadd, 1) := by decide +kernel
theorem dX10_eat_76 : decode cX10_eat 76 = .ok (.putfield 394, 3) := by decide +kernel
theorem dX10_eat_79 : decode cX10_eat 79 = .ok (.return_, 1) := by decide +kernel
theorem dX10_eat_80 : decode cX10_eat 80 = .ok (.iinc 2 1, 3) := by decide +kernel
theorem dX10_eat_83 : decode cX10_eat 83 = .ok (.goto (-81), 3) := by decide +kernel
theorem dX10_eat_86 : decode cX10_eat 86 = .ok (.return_, 1) := by decide +kernel
theorem dX10_mothsWhy_0 : decode cX10_mothsWhy 0 = .ok (.iload_n 1, 1) := by decide +kernel
theorem dX10_mothsWhy_1 : decode cX10_mothsWhy 1 = .ok (.ifCond .ne 5, 3) := by decide +kernel
theorem dX10_mothsWhy_4 : decode cX10_mothsWhy 4 = .ok (.iconst 1, 1) := by decide +kernel
theorem dX10_mothsWhy_5 : decode cX10_mothsWhy 5 = .ok (.ireturn, 1) := by decide +kernel
theorem dX10_mothsWhy_6 : decode cX10_mothsWhy 6 = .ok (.iload_n 2, 1) := by decide +kernel
theorem dX10_mothsWhy_7 : decode cX10_mothsWhy 7 = .ok (.iconst 0, 1) := by decide +kernel
theorem dX10_mothsWhy_8 : decode cX10_mothsWhy 8 = .ok (.ldc_w 397, 3) := by decide +kernel
theorem dX10_mothsWhy_11 : decode cX10_mothsWhy 11 = .ok (.invokestatic 139, 3) := by decide +kernel
theorem dX10_mothsWhy_14 : decode cX10_mothsWhy 14 = .ok (.ifCond .eq 13, 3) := by decide +kernel
theorem dX10_mothsWhy_17 : decode cX10_mothsWhy 17 = .ok (.iload_n 3, 1) := by decide +kernel
theorem dX10_mothsWhy_18 : decode cX10_mothsWhy 18 = .ok (.iconst 0, 1) := by decide +kernel
theorem dX10_mothsWhy_19 : decode cX10_mothsWhy 19 = .ok (.bipush 20, 2) := by decide +kernel
theorem dX10_mothsWhy_21 : decode cX10_mothsWhy 21 = .ok (.invokestatic 139, 3) := by decide +kernel
theorem dX10_mothsWhy_24 : decode cX10_mothsWhy 24 = .ok (.ifCond .ne 5, 3) := by decide +kernel
theorem dX10_mothsWhy_27 : decode cX10_mothsWhy 27 = .ok (.iconst 2, 1) := by decide +kernel
theorem dX10_mothsWhy_28 : decode cX10_mothsWhy 28 = .ok (.ireturn, 1) := by decide +kernel
theorem dX10_mothsWhy_29 : decode cX10_mothsWhy 29 = .ok (.aload_n 0, 1) := by decide +kernel
theorem dX10_mothsWhy_30 : decode cX10_mothsWhy 30 = .ok (.iconst 0, 1) := by decide +kernel
theorem dX10_mothsWhy_31 : decode cX10_mothsWhy 31 = .ok (.invokevirtual 293, 3) := by decide +kernel
theorem dX10_mothsWhy_34 : decode cX10_mothsWhy 34 = .ok (.aload_n 0, 1) := by decide +kernel
theorem dX10_mothsWhy_35 : decode cX10_mothsWhy 35 = .ok (.iconst 0, 1) := by decide +kernel
theorem dX10_mothsWhy_36 : decode cX10_mothsWhy 36 = .ok (.putfield 394, 3) := by decide +kernel
theorem dX10_mothsWhy_39 : decode cX10_mothsWhy 39 = .ok (.iload_n 2, 1) := by decide +kernel
theorem dX10_mothsWhy_40 : decode cX10_mothsWhy 40 = .ok (.istore 4, 2) := by decide +kernel
theorem dX10_mothsWhy_42 : decode cX10_mothsWhy 42 = .ok (.iconst 0, 1) := by decide +kernel
theorem dX10_mothsWhy_43 : decode cX10_mothsWhy 43 = .ok (.istore 5, 2) := by decide +kernel
theorem dX10_mothsWhy_45 : decode cX10_mothsWhy 45 = .ok (.iload 5, 2) := by decide +kernel
theorem dX10_mothsWhy_47 : decode cX10_mothsWhy 47 = .ok (.iload_n 3, 1) := by decide +kernel
theorem dX10_mothsWhy_48 : decode cX10_mothsWhy 48 = .ok (.if_icmp .ge 90, 3) := by decide +kernel
theorem dX10_mothsWhy_51 : decode cX10_mothsWhy 51 = .ok (.aload_n 0, 1) := by decide +kernel
theorem dX10_mothsWhy_52 : decode cX10_mothsWhy 52 = .ok (.getfield 35, 3) := by decide +kernel
theorem dX10_mothsWhy_55 : decode cX10_mothsWhy 55 = .ok (.bipush 12, 2) := by decide +kernel
theorem dX10_mothsWhy_57 : decode cX10_mothsWhy 57 = .ok (.dup2, 1) := by decide +kernel
theorem dX10_mothsWhy_58 : decode cX10_mothsWhy 58 = .ok (.iaload, 1) := by decide +kernel
theorem dX10_mothsWhy_59 : decode cX10_mothsWhy 59 = .ok (.iconst 1, 1) := by decide +kernel
theorem dX10_mothsWhy_60 : decode cX10_mothsWhy 60 = .ok (.iadd, 1) := by decide +kernel
theorem dX10_mothsWhy_61 : decode cX10_mothsWhy 61 = .ok (.iastore, 1) := by decide +kernel
theorem dX10_mothsWhy_62 : decode cX10_mothsWhy 62 = .ok (.iconst 0, 1) := by decide +kernel
theorem dX10_mothsWhy_63 : decode cX10_mothsWhy 63 = .ok (.istore 6, 2) := by decide +kernel
theorem dX10_mothsWhy_65 : decode cX10_mothsWhy 65 = .ok (.iload 6, 2) := by decide +kernel
theorem dX10_mothsWhy_67 : decode cX10_mothsWhy 67 = .ok (.aload_n 0, 1) := by decide +kernel
theorem dX10_mothsWhy_68 : decode cX10_mothsWhy 68 = .ok (.getfield 20, 3) := by decide +kernel
theorem dX10_mothsWhy_71 : decode cX10_mothsWhy 71 = .ok (.iconst 4, 1) := by decide +kernel
theorem dX10_mothsWhy_72 : decode cX10_mothsWhy 72 = .ok (.iaload, 1) := by decide +kernel
theorem dX10_mothsWhy_73 : decode cX10_mothsWhy 73 = .ok (.if_icmp .ge 59, 3) := by decide +kernel
theorem dX10_mothsWhy_76 : decode cX10_mothsWhy 76 = .ok (.aload_n 0, 1) := by decide +kernel
theorem dX10_mothsWhy_77 : decode cX10_mothsWhy 77 = .ok (.aload_n 0, 1) := by decide +kernel
theorem dX10_mothsWhy_78 : decode cX10_mothsWhy 78 = .ok (.getfield 35, 3) := by decide +kernel
theorem dX10_mothsWhy_81 : decode cX10_mothsWhy 81 = .ok (.iload 6, 2) := by decide +kernel
theorem dX10_mothsWhy_83 : decode cX10_mothsWhy 83 = .ok (.invokevirtual 261, 3) := by decide +kernel
theorem dX10_mothsWhy_86 : decode cX10_mothsWhy 86 = .ok (.ifCond .ne 6, 3) := by decide +kernel
theorem dX10_mothsWhy_89 : decode cX10_mothsWhy 89 = .ok (.goto 37, 3) := by decide +kernel
theorem dX10_mothsWhy_92 : decode cX10_mothsWhy 92 = .ok (.bipush 75, 2) := by decide +kernel
theorem dX10_mothsWhy_94 : decode cX10_mothsWhy 94 = .ok (.iload 4, 2) := by decide +kernel
theorem dX10_mothsWhy_96 : decode cX10_mothsWhy 96 = .ok (.imul, 1) := by decide +kernel
theorem dX10_mothsWhy_97 : decode cX10_mothsWhy 97 = .ok (.bipush 74, 2) := by decide +kernel
theorem dX10_mothsWhy_99 : decode cX10_mothsWhy 99 = .ok (.iadd, 1) := by decide +kernel
theorem dX10_mothsWhy_100 : decode cX10_mothsWhy 100 = .ok (.ldc_w 398, 3) := by decide +kernel
theorem dX10_mothsWhy_103 : decode cX10_mothsWhy 103 = .ok (.irem, 1) := by decide +kernel
theorem dX10_mothsWhy_104 : decode cX10_mothsWhy 104 = .ok (.istore 4, 2) := by decide +kernel
theorem dX10_mothsWhy_106 : decode cX10_mothsWhy 106 = .ok (.iload 4, 2) := by decide +kernel
theorem dX10_mothsWhy_108 : decode cX10_mothsWhy 108 = .ok (.bipush 100, 2) := by decide +kernel
theorem dX10_mothsWhy_110 : decode cX10_mothsWhy 110 = .ok (.irem, 1) := by decide +kernel
theorem dX10_mothsWhy_111 : decode cX10_mothsWhy 111 = .ok (.aload_n 0, 1) := by decide +kernel
theorem dX10_mothsWhy_112 : decode cX10_mothsWhy 112 = .ok (.getfield 20, 3) := by decide +kernel
theorem dX10_mothsWhy_115 : decode cX10_mothsWhy 115 = .ok (.iconst 3, 1) := by decide +kernel
theorem dX10_mothsWhy_116 : decode cX10_mothsWhy 116 = .ok (.iaload, 1) := by decide +kernel
theorem dX10_mothsWhy_117 : decode cX10_mothsWhy 117 = .ok (.if_icmp .ge 9, 3) := by decide +kernel
theorem dX10_mothsWhy_120 : decode cX10_mothsWhy 120 = .ok (.aload_n 0, 1) := by decide +kernel
theorem dX10_mothsWhy_121 : decode cX10_mothsWhy 121 = .ok (.iload 6, 2) := by decide +kernel
theorem dX10_mothsWhy_123 : decode cX10_mothsWhy 123 = .ok (.invokevirtual 399, 3) := by decide +kernel
theorem dX10_mothsWhy_126 : decode cX10_mothsWhy 126 = .ok (.iinc 6 1, 3) := by decide +kernel
theorem dX10_mothsWhy_129 : decode cX10_mothsWhy 129 = .ok (.goto (-64), 3) := by decide +kernel
theorem dX10_mothsWhy_132 : decode cX10_mothsWhy 132 = .ok (.iinc 5 1, 3) := by decide +kernel
theorem dX10_mothsWhy_135 : decode cX10_mothsWhy 135 = .ok (.goto (-90), 3) := by decide +kernel
theorem dX10_mothsWhy_138 : decode cX10_mothsWhy 138 = .ok (.iconst 0, 1) := by decide +kernel
theorem dX10_mothsWhy_139 : decode cX10_mothsWhy 139 = .ok (.ireturn, 1) := by decide +kernel
theorem dX10_moths_0 : decode cX10_moths 0 = .ok (.aload_n 0, 1) := by decide +kernel
theorem dX10_moths_1 : decode cX10_moths 1 = .ok (.invokevirtual 154, 3) := by decide +kernel
theorem dX10_moths_4 : decode cX10_moths 4 = .ok (.aload_n 0, 1) := by decide +kernel
theorem dX10_moths_5 : decode cX10_moths 5 = .ok (.aload_n 0, 1) := by decide +kernel
theorem dX10_moths_6 : decode cX10_moths 6 = .ok (.iload_n 1, 1) := by decide +kernel
theorem dX10_moths_7 : decode cX10_moths 7 = .ok (.invokevirtual 264, 3) := by decide +kernel
theorem dX10_moths_10 : decode cX10_moths 10 = .ok (.iload_n 2, 1) := by decide +kernel
theorem dX10_moths_11 : decode cX10_moths 11 = .ok (.iload_n 3, 1) := by decide +kernel
theorem dX10_moths_12 : decode cX10_moths 12 = .ok (.invokevirtual 402, 3) := by decide +kernel
theorem dX10_moths_15 : decode cX10_moths 15 = .ok (.istore 4, 2) := by decide +kernel
theorem dX10_moths_17 : decode cX10_moths 17 = .ok (.iload 4, 2) := by decide +kernel
theorem dX10_moths_19 : decode cX10_moths 19 = .ok (.ifCond .eq 12, 3) := by decide +kernel
theorem dX10_moths_22 : decode cX10_moths 22 = .ok (.aload_n 0, 1) := by decide +kernel
theorem dX10_moths_23 : decode cX10_moths 23 = .ok (.iload 4, 2) := by decide +kernel
theorem dX10_moths_25 : decode cX10_moths 25 = .ok (.invokevirtual 157, 3) := by decide +kernel
theorem dX10_moths_28 : decode cX10_moths 28 = .ok (.goto 12, 3) := by decide +kernel
theorem dX10_moths_31 : decode cX10_moths 31 = .ok (.aload_n 0, 1) := by decide +kernel
theorem dX10_moths_32 : decode cX10_moths 32 = .ok (.aload_n 0, 1) := by decide +kernel
theorem dX10_moths_33 : decode cX10_moths 33 = .ok (.getfield 35, 3) := by decide +kernel
theorem dX10_moths_36 : decode cX10_moths 36 = .ok (.iload_n 1, 1) := by decide +kernel
theorem dX10_moths_37 : decode cX10_moths 37 = .ok (.invokevirtual 261, 3) := by decide +kernel
theorem dX10_moths_40 : decode cX10_moths 40 = .ok (.ireturn, 1) := by decide +kernel
theorem dX10_eaten_0 : decode cX10_eaten 0 = .ok (.aload_n 0, 1) := by decide +kernel
theorem dX10_eaten_1 : decode cX10_eaten 1 = .ok (.invokevirtual 154, 3) := by decide +kernel
theorem dX10_eaten_4 : decode cX10_eaten 4 = .ok (.aload_n 0, 1) := by decide +kernel
theorem dX10_eaten_5 : decode cX10_eaten 5 = .ok (.aload_n 0, 1) := by decide +kernel
theorem dX10_eaten_6 : decode cX10_eaten 6 = .ok (.getfield 167, 3) := by decide +kernel
theorem dX10_eaten_9 : decode cX10_eaten 9 = .ok (.iload_n 1, 1) := by decide +kernel
theorem dX10_eaten_10 : decode cX10_eaten 10 = .ok (.iload_n 2, 1) := by decide +kernel
theorem dX10_eaten_11 : decode cX10_eaten 11 = .ok (.invokevirtual 402, 3) := by decide +kernel
theorem dX10_eaten_14 : decode cX10_eaten 14 = .ok (.istore_n 3, 1) := by decide +kernel
theorem dX10_eaten_15 : decode cX10_eaten 15 = .ok (.iload_n 3, 1) := by decide +kernel
theorem dX10_eaten_16 : decode cX10_eaten 16 = .ok (.ifCond .eq 11, 3) := by decide +kernel
theorem dX10_eaten_19 : decode cX10_eaten 19 = .ok (.aload_n 0, 1) := by decide +kernel
theorem dX10_eaten_20 : decode cX10_eaten 20 = .ok (.iload_n 3, 1) := by decide +kernel
theorem dX10_eaten_21 : decode cX10_eaten 21 = .ok (.invokevirtual 157, 3) := by decide +kernel
theorem dX10_eaten_24 : decode cX10_eaten 24 = .ok (.goto 7, 3) := by decide +kernel
theorem dX10_eaten_27 : decode cX10_eaten 27 = .ok (.aload_n 0, 1) := by decide +kernel
theorem dX10_eaten_28 : decode cX10_eaten 28 = .ok (.getfield 394, 3) := by decide +kernel
theorem dX10_eaten_31 : decode cX10_eaten 31 = .ok (.ireturn, 1) := by decide +kernel
theorem dX10_note_0 : decode cX10_note 0 = .ok (.aload_n 0, 1) := by decide +kernel
theorem dX10_note_1 : decode cX10_note 1 = .ok (.getfield 170, 3) := by decide +kernel
theorem dX10_note_4 : decode cX10_note 4 = .ok (.bipush 16, 2) := by decide +kernel
theorem dX10_note_6 : decode cX10_note 6 = .ok (.if_icmp .ne 43, 3) := by decide +kernel
theorem dX10_note_9 : decode cX10_note 9 = .ok (.iconst 0, 1) := by decide +kernel
theorem dX10_note_10 : decode cX10_note 10 = .ok (.istore_n 1, 1) := by decide +kernel
theorem dX10_note_11 : decode cX10_note 11 = .ok (.iload_n 1, 1) := by decide +kernel
theorem dX10_note_12 : decode cX10_note 12 = .ok (.sipush 195, 3) := by decide +kernel
theorem dX10_note_15 : decode cX10_note 15 = .ok (.if_icmp .ge 24, 3) := by decide +kernel
theorem dX10_note_18 : decode cX10_note 18 = .ok (.aload_n 0, 1) := by decide +kernel
theorem dX10_note_19 : decode cX10_note 19 = .ok (.getfield 29, 3) := by decide +kernel
theorem dX10_note_22 : decode cX10_note 22 = .ok (.iload_n 1, 1) := by decide +kernel
theorem dX10_note_23 : decode cX10_note 23 = .ok (.aload_n 0, 1) := by decide +kernel
theorem dX10_note_24 : decode cX10_note 24 = .ok (.getfield 29, 3) := by decide +kernel
theorem dX10_note_27 : decode cX10_note 27 = .ok (.iload_n 1, 1) := by decide +kernel
theorem dX10_note_28 : decode cX10_note 28 = .ok (.bipush 13, 2) := by decide +kernel
theorem dX10_note_30 : decode cX10_note 30 = .ok (.iadd, 1) := by decide +kernel
theorem dX10_note_31 : decode cX10_note 31 = .ok (.iaload, 1) := by decide +kernel
theorem dX10_note_32 : decode cX10_note 32 = .ok (.iastore, 1) := by decide +kernel
theorem dX10_note_33 : decode cX10_note 33 = .ok (.iinc 1 1, 3) := by decide +kernel
theorem dX10_note_36 : decode cX10_note 36 = .ok (.goto (-25), 3) := by decide +kernel
theorem dX10_note_39 : decode cX10_note 39 = .ok (.aload_n 0, 1) := by decide +kernel
theorem dX10_note_40 : decode cX10_note 40 = .ok (.dup, 1) := by decide +kernel
theorem dX10_note_41 : decode cX10_note 41 = .ok (.getfield 170, 3) := by decide +kernel
theorem dX10_note_44 : decode cX10_note 44 = .ok (.iconst 1, 1) := by decide +kernel
theorem dX10_note_45 : decode cX10_note 45 = .ok (.isub, 1) := by decide +kernel
theorem dX10_note_46 : decode cX10_note 46 = .ok (.putfield 170, 3) := by decide +kernel
theorem dX10_note_49 : decode cX10_note 49 = .ok (.aload_n 0, 1) := by decide +kernel
theorem dX10_note_50 : decode cX10_note 50 = .ok (.getfield 26, 3) := by decide +kernel
theorem dX10_note_53 : decode cX10_note 53 = .ok (.iconst 0, 1) := by decide +kernel
theorem dX10_note_54 : decode cX10_note 54 = .ok (.aload_n 0, 1) := by decide +kernel
theorem dX10_note_55 : decode cX10_note 55 = .ok (.getfield 29, 3) := by decide +kernel
theorem dX10_note_58 : decode cX10_note 58 = .ok (.bipush 13, 2) := by decide +kernel
theorem dX10_note_60 : decode cX10_note 60 = .ok (.aload_n 0, 1) := by decide +kernel
theorem dX10_note_61 : decode cX10_note 61 = .ok (.getfield 170, 3) := by decide +kernel
theorem dX10_note_64 : decode cX10_note 64 = .ok (.imul, 1) := by decide +kernel
theorem dX10_note_65 : decode cX10_note 65 = .ok (.bipush 13, 2) := by decide +kernel
theorem dX10_note_67 : decode cX10_note 67 = .ok (.invokestatic 163, 3) := by decide +kernel
theorem dX10_note_70 : decode cX10_note 70 = .ok (.aload_n 0, 1) := by decide +kernel
theorem dX10_note_71 : decode cX10_note 71 = .ok (.dup, 1) := by decide +kernel
theorem dX10_note_72 : decode cX10_note 72 = .ok (.getfield 170, 3) := by decide +kernel
theorem dX10_note_75 : decode cX10_note 75 = .ok (.iconst 1, 1) := by decide +kernel
theorem dX10_note_76 : decode cX10_note 76 = .ok (.iadd, 1) := by decide +kernel
theorem dX10_note_77 : decode cX10_note 77 = .ok (.putfield 170, 3) := by decide +kernel
theorem dX10_note_80 : decode cX10_note 80 = .ok (.return_, 1) := by decide +kernel
theorem dX10_pay_0 : decode cX10_pay 0 = .ok (.aload_n 0, 1) := by decide +kernel
theorem dX10_pay_1 : decode cX10_pay 1 = .ok (.invokevirtual 154, 3) := by decide +kernel
theorem dX10_pay_4 : decode cX10_pay 4 = .ok (.aload_n 0, 1) := by decide +kernel
theorem dX10_pay_5 : decode cX10_pay 5 = .ok (.iload_n 1, 1) := by decide +kernel
theorem dX10_pay_6 : decode cX10_pay 6 = .ok (.invokevirtual 276, 3) := by decide +kernel
theorem dX10_pay_9 : decode cX10_pay 9 = .ok (.ifCond .ne 9, 3) := by decide +kernel
theorem dX10_pay_12 : decode cX10_pay 12 = .ok (.aload_n 0, 1) := by decide +kernel
theorem dX10_pay_13 : decode cX10_pay 13 = .ok (.iconst 1, 1) := by decide +kernel
theorem dX10_pay_14 : decode cX10_pay 14 = .ok (.invokevirtual 157, 3) := by decide +kernel
theorem dX10_pay_17 : decode cX10_pay 17 = .ok (.ireturn, 1) := by decide +kernel
theorem dX10_pay_18 : decode cX10_pay 18 = .ok (.iload_n 2, 1) := by decide +kernel
theorem dX10_pay_19 : decode cX10_pay 19 = .ok (.iconst 1, 1) := by decide +kernel
theorem dX10_pay_20 : decode cX10_pay 20 = .ok (.bipush 99, 2) := by decide +kernel
theorem dX10_pay_22 : decode cX10_pay 22 = .ok (.invokestatic 139, 3) := by decide +kernel
theorem dX10_pay_25 : decode cX10_pay 25 = .ok (.ifCond .ne 9, 3) := by decide +kernel
theorem dX10_pay_28 : decode cX10_pay 28 = .ok (.aload_n 0, 1) := by decide +kernel
theorem dX10_pay_29 : decode cX10_pay 29 = .ok (.iconst 2, 1) := by decide +kernel
theorem dX10_pay_30 : decode cX10_pay 30 = .ok (.invokevirtual 157, 3) := by decide +kernel
theorem dX10_pay_33 : decode cX10_pay 33 = .ok (.ireturn, 1) := by decide +kernel
theorem dX10_pay_34 : decode cX10_pay 34 = .ok (.aload_n 0, 1) := by decide +kernel
theorem dX10_pay_35 : decode cX10_pay 35 = .ok (.aload_n 0, 1) := by decide +kernel
theorem dX10_pay_36 : decode cX10_pay 36 = .ok (.getfield 26, 3) := by decide +kernel
theorem dX10_pay_39 : decode cX10_pay 39 = .ok (.iload_n 1, 1) := by decide +kernel
theorem dX10_pay_40 : decode cX10_pay 40 = .ok (.invokevirtual 236, 3) := by decide +kernel
theorem dX10_pay_43 : decode cX10_pay 43 = .ok (.ifCond .eq 13, 3) := by decide +kernel
theorem dX10_pay_46 : decode cX10_pay 46 = .ok (.aload_n 0, 1) := by decide +kernel
theorem dX10_pay_47 : decode cX10_pay 47 = .ok (.getfield 26, 3) := by decide +kernel
theorem dX10_pay_50 : decode cX10_pay 50 = .ok (.iload_n 1, 1) := by decide +kernel
theorem dX10_pay_51 : decode cX10_pay 51 = .ok (.iaload, 1) := by decide +kernel
theorem dX10_pay_52 : decode cX10_pay 52 = .ok (.iload_n 2, 1) := by decide +kernel
theorem dX10_pay_53 : decode cX10_pay 53 = .ok (.if_icmp .ge 9, 3) := by decide +kernel
theorem dX10_pay_56 : decode cX10_pay 56 = .ok (.aload_n 0, 1) := by decide +kernel
theorem dX10_pay_57 : decode cX10_pay 57 = .ok (.iconst 5, 1) := by decide +kernel
theorem dX10_pay_58 : decode cX10_pay 58 = .ok (.invokevirtual 157, 3) := by decide +kernel
theorem dX10_pay_61 : decode cX10_pay 61 = .ok (.ireturn, 1) := by decide +kernel
theorem dX10_pay_62 : decode cX10_pay 62 = .ok (.aload_n 0, 1) := by decide +kernel
theorem dX10_pay_63 : decode cX10_pay 63 = .ok (.getfield 26, 3) := by decide +kernel
theorem dX10_pay_66 : decode cX10_pay 66 = .ok (.bipush 7, 2) := by decide +kernel
theorem dX10_pay_68 : decode cX10_pay 68 = .ok (.aload_n 0, 1) := by decide +kernel
theorem dX10_pay_69 : decode cX10_pay 69 = .ok (.getfield 20, 3) := by decide +kernel
theorem dX10_pay_72 : decode cX10_pay 72 = .ok (.bipush 25, 2) := by decide +kernel
theorem dX10_pay_74 : decode cX10_pay 74 = .ok (.iconst 4, 1) := by decide +kernel
theorem dX10_pay_75 : decode cX10_pay 75 = .ok (.iload_n 1, 1) := by decide +kernel
theorem dX10_pay_76 : decode cX10_pay 76 = .ok (.imul, 1) := by decide +kernel
theorem dX10_pay_77 : decode cX10_pay 77 = .ok (.iadd, 1) := by decide +kernel
theorem dX10_pay_78 : decode cX10_pay 78 = .ok (.iaload, 1) := by decide +kernel
theorem dX10_pay_79 : decode cX10_pay 79 = .ok (.iadd, 1) := by decide +kernel
theorem dX10_pay_80 : decode cX10_pay 80 = .ok (.iaload, 1) := by decide +kernel
theorem dX10_pay_81 : decode cX10_pay 81 = .ok (.iload_n 2, 1) := by decide +kernel
theorem dX10_pay_82 : decode cX10_pay 82 = .ok (.if_icmp .ge 10, 3) := by decide +kernel
theorem dX10_pay_85 : decode cX10_pay 85 = .ok (.aload_n 0, 1) := by decide +kernel
theorem dX10_pay_86 : decode cX10_pay 86 = .ok (.bipush 6, 2) := by decide +kernel
theorem dX10_pay_88 : decode cX10_pay 88 = .ok (.invokevirtual 157, 3) := by decide +kernel
theorem dX10_pay_91 : decode cX10_pay 91 = .ok (.ireturn, 1) := by decide +kernel
theorem dX10_pay_92 : decode cX10_pay 92 = .ok (.aload_n 0, 1) := by decide +kernel
theorem dX10_pay_93 : decode cX10_pay 93 = .ok (.invokevirtual 406, 3) := by decide +kernel
theorem dX10_pay_96 : decode cX10_pay 96 = .ok (.aload_n 0, 1) := by decide +kernel
theorem dX10_pay_97 : decode cX10_pay 97 = .ok (.getfield 26, 3) := by decide +kernel
theorem dX10_pay_100 : decode cX10_pay 100 = .ok (.bipush 7, 2) := by decide +kernel
theorem dX10_pay_102 : decode cX10_pay 102 = .ok (.aload_n 0, 1) := by decide +kernel
theorem dX10_pay_103 : decode cX10_pay 103 = .ok (.getfield 20, 3) := by decide +kernel
theorem dX10_pay_106 : decode cX10_pay 106 = .ok (.bipush 25, 2) := by decide +kernel
theorem dX10_pay_108 : decode cX10_pay 108 = .ok (.iconst 4, 1) := by decide +kernel
theorem dX10_pay_109 : decode cX10_pay 109 = .ok (.iload_n 1, 1) := by decide +kernel
theorem dX10_pay_110 : decode cX10_pay 110 = .ok (.imul, 1) := by decide +kernel
theorem dX10_pay_111 : decode cX10_pay 111 = .ok (.iadd, 1) := by decide +kernel
theorem dX10_pay_112 : decode cX10_pay 112 = .ok (.iaload, 1) := by decide +kernel
theorem dX10_pay_113 : decode cX10_pay 113 = .ok (.iadd, 1) := by decide +kernel
theorem dX10_pay_114 : decode cX10_pay 114 = .ok (.dup2, 1) := by decide +kernel
theorem dX10_pay_115 : decode cX10_pay 115 = .ok (.iaload, 1) := by decide +kernel
theorem dX10_pay_116 : decode cX10_pay 116 = .ok (.iload_n 2, 1) := by decide +kernel
theorem dX10_pay_117 : decode cX10_pay 117 = .ok (.isub, 1) := by decide +kernel
theorem dX10_pay_118 : decode cX10_pay 118 = .ok (.iastore, 1) := by decide +kernel
theorem dX10_pay_119 : decode cX10_pay 119 = .ok (.aload_n 0, 1) := by decide +kernel
theorem dX10_pay_120 : decode cX10_pay 120 = .ok (.getfield 26, 3) := by decide +kernel
theorem dX10_pay_123 : decode cX10_pay 123 = .ok (.bipush 7, 2) := by decide +kernel
theorem dX10_pay_125 : decode cX10_pay 125 = .ok (.aload_n 0, 1) := by decide +kernel
theorem dX10_pay_126 : decode cX10_pay 126 = .ok (.getfield 20, 3) := by decide +kernel
theorem dX10_pay_129 : decode cX10_pay 129 = .ok (.bipush 25, 2) := by decide +kernel
theorem dX10_pay_131 : decode cX10_pay 131 = .ok (.iconst 4, 1) := by decide +kernel
theorem dX10_pay_132 : decode cX10_pay 132 = .ok (.iload_n 1, 1) := by decide +kernel
theorem dX10_pay_133 : decode cX10_pay 133 = .ok (.imul, 1) := by decide +kernel
theorem dX10_pay_134 : decode cX10_pay 134 = .ok (.iadd, 1) := by decide +kernel
theorem dX10_pay_135 : decode cX10_pay 135 = .ok (.iconst 1, 1) := by decide +kernel
theorem dX10_pay_136 : decode cX10_pay 136 = .ok (.iadd, 1) := by decide +kernel
theorem dX10_pay_137 : decode cX10_pay 137 = .ok (.iaload, 1) := by decide +kernel
theorem dX10_pay_138 : decode cX10_pay 138 = .ok (.iadd, 1) := by decide +kernel
theorem dX10_pay_139 : decode cX10_pay 139 = .ok (.dup2, 1) := by decide +kernel
theorem dX10_pay_140 : decode cX10_pay 140 = .ok (.iaload, 1) := by decide +kernel
theorem dX10_pay_141 : decode cX10_pay 141 = .ok (.iload_n 2, 1) := by decide +kernel
theorem dX10_pay_142 : decode cX10_pay 142 = .ok (.iadd, 1) := by decide +kernel
theorem dX10_pay_143 : decode cX10_pay 143 = .ok (.iastore, 1) := by decide +kernel
theorem dX10_pay_144 : decode cX10_pay 144 = .ok (.aload_n 0, 1) := by decide +kernel
theorem dX10_pay_145 : decode cX10_pay 145 = .ok (.getfield 26, 3) := by decide +kernel
theorem dX10_pay_148 : decode cX10_pay 148 = .ok (.iload_n 1, 1) := by decide +kernel
theorem dX10_pay_149 : decode cX10_pay 149 = .ok (.dup2, 1) := by decide +kernel
theorem dX10_pay_150 : decode cX10_pay 150 = .ok (.iaload, 1) := by decide +kernel
theorem dX10_pay_151 : decode cX10_pay 151 = .ok (.iload_n 2, 1) := by decide +kernel
theorem dX10_pay_152 : decode cX10_pay 152 = .ok (.isub, 1) := by decide +kernel
theorem dX10_pay_153 : decode cX10_pay 153 = .ok (.iastore, 1) := by decide +kernel
theorem dX10_pay_154 : decode cX10_pay 154 = .ok (.aload_n 0, 1) := by decide +kernel
theorem dX10_pay_155 : decode cX10_pay 155 = .ok (.getfield 26, 3) := by decide +kernel
theorem dX10_pay_158 : decode cX10_pay 158 = .ok (.iload_n 1, 1) := by decide +kernel
theorem dX10_pay_159 : decode cX10_pay 159 = .ok (.iaload, 1) := by decide +kernel
theorem dX10_pay_160 : decode cX10_pay 160 = .ok (.ireturn, 1) := by decide +kernel
theorem dX10_lessen_0 : decode cX10_lessen 0 = .ok (.iload_n 3, 1) := by decide +kernel
theorem dX10_lessen_1 : decode cX10_lessen 1 = .ok (.istore 4, 2) := by decide +kernel
theorem dX10_lessen_3 : decode cX10_lessen 3 = .ok (.iconst 0, 1) := by decide +kernel
theorem dX10_lessen_4 : decode cX10_lessen 4 = .ok (.istore 5, 2) := by decide +kernel
theorem dX10_lessen_6 : decode cX10_lessen 6 = .ok (.iload 5, 2) := by decide +kernel
theorem dX10_lessen_8 : decode cX10_lessen 8 = .ok (.aload_n 0, 1) := by decide +kernel
theorem dX10_lessen_9 : decode cX10_lessen 9 = .ok (.getfield 20, 3) := by decide +kernel
theorem dX10_lessen_12 : decode cX10_lessen 12 = .ok (.iconst 5, 1) := by decide +kernel
theorem dX10_lessen_13 : decode cX10_lessen 13 = .ok (.iaload, 1) := by decide +kernel
theorem dX10_lessen_14 : decode cX10_lessen 14 = .ok (.if_icmp .ge 89, 3) := by decide +kernel
theorem dX10_lessen_17 : decode cX10_lessen 17 = .ok (.aload_n 0, 1) := by decide +kernel
theorem dX10_lessen_18 : decode cX10_lessen 18 = .ok (.aload_n 0, 1) := by decide +kernel
theorem dX10_lessen_19 : decode cX10_lessen 19 = .ok (.getfield 26, 3) := by decide +kernel
theorem dX10_lessen_22 : decode cX10_lessen 22 = .ok (.iload 5, 2) := by decide +kernel
theorem dX10_lessen_24 : decode cX10_lessen 24 = .ok (.iload_n 1, 1) := by decide +kernel
theorem dX10_lessen_25 : decode cX10_lessen 25 = .ok (.invokevirtual 240, 3) := by decide +kernel
theorem dX10_lessen_28 : decode cX10_lessen 28 = .ok (.ifCond .eq 69, 3) := by decide +kernel
theorem dX10_lessen_31 : decode cX10_lessen 31 = .ok (.aload_n 0, 1) := by decide +kernel
theorem dX10_lessen_32 : decode cX10_lessen 32 = .ok (.getfield 20, 3) := by decide +kernel
theorem dX10_lessen_35 : decode cX10_lessen 35 = .ok (.bipush 25, 2) := by decide +kernel
theorem dX10_lessen_37 : decode cX10_lessen 37 = .ok (.iconst 4, 1) := by decide +kernel
theorem dX10_lessen_38 : decode cX10_lessen 38 = .ok (.iload 5, 2) := by decide +kernel
theorem dX10_lessen_40 : decode cX10_lessen 40 = .ok (.imul, 1) := by decide +kernel
theorem dX10_lessen_41 : decode cX10_lessen 41 = .ok (.iadd, 1) := by decide +kernel
theorem dX10_lessen_42 : decode cX10_lessen 42 = .ok (.iconst 1, 1) := by decide +kernel
theorem dX10_lessen_43 : decode cX10_lessen 43 = .ok (.iadd, 1) := by decide +kernel
theorem dX10_lessen_44 : decode cX10_lessen 44 = .ok (.iaload, 1) := by decide +kernel
theorem dX10_lessen_45 : decode cX10_lessen 45 = .ok (.iload_n 2, 1) := by decide +kernel
theorem dX10_lessen_46 : decode cX10_lessen 46 = .ok (.if_icmp .eq 6, 3) := by decide +kernel
theorem dX10_lessen_49 : decode cX10_lessen 49 = .ok (.goto 48, 3) := by decide +kernel
theorem dX10_lessen_52 : decode cX10_lessen 52 = .ok (.aload_n 0, 1) := by decide +kernel
theorem dX10_lessen_53 : decode cX10_lessen 53 = .ok (.getfield 26, 3) := by decide +kernel
theorem dX10_lessen_56 : decode cX10_lessen 56 = .ok (.iload 5, 2) := by decide +kernel
theorem dX10_lessen_58 : decode cX10_lessen 58 = .ok (.iaload, 1) := by decide +kernel
theorem dX10_lessen_59 : decode cX10_lessen 59 = .ok (.iload 4, 2) := by decide +kernel
theorem dX10_lessen_61 : decode cX10_lessen 61 = .ok (.if_icmp .ge 13, 3) := by decide +kernel
theorem dX10_lessen_64 : decode cX10_lessen 64 = .ok (.aload_n 0, 1) := by decide +kernel
theorem dX10_lessen_65 : decode cX10_lessen 65 = .ok (.getfield 26, 3) := by decide +kernel
theorem dX10_lessen_68 : decode cX10_lessen 68 = .ok (.iload 5, 2) := by decide +kernel
theorem dX10_lessen_70 : decode cX10_lessen 70 = .ok (.iaload, 1) := by decide +kernel
theorem dX10_lessen_71 : decode cX10_lessen 71 = .ok (.goto 5, 3) := by decide +kernel
theorem dX10_lessen_74 : decode cX10_lessen 74 = .ok (.iload 4, 2) := by decide +kernel
theorem dX10_lessen_76 : decode cX10_lessen 76 = .ok (.istore 6, 2) := by decide +kernel
theorem dX10_lessen_78 : decode cX10_lessen 78 = .ok (.aload_n 0, 1) := by decide +kernel
theorem dX10_lessen_79 : decode cX10_lessen 79 = .ok (.getfield 26, 3) := by decide +kernel
theorem dX10_lessen_82 : decode cX10_lessen 82 = .ok (.iload 5, 2) := by decide +kernel
theorem dX10_lessen_84 : decode cX10_lessen 84 = .ok (.dup2, 1) := by decide +kernel
theorem dX10_lessen_85 : decode cX10_lessen 85 = .ok (.iaload, 1) := by decide +kernel
theorem dX10_lessen_86 : decode cX10_lessen 86 = .ok (.iload 6, 2) := by decide +kernel
theorem dX10_lessen_88 : decode cX10_lessen 88 = .ok (.isub, 1) := by decide +kernel
theorem dX10_lessen_89 : decode cX10_lessen 89 = .ok (.iastore, 1) := by decide +kernel
theorem dX10_lessen_90 : decode cX10_lessen 90 = .ok (.iload 4, 2) := by decide +kernel
theorem dX10_lessen_92 : decode cX10_lessen 92 = .ok (.iload 6, 2) := by decide +kernel
theorem dX10_lessen_94 : decode cX10_lessen 94 = .ok (.isub, 1) := by decide +kernel
theorem dX10_lessen_95 : decode cX10_lessen 95 = .ok (.istore 4, 2) := by decide +kernel
theorem dX10_lessen_97 : decode cX10_lessen 97 = .ok (.iinc 5 1, 3) := by decide +kernel
theorem dX10_lessen_100 : decode cX10_lessen 100 = .ok (.goto (-94), 3) := by decide +kernel
theorem dX10_lessen_103 : decode cX10_lessen 103 = .ok (.return_, 1) := by decide +kernel
theorem dX10_letOff_0 : decode cX10_letOff 0 = .ok (.aload_n 0, 1) := by decide +kernel
theorem dX10_letOff_1 : decode cX10_letOff 1 = .ok (.invokevirtual 154, 3) := by decide +kernel
theorem dX10_letOff_4 : decode cX10_letOff 4 = .ok (.aload_n 0, 1) := by decide +kernel
theorem dX10_letOff_5 : decode cX10_letOff 5 = .ok (.iload_n 1, 1) := by decide +kernel
theorem dX10_letOff_6 : decode cX10_letOff 6 = .ok (.invokevirtual 264, 3) := by decide +kernel
theorem dX10_letOff_9 : decode cX10_letOff 9 = .ok (.ifCond .ne 9, 3) := by decide +kernel
theorem dX10_letOff_12 : decode cX10_letOff 12 = .ok (.aload_n 0, 1) := by decide +kernel
theorem dX10_letOff_13 : decode cX10_letOff 13 = .ok (.iconst 1, 1) := by decide +kernel
theorem dX10_letOff_14 : decode cX10_letOff 14 = .ok (.invokevirtual 157, 3) := by decide +kernel
theorem dX10_letOff_17 : decode cX10_letOff 17 = .ok (.ireturn, 1) := by decide +kernel
theorem dX10_letOff_18 : decode cX10_letOff 18 = .ok (.aload_n 0, 1) := by decide +kernel
theorem dX10_letOff_19 : decode cX10_letOff 19 = .ok (.iload_n 1, 1) := by decide +kernel
theorem dX10_letOff_20 : decode cX10_letOff 20 = .ok (.invokevirtual 325, 3) := by decide +kernel
theorem dX10_letOff_23 : decode cX10_letOff 23 = .ok (.ifCond .ne 10, 3) := by decide +kernel
theorem dX10_letOff_26 : decode cX10_letOff 26 = .ok (.aload_n 0, 1) := by decide +kernel
theorem dX10_letOff_27 : decode cX10_letOff 27 = .ok (.bipush 6, 2) := by decide +kernel
theorem dX10_letOff_29 : decode cX10_letOff 29 = .ok (.invokevirtual 157, 3) := by decide +kernel
theorem dX10_letOff_32 : decode cX10_letOff 32 = .ok (.ireturn, 1) := by decide +kernel
theorem dX10_letOff_33 : decode cX10_letOff 33 = .ok (.aload_n 0, 1) := by decide +kernel
theorem dX10_letOff_34 : decode cX10_letOff 34 = .ok (.invokevirtual 328, 3) := by decide +kernel
theorem dX10_letOff_37 : decode cX10_letOff 37 = .ok (.istore_n 2, 1) := by decide +kernel
theorem dX10_letOff_38 : decode cX10_letOff 38 = .ok (.aload_n 0, 1) := by decide +kernel
theorem dX10_letOff_39 : decode cX10_letOff 39 = .ok (.invokevirtual 406, 3) := by decide +kernel
theorem dX10_letOff_42 : decode cX10_letOff 42 = .ok (.iconst 0, 1) := by decide +kernel
theorem dX10_letOff_43 : decode cX10_letOff 43 = .ok (.istore_n 3, 1) := by decide +kernel
theorem dX10_letOff_44 : decode cX10_letOff 44 = .ok (.iload_n 3, 1) := by decide +kernel
theorem dX10_letOff_45 : decode cX10_letOff 45 = .ok (.aload_n 0, 1) := by decide +kernel
theorem dX10_letOff_46 : decode cX10_letOff 46 = .ok (.getfield 318, 3) := by decide +kernel
theorem dX10_letOff_49 : decode cX10_letOff 49 = .ok (.if_icmp .ge 33, 3) := by decide +kernel
theorem dX10_letOff_52 : decode cX10_letOff 52 = .ok (.aload_n 0, 1) := by decide +kernel
theorem dX10_letOff_53 : decode cX10_letOff 53 = .ok (.aload_n 0, 1) := by decide +kernel
theorem dX10_letOff_54 : decode cX10_letOff 54 = .ok (.getfield 47, 3) := by decide +kernel
theorem dX10_letOff_57 : decode cX10_letOff 57 = .ok (.iload_n 3, 1) := by decide +kernel
theorem dX10_letOff_58 : decode cX10_letOff 58 = .ok (.iaload, 1) := by decide +kernel
theorem dX10_letOff_59 : decode cX10_letOff 59 = .ok (.aload_n 0, 1) := by decide +kernel
theorem dX10_letOff_60 : decode cX10_letOff 60 = .ok (.getfield 47, 3) := by decide +kernel
theorem dX10_letOff_63 : decode cX10_letOff 63 = .ok (.iload_n 3, 1) := by decide +kernel
theorem dX10_letOff_64 : decode cX10_letOff 64 = .ok (.iconst 1, 1) := by decide +kernel
theorem dX10_letOff_65 : decode cX10_letOff 65 = .ok (.iadd, 1) := by decide +kernel
theorem dX10_letOff_66 : decode cX10_letOff 66 = .ok (.aload_n 0, 1) := by decide +kernel
theorem dX10_letOff_67 : decode cX10_letOff 67 = .ok (.getfield 318, 3) := by decide +kernel
theorem dX10_letOff_70 : decode cX10_letOff 70 = .ok (.irem, 1) := by decide +kernel
theorem dX10_letOff_71 : decode cX10_letOff 71 = .ok (.iaload, 1) := by decide +kernel
theorem dX10_letOff_72 : decode cX10_letOff 72 = .ok (.iload_n 2, 1) := by decide +kernel
theorem dX10_letOff_73 : decode cX10_letOff 73 = .ok (.invokevirtual 409, 3) := by decide +kernel
theorem dX10_letOff_76 : decode cX10_letOff 76 = .ok (.iinc 3 1, 3) := by decide +kernel
theorem dX10_letOff_79 : decode cX10_letOff 79 = .ok (.goto (-35), 3) := by decide +kernel
theorem dX10_letOff_82 : decode cX10_letOff 82 = .ok (.iload_n 2, 1) := by decide +kernel
theorem dX10_letOff_83 : decode cX10_letOff 83 = .ok (.ireturn, 1) := by decide +kernel
theorem dX10_shed_0 : decode cX10_shed 0 = .ok (.aload_n 0, 1) := by decide +kernel
theorem dX10_shed_1 : decode cX10_shed 1 = .ok (.invokevirtual 154, 3) := by decide +kernel
theorem dX10_shed_4 : decode cX10_shed 4 = .ok (.aload_n 0, 1) := by decide +kernel
theorem dX10_shed_5 : decode cX10_shed 5 = .ok (.iload_n 1, 1) := by decide +kernel
theorem dX10_shed_6 : decode cX10_shed 6 = .ok (.invokevirtual 264, 3) := by decide +kernel
theorem dX10_shed_9 : decode cX10_shed 9 = .ok (.ifCond .ne 9, 3) := by decide +kernel
theorem dX10_shed_12 : decode cX10_shed 12 = .ok (.aload_n 0, 1) := by decide +kernel
theorem dX10_shed_13 : decode cX10_shed 13 = .ok (.iconst 1, 1) := by decide +kernel
theorem dX10_shed_14 : decode cX10_shed 14 = .ok (.invokevirtual 157, 3) := by decide +kernel
theorem dX10_shed_17 : decode cX10_shed 17 = .ok (.ireturn, 1) := by decide +kernel
theorem dX10_shed_18 : decode cX10_shed 18 = .ok (.aload_n 0, 1) := by decide +kernel
theorem dX10_shed_19 : decode cX10_shed 19 = .ok (.iload_n 1, 1) := by decide +kernel
theorem dX10_shed_20 : decode cX10_shed 20 = .ok (.iconst (-1), 1) := by decide +kernel
theorem dX10_shed_21 : decode cX10_shed 21 = .ok (.invokevirtual 267, 3) := by decide +kernel
theorem dX10_shed_24 : decode cX10_shed 24 = .ok (.istore_n 2, 1) := by decide +kernel
theorem dX10_shed_25 : decode cX10_shed 25 = .ok (.iload_n 2, 1) := by decide +kernel
theorem dX10_shed_26 : decode cX10_shed 26 = .ok (.ifCond .ne 9, 3) := by decide +kernel
theorem dX10_shed_29 : decode cX10_shed 29 = .ok (.aload_n 0, 1) := by decide +kernel
theorem dX10_shed_30 : decode cX10_shed 30 = .ok (.iconst 5, 1) := by decide +kernel
theorem dX10_shed_31 : decode cX10_shed 31 = .ok (.invokevirtual 157, 3) := by decide +kernel
theorem dX10_shed_34 : decode cX10_shed 34 = .ok (.ireturn, 1) := by decide +kernel
theorem dX10_shed_35 : decode cX10_shed 35 = .ok (.aload_n 0, 1) := by decide +kernel
theorem dX10_shed_36 : decode cX10_shed 36 = .ok (.invokevirtual 406, 3) := by decide +kernel
theorem dX10_shed_39 : decode cX10_shed 39 = .ok (.iconst 0, 1) := by decide +kernel
theorem dX10_shed_40 : decode cX10_shed 40 = .ok (.istore_n 3, 1) := by decide +kernel
theorem dX10_shed_41 : decode cX10_shed 41 = .ok (.iload_n 3, 1) := by decide +kernel
theorem dX10_shed_42 : decode cX10_shed 42 = .ok (.aload_n 0, 1) := by decide +kernel
theorem dX10_shed_43 : decode cX10_shed 43 = .ok (.getfield 20, 3) := by decide +kernel
theorem dX10_shed_46 : decode cX10_shed 46 = .ok (.iconst 5, 1) := by decide +kernel
theorem dX10_shed_47 : decode cX10_shed 47 = .ok (.iaload, 1) := by decide +kernel
theorem dX10_shed_48 : decode cX10_shed 48 = .ok (.if_icmp .ge 29, 3) := by decide +kernel
theorem dX10_shed_51 : decode cX10_shed 51 = .ok (.aload_n 0, 1) := by decide +kernel
theorem dX10_shed_52 : decode cX10_shed 52 = .ok (.aload_n 0, 1) := by decide +kernel
theorem dX10_shed_53 : decode cX10_shed 53 = .ok (.getfield 26, 3) := by decide +kernel
theorem dX10_shed_56 : decode cX10_shed 56 = .ok (.iload_n 3, 1) := by decide +kernel
theorem dX10_shed_57 : decode cX10_shed 57 = .ok (.iload_n 1, 1) := by decide +kernel
theorem dX10_shed_58 : decode cX10_shed 58 = .ok (.invokevirtual 240, 3) := by decide +kernel
theorem dX10_shed_61 : decode cX10_shed 61 = .ok (.ifCond .eq 10, 3) := by decide +kernel
theorem dX10_shed_64 : decode cX10_shed 64 = .ok (.aload_n 0, 1) := by decide +kernel
theorem dX10_shed_65 : decode cX10_shed 65 = .ok (.getfield 26, 3) := by decide +kernel
theorem dX10_shed_68 : decode cX10_shed 68 = .ok (.iload_n 3, 1) := by decide +kernel
theorem dX10_shed_69 : decode cX10_shed 69 = .ok (.iconst 0, 1) := by decide +kernel
theorem dX10_shed_70 : decode cX10_shed 70 = .ok (.iastore, 1) := by decide +kernel
theorem dX10_shed_71 : decode cX10_shed 71 = .ok (.iinc 3 1, 3) := by decide +kernel
theorem dX10_shed_74 : decode cX10_shed 74 = .ok (.goto (-33), 3) := by decide +kernel
theorem dX10_shed_77 : decode cX10_shed 77 = .ok (.iload_n 2, 1) := by decide +kernel
theorem dX10_shed_78 : decode cX10_shed 78 = .ok (.ireturn, 1) := by decide +kernel
theorem dX10_spring_0 : decode cX10_spring 0 = .ok (.aload_n 0, 1) := by decide +kernel
theorem dX10_spring_1 : decode cX10_spring 1 = .ok (.invokevirtual 154, 3) := by decide +kernel
theorem dX10_spring_4 : decode cX10_spring 4 = .ok (.aload_n 0, 1) := by decide +kernel
theorem dX10_spring_5 : decode cX10_spring 5 = .ok (.iconst 0, 1) := by decide +kernel
theorem dX10_spring_6 : decode cX10_spring 6 = .ok (.putfield 247, 3) := by decide +kernel
theorem dX10_spring_9 : decode cX10_spring 9 = .ok (.aload_n 0, 1) := by decide +kernel
theorem dX10_spring_10 : decode cX10_spring 10 = .ok (.getfield 167, 3) := by decide +kernel
theorem dX10_spring_13 : decode cX10_spring 13 = .ok (.ifCond .ne 9, 3) := by decide +kernel
theorem dX10_spring_16 : decode cX10_spring 16 = .ok (.aload_n 0, 1) := by decide +kernel
theorem dX10_spring_17 : decode cX10_spring 17 = .ok (.iconst 1, 1) := by decide +kernel
theorem dX10_spring_18 : decode cX10_spring 18 = .ok (.invokevirtual 157, 3) := by decide +kernel
theorem dX10_spring_21 : decode cX10_spring 21 = .ok (.ireturn, 1) := by decide +kernel
theorem dX10_spring_22 : decode cX10_spring 22 = .ok (.aload_n 0, 1) := by decide +kernel
theorem dX10_spring_23 : decode cX10_spring 23 = .ok (.getfield 26, 3) := by decide +kernel
theorem dX10_spring_26 : decode cX10_spring 26 = .ok (.bipush 12, 2) := by decide +kernel
theorem dX10_spring_28 : decode cX10_spring 28 = .ok (.iaload, 1) := by decide +kernel
theorem dX10_spring_29 : decode cX10_spring 29 = .ok (.sipush 999, 3) := by decide +kernel
theorem dX10_spring_32 : decode cX10_spring 32 = .ok (.if_icmp .ne 9, 3) := by decide +kernel
theorem dX10_spring_35 : decode cX10_spring 35 = .ok (.aload_n 0, 1) := by decide +kernel
theorem dX10_spring_36 : decode cX10_spring 36 = .ok (.iconst 3, 1) := by decide +kernel
theorem dX10_spring_37 : decode cX10_spring 37 = .ok (.invokevirtual 157, 3) := by decide +kernel
theorem dX10_spring_40 : decode cX10_spring 40 = .ok (.ireturn, 1) := by decide +kernel
theorem dX10_spring_41 : decode cX10_spring 41 = .ok (.aload_n 0, 1) := by decide +kernel
theorem dX10_spring_42 : decode cX10_spring 42 = .ok (.invokevirtual 406, 3) := by decide +kernel
theorem dX10_spring_45 : decode cX10_spring 45 = .ok (.aload_n 0, 1) := by decide +kernel
theorem dX10_spring_46 : decode cX10_spring 46 = .ok (.getfield 26, 3) := by decide +kernel
theorem dX10_spring_49 : decode cX10_spring 49 = .ok (.bipush 12, 2) := by decide +kernel
theorem dX10_spring_51 : decode cX10_spring 51 = .ok (.dup2, 1) := by decide +kernel
theorem dX10_spring_52 : decode cX10_spring 52 = .ok (.iaload, 1) := by decide +kernel
theorem dX10_spring_53 : decode cX10_spring 53 = .ok (.iconst 1, 1) := by decide +kernel
theorem dX10_spring_54 : decode cX10_spring 54 = .ok (.iadd, 1) := by decide +kernel
theorem dX10_spring_55 : decode cX10_spring 55 = .ok (.iastore, 1) := by decide +kernel
theorem dX10_spring_56 : decode cX10_spring 56 = .ok (.aload_n 0, 1) := by decide +kernel
theorem dX10_spring_57 : decode cX10_spring 57 = .ok (.aload_n 0, 1) := by decide +kernel
theorem dX10_spring_58 : decode cX10_spring 58 = .ok (.getfield 26, 3) := by decide +kernel
theorem dX10_spring_61 : decode cX10_spring 61 = .ok (.invokevirtual 285, 3) := by decide +kernel
theorem dX10_spring_64 : decode cX10_spring 64 = .ok (.ireturn, 1) := by decide +kernel
theorem dX10_undo_0 : decode cX10_undo 0 = .ok (.aload_n 0, 1) := by decide +kernel
theorem dX10_undo_1 : decode cX10_undo 1 = .ok (.invokevirtual 154, 3) := by decide +kernel
theorem dX10_undo_4 : decode cX10_undo 4 = .ok (.aload_n 0, 1) := by decide +kernel
theorem dX10_undo_5 : decode cX10_undo 5 = .ok (.getfield 170, 3) := by decide +kernel
theorem dX10_undo_8 : decode cX10_undo 8 = .ok (.ifCond .ne 10, 3) := by decide +kernel
theorem dX10_undo_11 : decode cX10_undo 11 = .ok (.aload_n 0, 1) := by decide +kernel
theorem dX10_undo_12 : decode cX10_undo 12 = .ok (.bipush 6, 2) := by decide +kernel
theorem dX10_undo_14 : decode cX10_undo 14 = .ok (.invokevirtual 412, 3) := by decide +kernel
theorem dX10_undo_17 : decode cX10_undo 17 = .ok (.ireturn, 1) := by decide +kernel
theorem dX10_undo_18 : decode cX10_undo 18 = .ok (.aload_n 0, 1) := by decide +kernel
theorem dX10_undo_19 : decode cX10_undo 19 = .ok (.dup, 1) := by decide +kernel
theorem dX10_undo_20 : decode cX10_undo 20 = .ok (.getfield 170, 3) := by decide +kernel
theorem dX10_undo_23 : decode cX10_undo 23 = .ok (.iconst 1, 1) := by decide +kernel
theorem dX10_undo_24 : decode cX10_undo 24 = .ok (.isub, 1) := by decide +kernel
theorem dX10_undo_25 : decode cX10_undo 25 = .ok (.putfield 170, 3) := by decide +kernel
theorem dX10_undo_28 : decode cX10_undo 28 = .ok (.aload_n 0, 1) := by decide +kernel
theorem dX10_undo_29 : decode cX10_undo 29 = .ok (.getfield 29, 3) := by decide +kernel
theorem dX10_undo_32 : decode cX10_undo 32 = .ok (.bipush 13, 2) := by decide +kernel
theorem dX10_undo_34 : decode cX10_undo 34 = .ok (.aload_n 0, 1) := by decide +kernel
theorem dX10_undo_35 : decode cX10_undo 35 = .ok (.getfield 170, 3) := by decide +kernel
theorem dX10_undo_38 : decode cX10_undo 38 = .ok (.imul, 1) := by decide +kernel
theorem dX10_undo_39 : decode cX10_undo 39 = .ok (.aload_n 0, 1) := by decide +kernel
theorem dX10_undo_40 : decode cX10_undo 40 = .ok (.getfield 26, 3) := by decide +kernel
theorem dX10_undo_43 : decode cX10_undo 43 = .ok (.iconst 0, 1) := by decide +kernel
theorem dX10_undo_44 : decode cX10_undo 44 = .ok (.bipush 13, 2) := by decide +kernel
theorem dX10_undo_46 : decode cX10_undo 46 = .ok (.invokestatic 163, 3) := by decide +kernel
theorem dX10_undo_49 : decode cX10_undo 49 = .ok (.iconst 1, 1) := by decide +kernel
theorem dX10_undo_50 : decode cX10_undo 50 = .ok (.ireturn, 1) := by decide +kernel
theorem dX10_image_0 : decode cX10_image 0 = .ok (.aload_n 0, 1) := by decide +kernel
theorem dX10_image_1 : decode cX10_image 1 = .ok (.invokevirtual 154, 3) := by decide +kernel
theorem dX10_image_4 : decode cX10_image 4 = .ok (.aload_n 0, 1) := by decide +kernel
theorem dX10_image_5 : decode cX10_image 5 = .ok (.getfield 167, 3) := by decide +kernel
theorem dX10_image_8 : decode cX10_image 8 = .ok (.ifCond .ne 9, 3) := by decide +kernel
theorem dX10_image_11 : decode cX10_image 11 = .ok (.aload_n 0, 1) := by decide +kernel
theorem dX10_image_12 : decode cX10_image 12 = .ok (.iconst 1, 1) := by decide +kernel
theorem dX10_image_13 : decode cX10_image 13 = .ok (.invokevirtual 157, 3) := by decide +kernel
theorem dX10_image_16 : decode cX10_image 16 = .ok (.ireturn, 1) := by decide +kernel
theorem dX10_image_17 : decode cX10_image 17 = .ok (.aload_n 0, 1) := by decide +kernel
theorem dX10_image_18 : decode cX10_image 18 = .ok (.getfield 173, 3) := by decide +kernel
theorem dX10_image_21 : decode cX10_image 21 = .ok (.iconst 3, 1) := by decide +kernel
theorem dX10_image_22 : decode cX10_image 22 = .ok (.if_icmp .ne 9, 3) := by decide +kernel
theorem dX10_image_25 : decode cX10_image 25 = .ok (.aload_n 0, 1) := by decide +kernel
theorem dX10_image_26 : decode cX10_image 26 = .ok (.iconst 3, 1) := by decide +kernel
theorem dX10_image_27 : decode cX10_image 27 = .ok (.invokevirtual 157, 3) := by decide +kernel
theorem dX10_image_30 : decode cX10_image 30 = .ok (.ireturn, 1) := by decide +kernel
theorem dX10_image_31 : decode cX10_image 31 = .ok (.aload_n 0, 1) := by decide +kernel
theorem dX10_image_32 : decode cX10_image 32 = .ok (.getfield 26, 3) := by decide +kernel
theorem dX10_image_35 : decode cX10_image 35 = .ok (.iconst 0, 1) := by decide +kernel
theorem dX10_image_36 : decode cX10_image 36 = .ok (.aload_n 0, 1) := by decide +kernel
theorem dX10_image_37 : decode cX10_image 37 = .ok (.getfield 32, 3) := by decide +kernel
theorem dX10_image_40 : decode cX10_image 40 = .ok (.bipush 13, 2) := by decide +kernel
theorem dX10_image_42 : decode cX10_image 42 = .ok (.aload_n 0, 1) := by decide +kernel
theorem dX10_image_43 : decode cX10_image 43 = .ok (.getfield 173, 3) := by decide +kernel
theorem dX10_image_46 : decode cX10_image 46 = .ok (.imul, 1) := by decide +kernel
theorem dX10_image_47 : decode cX10_image 47 = .ok (.bipush 13, 2) := by decide +kernel
theorem dX10_image_49 : decode cX10_image 49 = .ok (.invokestatic 163, 3) := by decide +kernel
theorem dX10_image_52 : decode cX10_image 52 = .ok (.aload_n 0, 1) := by decide +kernel
theorem dX10_image_53 : decode cX10_image 53 = .ok (.dup, 1) := by decide +kernel
theorem dX10_image_54 : decode cX10_image 54 = .ok (.getfield 173, 3) := by decide +kernel
theorem dX10_image_57 : decode cX10_image 57 = .ok (.iconst 1, 1) := by decide +kernel
theorem dX10_image_58 : decode cX10_image 58 = .ok (.iadd, 1) := by decide +kernel
theorem dX10_image_59 : decode cX10_image 59 = .ok (.putfield 173, 3) := by decide +kernel
theorem dX10_image_62 : decode cX10_image 62 = .ok (.aload_n 0, 1) := by decide +kernel
theorem dX10_image_63 : decode cX10_image 63 = .ok (.getfield 173, 3) := by decide +kernel
theorem dX10_image_66 : decode cX10_image 66 = .ok (.iconst 1, 1) := by decide +kernel
theorem dX10_image_67 : decode cX10_image 67 = .ok (.isub, 1) := by decide +kernel
theorem dX10_image_68 : decode cX10_image 68 = .ok (.ireturn, 1) := by decide +kernel
theorem dX10_back_0 : decode cX10_back 0 = .ok (.aload_n 0, 1) := by decide +kernel
theorem dX10_back_1 : decode cX10_back 1 = .ok (.invokevirtual 154, 3) := by decide +kernel
theorem dX10_back_4 : decode cX10_back 4 = .ok (.iload_n 1, 1) := by decide +kernel
theorem dX10_back_5 : decode cX10_back 5 = .ok (.iconst 0, 1) := by decide +kernel
theorem dX10_back_6 : decode cX10_back 6 = .ok (.aload_n 0, 1) := by decide +kernel
theorem dX10_back_7 : decode cX10_back 7 = .ok (.getfield 173, 3) := by decide +kernel
theorem dX10_back_10 : decode cX10_back 10 = .ok (.iconst 1, 1) := by decide +kernel
theorem dX10_back_11 : decode cX10_back 11 = .ok (.isub, 1) := by decide +kernel
theorem dX10_back_12 : decode cX10_back 12 = .ok (.invokestatic 139, 3) := by decide +kernel
theorem dX10_back_15 : decode cX10_back 15 = .ok (.ifCond .ne 9, 3) := by decide +kernel
theorem dX10_back_18 : decode cX10_back 18 = .ok (.aload_n 0, 1) := by decide +kernel
theorem dX10_back_19 : decode cX10_back 19 = .ok (.iconst 1, 1) := by decide +kernel
theorem dX10_back_20 : decode cX10_back 20 = .ok (.invokevirtual 412, 3) := by decide +kernel
theorem dX10_back_23 : decode cX10_back 23 = .ok (.ireturn, 1) := by decide +kernel
theorem dX10_back_24 : decode cX10_back 24 = .ok (.aload_n 0, 1) := by decide +kernel
theorem dX10_back_25 : decode cX10_back 25 = .ok (.getfield 32, 3) := by decide +kernel
theorem dX10_back_28 : decode cX10_back 28 = .ok (.bipush 13, 2) := by decide +kernel
theorem dX10_back_30 : decode cX10_back 30 = .ok (.iload_n 1, 1) := by decide +kernel
theorem dX10_back_31 : decode cX10_back 31 = .ok (.imul, 1) := by decide +kernel
theorem dX10_back_32 : decode cX10_back 32 = .ok (.aload_n 0, 1) := by decide +kernel
theorem dX10_back_33 : decode cX10_back 33 = .ok (.getfield 26, 3) := by decide +kernel
theorem dX10_back_36 : decode cX10_back 36 = .ok (.iconst 0, 1) := by decide +kernel
theorem dX10_back_37 : decode cX10_back 37 = .ok (.bipush 13, 2) := by decide +kernel
theorem dX10_back_39 : decode cX10_back 39 = .ok (.invokestatic 163, 3) := by decide +kernel
theorem dX10_back_42 : decode cX10_back 42 = .ok (.aload_n 0, 1) := by decide +kernel
theorem dX10_back_43 : decode cX10_back 43 = .ok (.iconst 0, 1) := by decide +kernel
theorem dX10_back_44 : decode cX10_back 44 = .ok (.putfield 170, 3) := by decide +kernel
theorem dX10_back_47 : decode cX10_back 47 = .ok (.iconst 1, 1) := by decide +kernel
theorem dX10_back_48 : decode cX10_back 48 = .ok (.ireturn, 1) := by decide +kernel
theorem dX10_led_0 : decode cX10_led 0 = .ok (.iconst 0, 1) := by decide +kernel
theorem dX10_led_1 : decode cX10_led 1 = .ok (.istore_n 2, 1) := by decide +kernel
theorem dX10_led_2 : decode cX10_led 2 = .ok (.aload_n 0, 1) := by decide +kernel
theorem dX10_led_3 : decode cX10_led 3 = .ok (.iconst 0, 1) := by decide +kernel
theorem dX10_led_4 : decode cX10_led 4 = .ok (.putfield 247, 3) := by decide +kernel
theorem dX10_led_7 : decode cX10_led 7 = .ok (.iconst 0, 1) := by decide +kernel
theorem dX10_led_8 : decode cX10_led 8 = .ok (.istore_n 3, 1) := by decide +kernel
theorem dX10_led_9 : decode cX10_led 9 = .ok (.aload_n 0, 1) := by decide +kernel
theorem dX10_led_10 : decode cX10_led 10 = .ok (.getfield 167, 3) := by decide +kernel
theorem dX10_led_13 : decode cX10_led 13 = .ok (.ifCond .eq 54, 3) := by decide +kernel
theorem dX10_led_16 : decode cX10_led 16 = .ok (.iload_n 3, 1) := by decide +kernel
theorem dX10_led_17 : decode cX10_led 17 = .ok (.aload_n 0, 1) := by decide +kernel
theorem dX10_led_18 : decode cX10_led 18 = .ok (.getfield 20, 3) := by decide +kernel
theorem dX10_led_21 : decode cX10_led 21 = .ok (.iconst 4, 1) := by decide +kernel
theorem dX10_led_22 : decode cX10_led 22 = .ok (.iaload, 1) := by decide +kernel
theorem dX10_led_23 : decode cX10_led 23 = .ok (.if_icmp .ge 44, 3) := by decide +kernel
theorem dX10_led_26 : decode cX10_led 26 = .ok (.aload_n 0, 1) := by decide +kernel
theorem dX10_led_27 : decode cX10_led 27 = .ok (.aload_n 0, 1) := by decide +kernel
theorem dX10_led_28 : decode cX10_led 28 = .ok (.getfield 26, 3) := by decide +kernel
theorem dX10_led_31 : decode cX10_led 31 = .ok (.iload_n 3, 1) := by decide +kernel
theorem dX10_led_32 : decode cX10_led 32 = .ok (.invokevirtual 261, 3) := by decide +kernel
theorem dX10_led_35 : decode cX10_led 35 = .ok (.aload_n 0, 1) := by decide +kernel
theorem dX10_led_36 : decode cX10_led 36 = .ok (.iload_n 3, 1) := by decide +kernel
theorem dX10_led_37 : decode cX10_led 37 = .ok (.invokevirtual 368, 3) := by decide +kernel
theorem dX10_led_40 : decode cX10_led 40 = .ok (.if_icmp .gt 6, 3) := by decide +kernel
theorem dX10_led_43 : decode cX10_led 43 = .ok (.goto 18, 3) := by decide +kernel
theorem dX10_led_46 : decode cX10_led 46 = .ok (.iload_n 2, 1) := by decide +kernel
theorem dX10_led_47 : decode cX10_led 47 = .ok (.iload_n 1, 1) := by decide +kernel
theorem dX10_led_48 : decode cX10_led 48 = .ok (.if_icmp .ne 10, 3) := by decide +kernel
theorem dX10_led_51 : decode cX10_led 51 = .ok (.aload_n 0, 1) := by decide +kernel
theorem dX10_led_52 : decode cX10_led 52 = .ok (.iconst 0, 1) := by decide +kernel
theorem dX10_led_53 : decode cX10_led 53 = .ok (.putfield 50, 3) := by decide +kernel
theorem dX10_led_56 : decode cX10_led 56 = .ok (.iload_n 3, 1) := by decide +kernel
theorem dX10_led_57 : decode cX10_led 57 = .ok (.ireturn, 1) := by decide +kernel
theorem dX10_led_58 : decode cX10_led 58 = .ok (.iinc 2 1, 3) := by decide +kernel
theorem dX10_led_61 : decode cX10_led 61 = .ok (.iinc 3 1, 3) := by decide +kernel
theorem dX10_led_64 : decode cX10_led 64 = .ok (.goto (-55), 3) := by decide +kernel
theorem dX10_led_67 : decode cX10_led 67 = .ok (.aload_n 0, 1) := by decide +kernel
theorem dX10_led_68 : decode cX10_led 68 = .ok (.iconst 1, 1) := by decide +kernel
theorem dX10_led_69 : decode cX10_led 69 = .ok (.putfield 50, 3) := by decide +kernel
theorem dX10_led_72 : decode cX10_led 72 = .ok (.iconst 0, 1) := by decide +kernel
theorem dX10_led_73 : decode cX10_led 73 = .ok (.ireturn, 1) := by decide +kernel
theorem dX10_size_0 : decode cX10_size 0 = .ok (.aload_n 0, 1) := by decide +kernel
theorem dX10_size_1 : decode cX10_size 1 = .ok (.iconst 0, 1) := by decide +kernel
theorem dX10_size_2 : decode cX10_size 2 = .ok (.putfield 50, 3) := by decide +kernel
theorem dX10_size_5 : decode cX10_size 5 = .ok (.iload_n 1, 1) := by decide +kernel
theorem dX10_size_6 : decode cX10_size 6 = .ok (.bipush 13, 2) := by decide +kernel
theorem dX10_size_8 : decode cX10_size 8 = .ok (.if_icmp .ne 8, 3) := by decide +kernel
theorem dX10_size_11 : decode cX10_size 11 = .ok (.aload_n 0, 1) := by decide +kernel
theorem dX10_size_12 : decode cX10_size 12 = .ok (.getfield 56, 3) := by decide +kernel
theorem dX10_size_15 : decode cX10_size 15 = .ok (.ireturn, 1) := by decide +kernel
theorem dX10_size_16 : decode cX10_size 16 = .ok (.aload_n 0, 1) := by decide +kernel
theorem dX10_size_17 : decode cX10_size 17 = .ok (.getfield 167, 3) := by decide +kernel
theorem dX10_size_20 : decode cX10_size 20 = .ok (.ifCond .ne 19, 3) := by decide +kernel
theorem dX10_size_23 : decode cX10_size 23 = .ok (.iload_n 1, 1) := by decide +kernel
theorem dX10_size_24 : decode cX10_size 24 = .ok (.iconst 0, 1) := by decide +kernel
theorem dX10_size_25 : decode cX10_size 25 = .ok (.bipush 12, 2) := by decide +kernel
theorem dX10_size_27 : decode cX10_size 27 = .ok (.invokestatic 139, 3) := by decide +kernel
theorem dX10_size_30 : decode cX10_size 30 = .ok (.ifCond .eq 7, 3) := by decide +kernel
theorem dX10_size_33 : decode cX10_size 33 = .ok (.iconst 0, 1) := by decide +kernel
theorem dX10_size_34 : decode cX10_size 34 = .ok (.goto 4, 3) := by decide +kernel
theorem dX10_size_37 : decode cX10_size 37 = .ok (.iconst (-1), 1) := by decide +kernel
theorem dX10_size_38 : decode cX10_size 38 = .ok (.ireturn, 1) := by decide +kernel
theorem dX10_size_39 : decode cX10_size 39 = .ok (.iload_n 1, 1) := by decide +kernel
theorem dX10_size_40 : decode cX10_size 40 = .ok (.iconst 0, 1) := by decide +kernel
theorem dX10_size_41 : decode cX10_size 41 = .ok (.bipush 9, 2) := by decide +kernel
theorem dX10_size_43 : decode cX10_size 43 = .ok (.invokestatic 139, 3) := by decide +kernel
theorem dX10_size_46 : decode cX10_size 46 = .ok (.ifCond .eq 10, 3) := by decide +kernel
theorem dX10_size_49 : decode cX10_size 49 = .ok (.aload_n 0, 1) := by decide +kernel
theorem dX10_size_50 : decode cX10_size 50 = .ok (.getfield 20, 3) := by decide +kernel
theorem dX10_size_53 : decode cX10_size 53 = .ok (.iload_n 1, 1) := by decide +kernel
theorem dX10_size_54 : decode cX10_size 54 = .ok (.iaload, 1) := by decide +kernel
theorem dX10_size_55 : decode cX10_size 55 = .ok (.ireturn, 1) := by decide +kernel
theorem dX10_size_56 : decode cX10_size 56 = .ok (.iload_n 1, 1) := by decide +kernel
theorem dX10_size_57 : decode cX10_size 57 = .ok (.bipush 10, 2) := by decide +kernel
theorem dX10_size_59 : decode cX10_size 59 = .ok (.if_icmp .ne 13, 3) := by decide +kernel
theorem dX10_size_62 : decode cX10_size 62 = .ok (.aload_n 0, 1) := by decide +kernel
theorem dX10_size_63 : decode cX10_size 63 = .ok (.getfield 26, 3) := by decide +kernel
theorem dX10_size_66 : decode cX10_size 66 = .ok (.bipush 12, 2) := by decide +kernel
theorem dX10_size_68 : decode cX10_size 68 = .ok (.iaload, 1) := by decide +kernel
theorem dX10_size_69 : decode cX10_size 69 = .ok (.goto 30, 3) := by decide +kernel
theorem dX10_size_72 : decode cX10_size 72 = .ok (.iload_n 1, 1) := by decide +kernel
theorem dX10_size_73 : decode cX10_size 73 = .ok (.bipush 11, 2) := by decide +kernel
theorem dX10_size_75 : decode cX10_size 75 = .ok (.if_icmp .ne 10, 3) := by decide +kernel
theorem dX10_size_78 : decode cX10_size 78 = .ok (.aload_n 0, 1) := by decide +kernel
theorem dX10_size_79 : decode cX10_size 79 = .ok (.getfield 170, 3) := by decide +kernel
theorem dX10_size_82 : decode cX10_size 82 = .ok (.goto 17, 3) := by decide +kernel
theorem dX10_size_85 : decode cX10_size 85 = .ok (.iload_n 1, 1) := by decide +kernel
theorem dX10_size_86 : decode cX10_size 86 = .ok (.bipush 12, 2) := by decide +kernel
theorem dX10_size_88 : decode cX10_size 88 = .ok (.if_icmp .ne 10, 3) := by decide +kernel
theorem dX10_size_91 : decode cX10_size 91 = .ok (.aload_n 0, 1) := by decide +kernel
theorem dX10_size_92 : decode cX10_size 92 = .ok (.getfield 173, 3) := by decide +kernel
theorem dX10_size_95 : decode cX10_size 95 = .ok (.goto 4, 3) := by decide +kernel
theorem dX10_size_98 : decode cX10_size 98 = .ok (.iconst (-1), 1) := by decide +kernel
theorem dX10_size_99 : decode cX10_size 99 = .ok (.ireturn, 1) := by decide +kernel
theorem dX10_trouble_0 : decode cX10_trouble 0 = .ok (.aload_n 0, 1) := by decide +kernel
theorem dX10_trouble_1 : decode cX10_trouble 1 = .ok (.iconst 0, 1) := by decide +kernel
theorem dX10_trouble_2 : decode cX10_trouble 2 = .ok (.putfield 50, 3) := by decide +kernel
theorem dX10_trouble_5 : decode cX10_trouble 5 = .ok (.aload_n 0, 1) := by decide +kernel
theorem dX10_trouble_6 : decode cX10_trouble 6 = .ok (.getfield 53, 3) := by decide +kernel
theorem dX10_trouble_9 : decode cX10_trouble 9 = .ok (.ireturn, 1) := by decide +kernel
theorem dJ0_length_8abf5_0 : decode cJ0_length_8abf5 0 = .ok (.aload_n 0, 1) := by decide +kernel
theorem dJ0_length_8abf5_1 : decode cJ0_length_8abf5 1 = .ok (.getfield 9, 3) := by decide +kernel
theorem dJ0_length_8abf5_4 : decode cJ0_length_8abf5 4 = .ok (.arraylength, 1) := by decide +kernel
theorem dJ0_length_8abf5_5 : decode cJ0_length_8abf5 5 = .ok (.aload_n 0, 1) := by decide +kernel
theorem dJ0_length_8abf5_6 : decode cJ0_length_8abf5 6 = .ok (.invokevirtual 335, 3) := by decide +kernel
theorem dJ0_length_8abf5_9 : decode cJ0_length_8abf5 9 = .ok (.ishr, 1) := by decide +kernel
theorem dJ0_length_8abf5_10 : decode cJ0_length_8abf5 10 = .ok (.ireturn, 1) := by decide +kernel
theorem dJ0_charAt_5068e_0 : decode cJ0_charAt_5068e 0 = .ok (.aload_n 0, 1) := by decide +kernel
theorem dJ0_charAt_5068e_1 : decode cJ0_charAt_5068e 1 = .ok (.invokevirtual 492, 3) := by decide +kernel
theorem dJ0_charAt_5068e_4 : decode cJ0_charAt_5068e 4 = .ok (.ifCond .eq 12, 3) := by decide +kernel
theorem dJ0_charAt_5068e_7 : decode cJ0_charAt_5068e 7 = .ok (.aload_n 0, 1) := by decide +kernel
theorem dJ0_charAt_5068e_8 : decode cJ0_charAt_5068e 8 = .ok (.getfield 9, 3) := by decide +kernel
theorem dJ0_charAt_5068e_11 : decode cJ0_charAt_5068e 11 = .ok (.iload_n 1, 1) := by decide +kernel
theorem dJ0_charAt_5068e_12 : decode cJ0_charAt_5068e 12 = .ok (.invokestatic 495, 3) := by decide +kernel
theorem dJ0_charAt_5068e_15 : decode cJ0_charAt_5068e 15 = .ok (.ireturn, 1) := by decide +kernel
theorem dJ0_charAt_5068e_16 : decode cJ0_charAt_5068e 16 = .ok (.aload_n 0, 1) := by decide +kernel
theorem dJ0_charAt_5068e_17 : decode cJ0_charAt_5068e 17 = .ok (.getfield 9, 3) := by decide +kernel
theorem dJ0_charAt_5068e_20 : decode cJ0_charAt_5068e 20 = .ok (.iload_n 1, 1) := by decide +kernel
theorem dJ0_charAt_5068e_21 : decode cJ0_charAt_5068e 21 = .ok (.invokestatic 498, 3) := by decide +kernel
theorem dJ0_charAt_5068e_24 : decode cJ0_charAt_5068e 24 = .ok (.ireturn, 1) := by decide +kernel
theorem dJ0_coder_7d493_0 : decode cJ0_coder_7d493 0 = .ok (.getstatic 38, 3) := by decide +kernel
theorem dJ0_coder_7d493_3 : decode cJ0_coder_7d493 3 = .ok (.ifCond .eq 10, 3) := by decide +kernel
theorem dJ0_coder_7d493_6 : decode cJ0_coder_7d493 6 = .ok (.aload_n 0, 1) := by decide +kernel
theorem dJ0_coder_7d493_7 : decode cJ0_coder_7d493 7 = .ok (.getfield 15, 3) := by decide +kernel
theorem dJ0_coder_7d493_10 : decode cJ0_coder_7d493 10 = .ok (.goto 4, 3) := by decide +kernel
theorem dJ0_coder_7d493_13 : decode cJ0_coder_7d493 13 = .ok (.iconst 1, 1) := by decide +kernel
theorem dJ0_coder_7d493_14 : decode cJ0_coder_7d493 14 = .ok (.ireturn, 1) := by decide +kernel
theorem dJ0_isLatin1_aae02_0 : decode cJ0_isLatin1_aae02 0 = .ok (.getstatic 38, 3) := by decide +kernel
theorem dJ0_isLatin1_aae02_3 : decode cJ0_isLatin1_aae02 3 = .ok (.ifCond .eq 14, 3) := by decide +kernel
theorem dJ0_isLatin1_aae02_6 : decode cJ0_isLatin1_aae02 6 = .ok (.aload_n 0, 1) := by decide +kernel
theorem dJ0_isLatin1_aae02_7 : decode cJ0_isLatin1_aae02 7 = .ok (.getfield 15, 3) := by decide +kernel
theorem dJ0_isLatin1_aae02_10 : decode cJ0_isLatin1_aae02 10 = .ok (.ifCond .ne 7, 3) := by decide +kernel
theorem dJ0_isLatin1_aae02_13 : decode cJ0_isLatin1_aae02 13 = .ok (.iconst 1, 1) := by decide +kernel
theorem dJ0_isLatin1_aae02_14 : decode cJ0_isLatin1_aae02 14 = .ok (.goto 4, 3) := by decide +kernel
theorem dJ0_isLatin1_aae02_17 : decode cJ0_isLatin1_aae02 17 = .ok (.iconst 0, 1) := by decide +kernel
theorem dJ0_isLatin1_aae02_18 : decode cJ0_isLatin1_aae02 18 = .ok (.ireturn, 1) := by decide +kernel
theorem dJ0_checkIndex_df160_0 : decode cJ0_checkIndex_df160 0 = .ok (.iload_n 0, 1) := by decide +kernel
theorem dJ0_checkIndex_df160_1 : decode cJ0_checkIndex_df160 1 = .ok (.iload_n 1, 1) := by decide +kernel
theorem dJ0_checkIndex_df160_2 : decode cJ0_checkIndex_df160 2 = .ok (.getstatic 1053, 3) := by decide +kernel
theorem dJ0_checkIndex_df160_5 : decode cJ0_checkIndex_df160 5 = .ok (.invokestatic 1059, 3) := by decide +kernel
theorem dJ0_checkIndex_df160_8 : decode cJ0_checkIndex_df160 8 = .ok (.pop, 1) := by decide +kernel
theorem dJ0_checkIndex_df160_9 : decode cJ0_checkIndex_df160 9 = .ok (.return_, 1) := by decide +kernel
theorem dJ1_charAt_3b067_0 : decode cJ1_charAt_3b067 0 = .ok (.iload_n 1, 1) := by decide +kernel
theorem dJ1_charAt_3b067_1 : decode cJ1_charAt_3b067 1 = .ok (.aload_n 0, 1) := by decide +kernel
theorem dJ1_charAt_3b067_2 : decode cJ1_charAt_3b067 2 = .ok (.arraylength, 1) := by decide +kernel
theorem dJ1_charAt_3b067_3 : decode cJ1_charAt_3b067 3 = .ok (.invokestatic 9, 3) := by decide +kernel
theorem dJ1_charAt_3b067_6 : decode cJ1_charAt_3b067 6 = .ok (.aload_n 0, 1) := by decide +kernel
theorem dJ1_charAt_3b067_7 : decode cJ1_charAt_3b067 7 = .ok (.iload_n 1, 1) := by decide +kernel
theorem dJ1_charAt_3b067_8 : decode cJ1_charAt_3b067 8 = .ok (.baload, 1) := by decide +kernel
theorem dJ1_charAt_3b067_9 : decode cJ1_charAt_3b067 9 = .ok (.sipush 255, 3) := by decide +kernel
theorem dJ1_charAt_3b067_12 : decode cJ1_charAt_3b067 12 = .ok (.iand, 1) := by decide +kernel
theorem dJ1_charAt_3b067_13 : decode cJ1_charAt_3b067 13 = .ok (.i2c, 1) := by decide +kernel
theorem dJ1_charAt_3b067_14 : decode cJ1_charAt_3b067 14 = .ok (.ireturn, 1) := by decide +kernel
theorem dJ3_checkIndex_8e157_0 : decode cJ3_checkIndex_8e157 0 = .ok (.iload_n 0, 1) := by decide +kernel
theorem dJ3_checkIndex_8e157_1 : decode cJ3_checkIndex_8e157 1 = .ok (.ifCond .lt 8, 3) := by decide +kernel
theorem dJ3_checkIndex_8e157_4 : decode cJ3_checkIndex_8e157 4 = .ok (.iload_n 0, 1) := by decide +kernel
theorem dJ3_checkIndex_8e157_5 : decode cJ3_checkIndex_8e157 5 = .ok (.iload_n 1, 1) := by decide +kernel
theorem dJ3_checkIndex_8e157_6 : decode cJ3_checkIndex_8e157 6 = .ok (.if_icmp .lt 10, 3) := by decide +kernel
theorem dJ3_checkIndex_8e157_9 : decode cJ3_checkIndex_8e157 9 = .ok (.aload_n 2, 1) := by decide +kernel
theorem dJ3_checkIndex_8e157_10 : decode cJ3_checkIndex_8e157 10 = .ok (.iload_n 0, 1) := by decide +kernel
theorem dJ3_checkIndex_8e157_11 : decode cJ3_checkIndex_8e157 11 = .ok (.iload_n 1, 1) := by decide +kernel
theorem dJ3_checkIndex_8e157_12 : decode cJ3_checkIndex_8e157 12 = .ok (.invokestatic 95, 3) := by decide +kernel
theorem dJ3_checkIndex_8e157_15 : decode cJ3_checkIndex_8e157 15 = .ok (.athrow, 1) := by decide +kernel
theorem dJ3_checkIndex_8e157_16 : decode cJ3_checkIndex_8e157 16 = .ok (.iload_n 0, 1) := by decide +kernel
theorem dJ3_checkIndex_8e157_17 : decode cJ3_checkIndex_8e157 17 = .ok (.ireturn, 1) := by decide +kernel
