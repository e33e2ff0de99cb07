theorem dX0_init_0 : decode cX0_init 0 = .ok (.aload_n 0, 1) := by decide +kernel
theorem dX0_init_1 : decode cX0_init 1 = .ok (.invokespecial 1, 3) := by decide +kernel
theorem dX0_init_4 : decode cX0_init 4 = .ok (.iload_n 1, 1) := by decide +kernel
theorem dX0_init_5 : decode cX0_init 5 = .ok (.ifCond .ge 7, 3) := by decide +kernel
theorem dX0_init_8 : decode cX0_init 8 = .ok (.iconst 0, 1) := by decide +kernel
theorem dX0_init_9 : decode cX0_init 9 = .ok (.goto 4, 3) := by decide +kernel
theorem dX0_init_12 : decode cX0_init 12 = .ok (.iload_n 1, 1) := by decide +kernel
theorem dX0_init_13 : decode cX0_init 13 = .ok (.istore_n 2, 1) := by decide +kernel
theorem dX0_init_14 : decode cX0_init 14 = .ok (.aload_n 0, 1) := by decide +kernel
theorem dX0_init_15 : decode cX0_init 15 = .ok (.iload_n 2, 1) := by decide +kernel
theorem dX0_init_16 : decode cX0_init 16 = .ok (.newarray .int, 2) := by decide +kernel
theorem dX0_init_18 : decode cX0_init 18 = .ok (.putfield 7, 3) := by decide +kernel
theorem dX0_init_21 : decode cX0_init 21 = .ok (.aload_n 0, 1) := by decide +kernel
theorem dX0_init_22 : decode cX0_init 22 = .ok (.iload_n 2, 1) := by decide +kernel
theorem dX0_init_23 : decode cX0_init 23 = .ok (.newarray .int, 2) := by decide +kernel
theorem dX0_init_25 : decode cX0_init 25 = .ok (.putfield 13, 3) := by decide +kernel
theorem dX0_init_28 : decode cX0_init 28 = .ok (.aload_n 0, 1) := by decide +kernel
theorem dX0_init_29 : decode cX0_init 29 = .ok (.iload_n 2, 1) := by decide +kernel
theorem dX0_init_30 : decode cX0_init 30 = .ok (.newarray .int, 2) := by decide +kernel
theorem dX0_init_32 : decode cX0_init 32 = .ok (.putfield 16, 3) := by decide +kernel
theorem dX0_init_35 : decode cX0_init 35 = .ok (.aload_n 0, 1) := by decide +kernel
theorem dX0_init_36 : decode cX0_init 36 = .ok (.iload_n 2, 1) := by decide +kernel
theorem dX0_init_37 : decode cX0_init 37 = .ok (.newarray .int, 2) := by decide +kernel
theorem dX0_init_39 : decode cX0_init 39 = .ok (.putfield 19, 3) := by decide +kernel
theorem dX0_init_42 : decode cX0_init 42 = .ok (.aload_n 0, 1) := by decide +kernel
theorem dX0_init_43 : decode cX0_init 43 = .ok (.iconst 0, 1) := by decide +kernel
theorem dX0_init_44 : decode cX0_init 44 = .ok (.putfield 22, 3) := by decide +kernel
theorem dX0_init_47 : decode cX0_init 47 = .ok (.return_, 1) := by decide +kernel
theorem dX0_isFull_0 : decode cX0_isFull 0 = .ok (.aload_n 0, 1) := by decide +kernel
theorem dX0_isFull_1 : decode cX0_isFull 1 = .ok (.getfield 22, 3) := by decide +kernel
theorem dX0_isFull_4 : decode cX0_isFull 4 = .ok (.aload_n 0, 1) := by decide +kernel
theorem dX0_isFull_5 : decode cX0_isFull 5 = .ok (.getfield 7, 3) := by decide +kernel
theorem dX0_isFull_8 : decode cX0_isFull 8 = .ok (.arraylength, 1) := by decide +kernel
theorem dX0_isFull_9 : decode cX0_isFull 9 = .ok (.if_icmp .lt 7, 3) := by decide +kernel
theorem dX0_isFull_12 : decode cX0_isFull 12 = .ok (.iconst 1, 1) := by decide +kernel
theorem dX0_isFull_13 : decode cX0_isFull 13 = .ok (.goto 4, 3) := by decide +kernel
theorem dX0_isFull_16 : decode cX0_isFull 16 = .ok (.iconst 0, 1) := by decide +kernel
theorem dX0_isFull_17 : decode cX0_isFull 17 = .ok (.ireturn, 1) := by decide +kernel
theorem dX1_init_0 : decode cX1_init 0 = .ok (.aload_n 0, 1) := by decide +kernel
theorem dX1_init_1 : decode cX1_init 1 = .ok (.invokespecial 3, 3) := by decide +kernel
theorem dX1_init_4 : decode cX1_init 4 = .ok (.aload_n 0, 1) := by decide +kernel
theorem dX1_init_5 : decode cX1_init 5 = .ok (.iconst 5, 1) := by decide +kernel
theorem dX1_init_6 : decode cX1_init 6 = .ok (.newarray .int, 2) := by decide +kernel
theorem dX1_init_8 : decode cX1_init 8 = .ok (.putfield 9, 3) := by decide +kernel
theorem dX1_init_11 : decode cX1_init 11 = .ok (.aload_n 0, 1) := by decide +kernel
theorem dX1_init_12 : decode cX1_init 12 = .ok (.iconst 5, 1) := by decide +kernel
theorem dX1_init_13 : decode cX1_init 13 = .ok (.newarray .int, 2) := by decide +kernel
theorem dX1_init_15 : decode cX1_init 15 = .ok (.putfield 15, 3) := by decide +kernel
theorem dX1_init_18 : decode cX1_init 18 = .ok (.aload_n 0, 1) := by decide +kernel
theorem dX1_init_19 : decode cX1_init 19 = .ok (.iconst 5, 1) := by decide +kernel
theorem dX1_init_20 : decode cX1_init 20 = .ok (.newarray .int, 2) := by decide +kernel
theorem dX1_init_22 : decode cX1_init 22 = .ok (.putfield 18, 3) := by decide +kernel
theorem dX1_init_25 : decode cX1_init 25 = .ok (.aload_n 0, 1) := by decide +kernel
theorem dX1_init_26 : decode cX1_init 26 = .ok (.iconst 5, 1) := by decide +kernel
theorem dX1_init_27 : decode cX1_init 27 = .ok (.newarray .int, 2) := by decide +kernel
theorem dX1_init_29 : decode cX1_init 29 = .ok (.putfield 21, 3) := by decide +kernel
theorem dX1_init_32 : decode cX1_init 32 = .ok (.aload_n 0, 1) := by decide +kernel
theorem dX1_init_33 : decode cX1_init 33 = .ok (.iconst 4, 1) := by decide +kernel
theorem dX1_init_34 : decode cX1_init 34 = .ok (.newarray .int, 2) := by decide +kernel
theorem dX1_init_36 : decode cX1_init 36 = .ok (.putfield 24, 3) := by decide +kernel
theorem dX1_init_39 : decode cX1_init 39 = .ok (.aload_n 0, 1) := by decide +kernel
theorem dX1_init_40 : decode cX1_init 40 = .ok (.iconst 4, 1) := by decide +kernel
theorem dX1_init_41 : decode cX1_init 41 = .ok (.newarray .int, 2) := by decide +kernel
theorem dX1_init_43 : decode cX1_init 43 = .ok (.putfield 27, 3) := by decide +kernel
theorem dX1_init_46 : decode cX1_init 46 = .ok (.aload_n 0, 1) := by decide +kernel
theorem dX1_init_47 : decode cX1_init 47 = .ok (.iconst 4, 1) := by decide +kernel
theorem dX1_init_48 : decode cX1_init 48 = .ok (.newarray .int, 2) := by decide +kernel
theorem dX1_init_50 : decode cX1_init 50 = .ok (.putfield 30, 3) := by decide +kernel
theorem dX1_init_53 : decode cX1_init 53 = .ok (.aload_n 0, 1) := by decide +kernel
theorem dX1_init_54 : decode cX1_init 54 = .ok (.new 33, 3) := by decide +kernel
theorem dX1_init_57 : decode cX1_init 57 = .ok (.dup, 1) := by decide +kernel
theorem dX1_init_58 : decode cX1_init 58 = .ok (.bipush 7, 2) := by decide +kernel
theorem dX1_init_60 : decode cX1_init 60 = .ok (.invokespecial 35, 3) := by decide +kernel
theorem dX1_init_63 : decode cX1_init 63 = .ok (.putfield 38, 3) := by decide +kernel
theorem dX1_init_66 : decode cX1_init 66 = .ok (.aload_n 0, 1) := by decide +kernel
theorem dX1_init_67 : decode cX1_init 67 = .ok (.new 33, 3) := by decide +kernel
theorem dX1_init_70 : decode cX1_init 70 = .ok (.dup, 1) := by decide +kernel
theorem dX1_init_71 : decode cX1_init 71 = .ok (.iconst 4, 1) := by decide +kernel
theorem dX1_init_72 : decode cX1_init 72 = .ok (.invokespecial 35, 3) := by decide +kernel
theorem dX1_init_75 : decode cX1_init 75 = .ok (.putfield 42, 3) := by decide +kernel
theorem dX1_init_78 : decode cX1_init 78 = .ok (.return_, 1) := by decide +kernel
theorem dX1_clear_0 : decode cX1_clear 0 = .ok (.aload_n 0, 1) := by decide +kernel
theorem dX1_clear_1 : decode cX1_clear 1 = .ok (.getfield 38, 3) := by decide +kernel
theorem dX1_clear_4 : decode cX1_clear 4 = .ok (.iconst 0, 1) := by decide +kernel
theorem dX1_clear_5 : decode cX1_clear 5 = .ok (.putfield 45, 3) := by decide +kernel
theorem dX1_clear_8 : decode cX1_clear 8 = .ok (.aload_n 0, 1) := by decide +kernel
theorem dX1_clear_9 : decode cX1_clear 9 = .ok (.getfield 42, 3) := by decide +kernel
theorem dX1_clear_12 : decode cX1_clear 12 = .ok (.iconst 0, 1) := by decide +kernel
theorem dX1_clear_13 : decode cX1_clear 13 = .ok (.putfield 45, 3) := by decide +kernel
theorem dX1_clear_16 : decode cX1_clear 16 = .ok (.aload_n 0, 1) := by decide +kernel
theorem dX1_clear_17 : decode cX1_clear 17 = .ok (.iconst 0, 1) := by decide +kernel
theorem dX1_clear_18 : decode cX1_clear 18 = .ok (.putfield 49, 3) := by decide +kernel
theorem dX1_clear_21 : decode cX1_clear 21 = .ok (.aload_n 0, 1) := by decide +kernel
theorem dX1_clear_22 : decode cX1_clear 22 = .ok (.iconst 0, 1) := by decide +kernel
theorem dX1_clear_23 : decode cX1_clear 23 = .ok (.putfield 52, 3) := by decide +kernel
theorem dX1_clear_26 : decode cX1_clear 26 = .ok (.aload_n 0, 1) := by decide +kernel
theorem dX1_clear_27 : decode cX1_clear 27 = .ok (.iconst 0, 1) := by decide +kernel
theorem dX1_clear_28 : decode cX1_clear 28 = .ok (.putfield 55, 3) := by decide +kernel
theorem dX1_clear_31 : decode cX1_clear 31 = .ok (.aload_n 0, 1) := by decide +kernel
theorem dX1_clear_32 : decode cX1_clear 32 = .ok (.iconst 0, 1) := by decide +kernel
theorem dX1_clear_33 : decode cX1_clear 33 = .ok (.putfield 58, 3) := by decide +kernel
theorem dX1_clear_36 : decode cX1_clear 36 = .ok (.aload_n 0, 1) := by decide +kernel
theorem dX1_clear_37 : decode cX1_clear 37 = .ok (.iconst 0, 1) := by decide +kernel
theorem dX1_clear_38 : decode cX1_clear 38 = .ok (.putfield 61, 3) := by decide +kernel
theorem dX1_clear_41 : decode cX1_clear 41 = .ok (.aload_n 0, 1) := by decide +kernel
theorem dX1_clear_42 : decode cX1_clear 42 = .ok (.iconst 0, 1) := by decide +kernel
theorem dX1_clear_43 : decode cX1_clear 43 = .ok (.putfield 64, 3) := by decide +kernel
theorem dX1_clear_46 : decode cX1_clear 46 = .ok (.aload_n 0, 1) := by decide +kernel
theorem dX1_clear_47 : decode cX1_clear 47 = .ok (.iconst 0, 1) := by decide +kernel
theorem dX1_clear_48 : decode cX1_clear 48 = .ok (.putfield 67, 3) := by decide +kernel
theorem dX1_clear_51 : decode cX1_clear 51 = .ok (.return_, 1) := by decide +kernel
theorem dX1_isDue_0 : decode cX1_isDue 0 = .ok (.aload_n 0, 1) := by decide +kernel
theorem dX1_isDue_1 : decode cX1_isDue 1 = .ok (.getfield 38, 3) := by decide +kernel
theorem dX1_isDue_4 : decode cX1_isDue 4 = .ok (.getfield 70, 3) := by decide +kernel
theorem dX1_isDue_7 : decode cX1_isDue 7 = .ok (.iload_n 2, 1) := by decide +kernel
theorem dX1_isDue_8 : decode cX1_isDue 8 = .ok (.iaload, 1) := by decide +kernel
theorem dX1_isDue_9 : decode cX1_isDue 9 = .ok (.iload_n 3, 1) := by decide +kernel
theorem dX1_isDue_10 : decode cX1_isDue 10 = .ok (.if_icmp .gt 16, 3) := by decide +kernel
theorem dX1_isDue_13 : decode cX1_isDue 13 = .ok (.aload_n 1, 1) := by decide +kernel
theorem dX1_isDue_14 : decode cX1_isDue 14 = .ok (.getfield 73, 3) := by decide +kernel
theorem dX1_isDue_17 : decode cX1_isDue 17 = .ok (.iload_n 2, 1) := by decide +kernel
theorem dX1_isDue_18 : decode cX1_isDue 18 = .ok (.iaload, 1) := by decide +kernel
theorem dX1_isDue_19 : decode cX1_isDue 19 = .ok (.ifCond .le 7, 3) := by decide +kernel
theorem dX1_isDue_22 : decode cX1_isDue 22 = .ok (.iconst 1, 1) := by decide +kernel
theorem dX1_isDue_23 : decode cX1_isDue 23 = .ok (.goto 4, 3) := by decide +kernel
theorem dX1_isDue_26 : decode cX1_isDue 26 = .ok (.iconst 0, 1) := by decide +kernel
theorem dX1_isDue_27 : decode cX1_isDue 27 = .ok (.ireturn, 1) := by decide +kernel
theorem dX1_tinesFor_0 : decode cX1_tinesFor 0 = .ok (.iload_n 1, 1) := by decide +kernel
theorem dX1_tinesFor_1 : decode cX1_tinesFor 1 = .ok (.ifCond .le 10, 3) := by decide +kernel
theorem dX1_tinesFor_4 : decode cX1_tinesFor 4 = .ok (.aload_n 0, 1) := by decide +kernel
theorem dX1_tinesFor_5 : decode cX1_tinesFor 5 = .ok (.getfield 49, 3) := by decide +kernel
theorem dX1_tinesFor_8 : decode cX1_tinesFor 8 = .ok (.ifCond .gt 5, 3) := by decide +kernel
theorem dX1_tinesFor_11 : decode cX1_tinesFor 11 = .ok (.iconst 0, 1) := by decide +kernel
theorem dX1_tinesFor_12 : decode cX1_tinesFor 12 = .ok (.ireturn, 1) := by decide +kernel
theorem dX1_tinesFor_13 : decode cX1_tinesFor 13 = .ok (.iload_n 1, 1) := by decide +kernel
theorem dX1_tinesFor_14 : decode cX1_tinesFor 14 = .ok (.aload_n 0, 1) := by decide +kernel
theorem dX1_tinesFor_15 : decode cX1_tinesFor 15 = .ok (.getfield 49, 3) := by decide +kernel
theorem dX1_tinesFor_18 : decode cX1_tinesFor 18 = .ok (.iadd, 1) := by decide +kernel
theorem dX1_tinesFor_19 : decode cX1_tinesFor 19 = .ok (.iconst 1, 1) := by decide +kernel
theorem dX1_tinesFor_20 : decode cX1_tinesFor 20 = .ok (.isub, 1) := by decide +kernel
theorem dX1_tinesFor_21 : decode cX1_tinesFor 21 = .ok (.aload_n 0, 1) := by decide +kernel
theorem dX1_tinesFor_22 : decode cX1_tinesFor 22 = .ok (.getfield 49, 3) := by decide +kernel
theorem dX1_tinesFor_25 : decode cX1_tinesFor 25 = .ok (.idiv, 1) := by decide +kernel
theorem dX1_tinesFor_26 : decode cX1_tinesFor 26 = .ok (.ireturn, 1) := by decide +kernel
theorem dX1_tinesOf_0 : decode cX1_tinesOf 0 = .ok (.aload_n 0, 1) := by decide +kernel
theorem dX1_tinesOf_1 : decode cX1_tinesOf 1 = .ok (.aload_n 1, 1) := by decide +kernel
theorem dX1_tinesOf_2 : decode cX1_tinesOf 2 = .ok (.iload_n 2, 1) := by decide +kernel
theorem dX1_tinesOf_3 : decode cX1_tinesOf 3 = .ok (.iload_n 3, 1) := by decide +kernel
theorem dX1_tinesOf_4 : decode cX1_tinesOf 4 = .ok (.invokevirtual 78, 3) := by decide +kernel
theorem dX1_tinesOf_7 : decode cX1_tinesOf 7 = .ok (.ifCond .eq 16, 3) := by decide +kernel
theorem dX1_tinesOf_10 : decode cX1_tinesOf 10 = .ok (.aload_n 0, 1) := by decide +kernel
theorem dX1_tinesOf_11 : decode cX1_tinesOf 11 = .ok (.aload_n 1, 1) := by decide +kernel
theorem dX1_tinesOf_12 : decode cX1_tinesOf 12 = .ok (.getfield 73, 3) := by decide +kernel
theorem dX1_tinesOf_15 : decode cX1_tinesOf 15 = .ok (.iload_n 2, 1) := by decide +kernel
theorem dX1_tinesOf_16 : decode cX1_tinesOf 16 = .ok (.iaload, 1) := by decide +kernel
theorem dX1_tinesOf_17 : decode cX1_tinesOf 17 = .ok (.invokevirtual 82, 3) := by decide +kernel
theorem dX1_tinesOf_20 : decode cX1_tinesOf 20 = .ok (.goto 4, 3) := by decide +kernel
theorem dX1_tinesOf_23 : decode cX1_tinesOf 23 = .ok (.iconst 0, 1) := by decide +kernel
theorem dX1_tinesOf_24 : decode cX1_tinesOf 24 = .ok (.ireturn, 1) := by decide +kernel
theorem dX1_burdenOf_0 : decode cX1_burdenOf 0 = .ok (.iconst 0, 1) := by decide +kernel
theorem dX1_burdenOf_1 : decode cX1_burdenOf 1 = .ok (.istore 4, 2) := by decide +kernel
theorem dX1_burdenOf_3 : decode cX1_burdenOf 3 = .ok (.iconst 0, 1) := by decide +kernel
theorem dX1_burdenOf_4 : decode cX1_burdenOf 4 = .ok (.istore 5, 2) := by decide +kernel
theorem dX1_burdenOf_6 : decode cX1_burdenOf 6 = .ok (.iload 5, 2) := by decide +kernel
theorem dX1_burdenOf_8 : decode cX1_burdenOf 8 = .ok (.aload_n 0, 1) := by decide +kernel
theorem dX1_burdenOf_9 : decode cX1_burdenOf 9 = .ok (.getfield 38, 3) := by decide +kernel
theorem dX1_burdenOf_12 : decode cX1_burdenOf 12 = .ok (.getfield 45, 3) := by decide +kernel
theorem dX1_burdenOf_15 : decode cX1_burdenOf 15 = .ok (.if_icmp .ge 50, 3) := by decide +kernel
theorem dX1_burdenOf_18 : decode cX1_burdenOf 18 = .ok (.aload_n 0, 1) := by decide +kernel
theorem dX1_burdenOf_19 : decode cX1_burdenOf 19 = .ok (.getfield 38, 3) := by decide +kernel
theorem dX1_burdenOf_22 : decode cX1_burdenOf 22 = .ok (.getfield 86, 3) := by decide +kernel
theorem dX1_burdenOf_25 : decode cX1_burdenOf 25 = .ok (.iload 5, 2) := by decide +kernel
theorem dX1_burdenOf_27 : decode cX1_burdenOf 27 = .ok (.iaload, 1) := by decide +kernel
theorem dX1_burdenOf_28 : decode cX1_burdenOf 28 = .ok (.iload_n 2, 1) := by decide +kernel
theorem dX1_burdenOf_29 : decode cX1_burdenOf 29 = .ok (.if_icmp .ne 30, 3) := by decide +kernel
theorem dX1_burdenOf_32 : decode cX1_burdenOf 32 = .ok (.aload_n 0, 1) := by decide +kernel
theorem dX1_burdenOf_33 : decode cX1_burdenOf 33 = .ok (.aload_n 1, 1) := by decide +kernel
theorem dX1_burdenOf_34 : decode cX1_burdenOf 34 = .ok (.iload 5, 2) := by decide +kernel
theorem dX1_burdenOf_36 : decode cX1_burdenOf 36 = .ok (.iload_n 3, 1) := by decide +kernel
theorem dX1_burdenOf_37 : decode cX1_burdenOf 37 = .ok (.invokevirtual 78, 3) := by decide +kernel
theorem dX1_burdenOf_40 : decode cX1_burdenOf 40 = .ok (.ifCond .eq 19, 3) := by decide +kernel
theorem dX1_burdenOf_43 : decode cX1_burdenOf 43 = .ok (.iload 4, 2) := by decide +kernel
theorem dX1_burdenOf_45 : decode cX1_burdenOf 45 = .ok (.aload_n 0, 1) := by decide +kernel
theorem dX1_burdenOf_46 : decode cX1_burdenOf 46 = .ok (.aload_n 1, 1) := by decide +kernel
theorem dX1_burdenOf_47 : decode cX1_burdenOf 47 = .ok (.getfield 73, 3) := by decide +kernel
theorem dX1_burdenOf_50 : decode cX1_burdenOf 50 = .ok (.iload 5, 2) := by decide +kernel
theorem dX1_burdenOf_52 : decode cX1_burdenOf 52 = .ok (.iaload, 1) := by decide +kernel
theorem dX1_burdenOf_53 : decode cX1_burdenOf 53 = .ok (.invokevirtual 82, 3) := by decide +kernel
theorem dX1_burdenOf_56 : decode cX1_burdenOf 56 = .ok (.iadd, 1) := by decide +kernel
theorem dX1_burdenOf_57 : decode cX1_burdenOf 57 = .ok (.istore 4, 2) := by decide +kernel
theorem dX1_burdenOf_59 : decode cX1_burdenOf 59 = .ok (.iinc 5 1, 3) := by decide +kernel
theorem dX1_burdenOf_62 : decode cX1_burdenOf 62 = .ok (.goto (-56), 3) := by decide +kernel
theorem dX1_burdenOf_65 : decode cX1_burdenOf 65 = .ok (.iload 4, 2) := by decide +kernel
theorem dX1_burdenOf_67 : decode cX1_burdenOf 67 = .ok (.ireturn, 1) := by decide +kernel
theorem dX1_headBy_0 : decode cX1_headBy 0 = .ok (.aload_n 0, 1) := by decide +kernel
theorem dX1_headBy_1 : decode cX1_headBy 1 = .ok (.getfield 9, 3) := by decide +kernel
theorem dX1_headBy_4 : decode cX1_headBy 4 = .ok (.iload_n 1, 1) := by decide +kernel
theorem dX1_headBy_5 : decode cX1_headBy 5 = .ok (.iaload, 1) := by decide +kernel
theorem dX1_headBy_6 : decode cX1_headBy 6 = .ok (.tableswitch 38 1 3 #[26, 28, 32], 26) := by decide +kernel
theorem dX1_headBy_32 : decode cX1_headBy 32 = .ok (.iconst 0, 1) := by decide +kernel
theorem dX1_headBy_33 : decode cX1_headBy 33 = .ok (.ireturn, 1) := by decide +kernel
theorem dX1_headBy_34 : decode cX1_headBy 34 = .ok (.iconst 2, 1) := by decide +kernel
theorem dX1_headBy_35 : decode cX1_headBy 35 = .ok (.iload_n 2, 1) := by decide +kernel
theorem dX1_headBy_36 : decode cX1_headBy 36 = .ok (.imul, 1) := by decide +kernel
theorem dX1_headBy_37 : decode cX1_headBy 37 = .ok (.ireturn, 1) := by decide +kernel
theorem dX1_headBy_38 : decode cX1_headBy 38 = .ok (.iload_n 2, 1) := by decide +kernel
theorem dX1_headBy_39 : decode cX1_headBy 39 = .ok (.iconst 1, 1) := by decide +kernel
theorem dX1_headBy_40 : decode cX1_headBy 40 = .ok (.iadd, 1) := by decide +kernel
theorem dX1_headBy_41 : decode cX1_headBy 41 = .ok (.iconst 2, 1) := by decide +kernel
theorem dX1_headBy_42 : decode cX1_headBy 42 = .ok (.idiv, 1) := by decide +kernel
theorem dX1_headBy_43 : decode cX1_headBy 43 = .ok (.ireturn, 1) := by decide +kernel
theorem dX1_headBy_44 : decode cX1_headBy 44 = .ok (.iload_n 2, 1) := by decide +kernel
theorem dX1_headBy_45 : decode cX1_headBy 45 = .ok (.ireturn, 1) := by decide +kernel
theorem dX1_headOf_0 : decode cX1_headOf 0 = .ok (.aload_n 0, 1) := by decide +kernel
theorem dX1_headOf_1 : decode cX1_headOf 1 = .ok (.iload_n 2, 1) := by decide +kernel
theorem dX1_headOf_2 : decode cX1_headOf 2 = .ok (.aload_n 0, 1) := by decide +kernel
theorem dX1_headOf_3 : decode cX1_headOf 3 = .ok (.aload_n 1, 1) := by decide +kernel
theorem dX1_headOf_4 : decode cX1_headOf 4 = .ok (.iload_n 2, 1) := by decide +kernel
theorem dX1_headOf_5 : decode cX1_headOf 5 = .ok (.iload_n 3, 1) := by decide +kernel
theorem dX1_headOf_6 : decode cX1_headOf 6 = .ok (.invokevirtual 89, 3) := by decide +kernel
theorem dX1_headOf_9 : decode cX1_headOf 9 = .ok (.invokevirtual 93, 3) := by decide +kernel
theorem dX1_headOf_12 : decode cX1_headOf 12 = .ok (.ireturn, 1) := by decide +kernel
theorem dX1_allHeads_0 : decode cX1_allHeads 0 = .ok (.iconst 0, 1) := by decide +kernel
theorem dX1_allHeads_1 : decode cX1_allHeads 1 = .ok (.istore_n 3, 1) := by decide +kernel
theorem dX1_allHeads_2 : decode cX1_allHeads 2 = .ok (.iconst 0, 1) := by decide +kernel
theorem dX1_allHeads_3 : decode cX1_allHeads 3 = .ok (.istore 4, 2) := by decide +kernel
theorem dX1_allHeads_5 : decode cX1_allHeads 5 = .ok (.iload 4, 2) := by decide +kernel
theorem dX1_allHeads_7 : decode cX1_allHeads 7 = .ok (.aload_n 0, 1) := by decide +kernel
theorem dX1_allHeads_8 : decode cX1_allHeads 8 = .ok (.getfield 61, 3) := by decide +kernel
theorem dX1_allHeads_11 : decode cX1_allHeads 11 = .ok (.if_icmp .ge 20, 3) := by decide +kernel
theorem dX1_allHeads_14 : decode cX1_allHeads 14 = .ok (.iload_n 3, 1) := by decide +kernel
theorem dX1_allHeads_15 : decode cX1_allHeads 15 = .ok (.aload_n 0, 1) := by decide +kernel
theorem dX1_allHeads_16 : decode cX1_allHeads 16 = .ok (.aload_n 1, 1) := by decide +kernel
theorem dX1_allHeads_17 : decode cX1_allHeads 17 = .ok (.iload 4, 2) := by decide +kernel
theorem dX1_allHeads_19 : decode cX1_allHeads 19 = .ok (.iload_n 2, 1) := by decide +kernel
theorem dX1_allHeads_20 : decode cX1_allHeads 20 = .ok (.invokevirtual 97, 3) := by decide +kernel
theorem dX1_allHeads_23 : decode cX1_allHeads 23 = .ok (.iadd, 1) := by decide +kernel
theorem dX1_allHeads_24 : decode cX1_allHeads 24 = .ok (.istore_n 3, 1) := by decide +kernel
theorem dX1_allHeads_25 : decode cX1_allHeads 25 = .ok (.iinc 4 1, 3) := by decide +kernel
theorem dX1_allHeads_28 : decode cX1_allHeads 28 = .ok (.goto (-23), 3) := by decide +kernel
theorem dX1_allHeads_31 : decode cX1_allHeads 31 = .ok (.iload_n 3, 1) := by decide +kernel
theorem dX1_allHeads_32 : decode cX1_allHeads 32 = .ok (.ireturn, 1) := by decide +kernel
theorem dX1_dueFrom_0 : decode cX1_dueFrom 0 = .ok (.iconst 0, 1) := by decide +kernel
theorem dX1_dueFrom_1 : decode cX1_dueFrom 1 = .ok (.istore_n 3, 1) := by decide +kernel
theorem dX1_dueFrom_2 : decode cX1_dueFrom 2 = .ok (.iconst 0, 1) := by decide +kernel
theorem dX1_dueFrom_3 : decode cX1_dueFrom 3 = .ok (.istore 4, 2) := by decide +kernel
theorem dX1_dueFrom_5 : decode cX1_dueFrom 5 = .ok (.iload 4, 2) := by decide +kernel
theorem dX1_dueFrom_7 : decode cX1_dueFrom 7 = .ok (.aload_n 0, 1) := by decide +kernel
theorem dX1_dueFrom_8 : decode cX1_dueFrom 8 = .ok (.getfield 38, 3) := by decide +kernel
theorem dX1_dueFrom_11 : decode cX1_dueFrom 11 = .ok (.getfield 45, 3) := by decide +kernel
theorem dX1_dueFrom_14 : decode cX1_dueFrom 14 = .ok (.if_icmp .ge 47, 3) := by decide +kernel
theorem dX1_dueFrom_17 : decode cX1_dueFrom 17 = .ok (.aload_n 0, 1) := by decide +kernel
theorem dX1_dueFrom_18 : decode cX1_dueFrom 18 = .ok (.getfield 38, 3) := by decide +kernel
theorem dX1_dueFrom_21 : decode cX1_dueFrom 21 = .ok (.getfield 86, 3) := by decide +kernel
theorem dX1_dueFrom_24 : decode cX1_dueFrom 24 = .ok (.iload 4, 2) := by decide +kernel
theorem dX1_dueFrom_26 : decode cX1_dueFrom 26 = .ok (.iaload, 1) := by decide +kernel
theorem dX1_dueFrom_27 : decode cX1_dueFrom 27 = .ok (.iload_n 2, 1) := by decide +kernel
theorem dX1_dueFrom_28 : decode cX1_dueFrom 28 = .ok (.if_icmp .ne 27, 3) := by decide +kernel
theorem dX1_dueFrom_31 : decode cX1_dueFrom 31 = .ok (.aload_n 0, 1) := by decide +kernel
theorem dX1_dueFrom_32 : decode cX1_dueFrom 32 = .ok (.aload_n 1, 1) := by decide +kernel
theorem dX1_dueFrom_33 : decode cX1_dueFrom 33 = .ok (.iload 4, 2) := by decide +kernel
theorem dX1_dueFrom_35 : decode cX1_dueFrom 35 = .ok (.aload_n 1, 1) := by decide +kernel
theorem dX1_dueFrom_36 : decode cX1_dueFrom 36 = .ok (.getfield 100, 3) := by decide +kernel
theorem dX1_dueFrom_39 : decode cX1_dueFrom 39 = .ok (.invokevirtual 78, 3) := by decide +kernel
theorem dX1_dueFrom_42 : decode cX1_dueFrom 42 = .ok (.ifCond .eq 13, 3) := by decide +kernel
theorem dX1_dueFrom_45 : decode cX1_dueFrom 45 = .ok (.iload_n 3, 1) := by decide +kernel
theorem dX1_dueFrom_46 : decode cX1_dueFrom 46 = .ok (.aload_n 1, 1) := by decide +kernel
theorem dX1_dueFrom_47 : decode cX1_dueFrom 47 = .ok (.getfield 73, 3) := by decide +kernel
theorem dX1_dueFrom_50 : decode cX1_dueFrom 50 = .ok (.iload 4, 2) := by decide +kernel
theorem dX1_dueFrom_52 : decode cX1_dueFrom 52 = .ok (.iaload, 1) := by decide +kernel
theorem dX1_dueFrom_53 : decode cX1_dueFrom 53 = .ok (.iadd, 1) := by decide +kernel
theorem dX1_dueFrom_54 : decode cX1_dueFrom 54 = .ok (.istore_n 3, 1) := by decide +kernel
theorem dX1_dueFrom_55 : decode cX1_dueFrom 55 = .ok (.iinc 4 1, 3) := by decide +kernel
theorem dX1_dueFrom_58 : decode cX1_dueFrom 58 = .ok (.goto (-53), 3) := by decide +kernel
theorem dX1_dueFrom_61 : decode cX1_dueFrom 61 = .ok (.iload_n 3, 1) := by decide +kernel
theorem dX1_dueFrom_62 : decode cX1_dueFrom 62 = .ok (.ireturn, 1) := by decide +kernel
theorem dX1_dueTo_0 : decode cX1_dueTo 0 = .ok (.iconst 0, 1) := by decide +kernel
theorem dX1_dueTo_1 : decode cX1_dueTo 1 = .ok (.istore_n 3, 1) := by decide +kernel
theorem dX1_dueTo_2 : decode cX1_dueTo 2 = .ok (.iconst 0, 1) := by decide +kernel
theorem dX1_dueTo_3 : decode cX1_dueTo 3 = .ok (.istore 4, 2) := by decide +kernel
theorem dX1_dueTo_5 : decode cX1_dueTo 5 = .ok (.iload 4, 2) := by decide +kernel
theorem dX1_dueTo_7 : decode cX1_dueTo 7 = .ok (.aload_n 0, 1) := by decide +kernel
theorem dX1_dueTo_8 : decode cX1_dueTo 8 = .ok (.getfield 38, 3) := by decide +kernel
theorem dX1_dueTo_11 : decode cX1_dueTo 11 = .ok (.getfield 45, 3) := by decide +kernel
theorem dX1_dueTo_14 : decode cX1_dueTo 14 = .ok (.if_icmp .ge 47, 3) := by decide +kernel
theorem dX1_dueTo_17 : decode cX1_dueTo 17 = .ok (.aload_n 0, 1) := by decide +kernel
theorem dX1_dueTo_18 : decode cX1_dueTo 18 = .ok (.getfield 38, 3) := by decide +kernel
theorem dX1_dueTo_21 : decode cX1_dueTo 21 = .ok (.getfield 102, 3) := by decide +kernel
theorem dX1_dueTo_24 : decode cX1_dueTo 24 = .ok (.iload 4, 2) := by decide +kernel
theorem dX1_dueTo_26 : decode cX1_dueTo 26 = .ok (.iaload, 1) := by decide +kernel
theorem dX1_dueTo_27 : decode cX1_dueTo 27 = .ok (.iload_n 2, 1) := by decide +kernel
theorem dX1_dueTo_28 : decode cX1_dueTo 28 = .ok (.if_icmp .ne 27, 3) := by decide +kernel
theorem dX1_dueTo_31 : decode cX1_dueTo 31 = .ok (.aload_n 0, 1) := by decide +kernel
theorem dX1_dueTo_32 : decode cX1_dueTo 32 = .ok (.aload_n 1, 1) := by decide +kernel
theorem dX1_dueTo_33 : decode cX1_dueTo 33 = .ok (.iload 4, 2) := by decide +kernel
theorem dX1_dueTo_35 : decode cX1_dueTo 35 = .ok (.aload_n 1, 1) := by decide +kernel
theorem dX1_dueTo_36 : decode cX1_dueTo 36 = .ok (.getfield 100, 3) := by decide +kernel
theorem dX1_dueTo_39 : decode cX1_dueTo 39 = .ok (.invokevirtual 78, 3) := by decide +kernel
theorem dX1_dueTo_42 : decode cX1_dueTo 42 = .ok (.ifCond .eq 13, 3) := by decide +kernel
theorem dX1_dueTo_45 : decode cX1_dueTo 45 = .ok (.iload_n 3, 1) := by decide +kernel
theorem dX1_dueTo_46 : decode cX1_dueTo 46 = .ok (.aload_n 1, 1) := by decide +kernel
theorem dX1_dueTo_47 : decode cX1_dueTo 47 = .ok (.getfield 73, 3) := by decide +kernel
theorem dX1_dueTo_50 : decode cX1_dueTo 50 = .ok (.iload 4, 2) := by decide +kernel
theorem dX1_dueTo_52 : decode cX1_dueTo 52 = .ok (.iaload, 1) := by decide +kernel
theorem dX1_dueTo_53 : decode cX1_dueTo 53 = .ok (.iadd, 1) := by decide +kernel
theorem dX1_dueTo_54 : decode cX1_dueTo 54 = .ok (.istore_n 3, 1) := by decide +kernel
theorem dX1_dueTo_55 : decode cX1_dueTo 55 = .ok (.iinc 4 1, 3) := by decide +kernel
theorem dX1_dueTo_58 : decode cX1_dueTo 58 = .ok (.goto (-53), 3) := by decide +kernel
theorem dX1_dueTo_61 : decode cX1_dueTo 61 = .ok (.iload_n 3, 1) := by decide +kernel
theorem dX1_dueTo_62 : decode cX1_dueTo 62 = .ok (.ireturn, 1) := by decide +kernel
theorem dX1_dueBetween_0 : decode cX1_dueBetween 0 = .ok (.iconst 0, 1) := by decide +kernel
theorem dX1_dueBetween_1 : decode cX1_dueBetween 1 = .ok (.istore 4, 2) := by decide +kernel
theorem dX1_dueBetween_3 : decode cX1_dueBetween 3 = .ok (.iconst 0, 1) := by decide +kernel
theorem dX1_dueBetween_4 : decode cX1_dueBetween 4 = .ok (.istore 5, 2) := by decide +kernel
theorem dX1_dueBetween_6 : decode cX1_dueBetween 6 = .ok (.iload 5, 2) := by decide +kernel
theorem dX1_dueBetween_8 : decode cX1_dueBetween 8 = .ok (.aload_n 0, 1) := by decide +kernel
theorem dX1_dueBetween_9 : decode cX1_dueBetween 9 = .ok (.getfield 38, 3) := by decide +kernel
theorem dX1_dueBetween_12 : decode cX1_dueBetween 12 = .ok (.getfield 45, 3) := by decide +kernel
theorem dX1_dueBetween_15 : decode cX1_dueBetween 15 = .ok (.if_icmp .ge 63, 3) := by decide +kernel
theorem dX1_dueBetween_18 : decode cX1_dueBetween 18 = .ok (.aload_n 0, 1) := by decide +kernel
theorem dX1_dueBetween_19 : decode cX1_dueBetween 19 = .ok (.getfield 38, 3) := by decide +kernel
theorem dX1_dueBetween_22 : decode cX1_dueBetween 22 = .ok (.getfield 86, 3) := by decide +kernel
theorem dX1_dueBetween_25 : decode cX1_dueBetween 25 = .ok (.iload 5, 2) := by decide +kernel
theorem dX1_dueBetween_27 : decode cX1_dueBetween 27 = .ok (.iaload, 1) := by decide +kernel
theorem dX1_dueBetween_28 : decode cX1_dueBetween 28 = .ok (.iload_n 2, 1) := by decide +kernel
theorem dX1_dueBetween_29 : decode cX1_dueBetween 29 = .ok (.if_icmp .ne 43, 3) := by decide +kernel
theorem dX1_dueBetween_32 : decode cX1_dueBetween 32 = .ok (.aload_n 0, 1) := by decide +kernel
theorem dX1_dueBetween_33 : decode cX1_dueBetween 33 = .ok (.getfield 38, 3) := by decide +kernel
theorem dX1_dueBetween_36 : decode cX1_dueBetween 36 = .ok (.getfield 102, 3) := by decide +kernel
theorem dX1_dueBetween_39 : decode cX1_dueBetween 39 = .ok (.iload 5, 2) := by decide +kernel
theorem dX1_dueBetween_41 : decode cX1_dueBetween 41 = .ok (.iaload, 1) := by decide +kernel
theorem dX1_dueBetween_42 : decode cX1_dueBetween 42 = .ok (.iload_n 3, 1) := by decide +kernel
theorem dX1_dueBetween_43 : decode cX1_dueBetween 43 = .ok (.if_icmp .ne 29, 3) := by decide +kernel
theorem dX1_dueBetween_46 : decode cX1_dueBetween 46 = .ok (.aload_n 0, 1) := by decide +kernel
theorem dX1_dueBetween_47 : decode cX1_dueBetween 47 = .ok (.aload_n 1, 1) := by decide +kernel
theorem dX1_dueBetween_48 : decode cX1_dueBetween 48 = .ok (.iload 5, 2) := by decide +kernel
theorem dX1_dueBetween_50 : decode cX1_dueBetween 50 = .ok (.aload_n 1, 1) := by decide +kernel
theorem dX1_dueBetween_51 : decode cX1_dueBetween 51 = .ok (.getfield 100, 3) := by decide +kernel
theorem dX1_dueBetween_54 : decode cX1_dueBetween 54 = .ok (.invokevirtual 78, 3) := by decide +kernel
theorem dX1_dueBetween_57 : decode cX1_dueBetween 57 = .ok (.ifCond .eq 15, 3) := by decide +kernel
theorem dX1_dueBetween_60 : decode cX1_dueBetween 60 = .ok (.iload 4, 2) := by decide +kernel
theorem dX1_dueBetween_62 : decode cX1_dueBetween 62 = .ok (.aload_n 1, 1) := by decide +kernel
theorem dX1_dueBetween_63 : decode cX1_dueBetween 63 = .ok (.getfield 73, 3) := by decide +kernel
theorem dX1_dueBetween_66 : decode cX1_dueBetween 66 = .ok (.iload 5, 2) := by decide +kernel
theorem dX1_dueBetween_68 : decode cX1_dueBetween 68 = .ok (.iaload, 1) := by decide +kernel
theorem dX1_dueBetween_69 : decode cX1_dueBetween 69 = .ok (.iadd, 1) := by decide +kernel
theorem dX1_dueBetween_70 : decode cX1_dueBetween 70 = .ok (.istore 4, 2) := by decide +kernel
theorem dX1_dueBetween_72 : decode cX1_dueBetween 72 = .ok (.iinc 5 1, 3) := by decide +kernel
theorem dX1_dueBetween_75 : decode cX1_dueBetween 75 = .ok (.goto (-69), 3) := by decide +kernel
theorem dX1_dueBetween_78 : decode cX1_dueBetween 78 = .ok (.iload 4, 2) := by decide +kernel
theorem dX1_dueBetween_80 : decode cX1_dueBetween 80 = .ok (.ireturn, 1) := by decide +kernel
theorem dX1_owedBits_0 : decode cX1_owedBits 0 = .ok (.iconst 0, 1) := by decide +kernel
theorem dX1_owedBits_1 : decode cX1_owedBits 1 = .ok (.istore_n 3, 1) := by decide +kernel
theorem dX1_owedBits_2 : decode cX1_owedBits 2 = .ok (.iconst 0, 1) := by decide +kernel
theorem dX1_owedBits_3 : decode cX1_owedBits 3 = .ok (.istore 4, 2) := by decide +kernel
theorem dX1_owedBits_5 : decode cX1_owedBits 5 = .ok (.iload 4, 2) := by decide +kernel
theorem dX1_owedBits_7 : decode cX1_owedBits 7 = .ok (.aload_n 0, 1) := by decide +kernel
theorem dX1_owedBits_8 : decode cX1_owedBits 8 = .ok (.getfield 38, 3) := by decide +kernel
theorem dX1_owedBits_11 : decode cX1_owedBits 11 = .ok (.getfield 45, 3) := by decide +kernel
theorem dX1_owedBits_14 : decode cX1_owedBits 14 = .ok (.if_icmp .ge 52, 3) := by decide +kernel
theorem dX1_owedBits_17 : decode cX1_owedBits 17 = .ok (.aload_n 0, 1) := by decide +kernel
theorem dX1_owedBits_18 : decode cX1_owedBits 18 = .ok (.getfield 38, 3) := by decide +kernel
theorem dX1_owedBits_21 : decode cX1_owedBits 21 = .ok (.getfield 86, 3) := by decide +kernel
theorem dX1_owedBits_24 : decode cX1_owedBits 24 = .ok (.iload 4, 2) := by decide +kernel
theorem dX1_owedBits_26 : decode cX1_owedBits 26 = .ok (.iaload, 1) := by decide +kernel
theorem dX1_owedBits_27 : decode cX1_owedBits 27 = .ok (.iload_n 2, 1) := by decide +kernel
theorem dX1_owedBits_28 : decode cX1_owedBits 28 = .ok (.if_icmp .ne 32, 3) := by decide +kernel
theorem dX1_owedBits_31 : decode cX1_owedBits 31 = .ok (.aload_n 0, 1) := by decide +kernel
theorem dX1_owedBits_32 : decode cX1_owedBits 32 = .ok (.aload_n 1, 1) := by decide +kernel
theorem dX1_owedBits_33 : decode cX1_owedBits 33 = .ok (.iload 4, 2) := by decide +kernel
theorem dX1_owedBits_35 : decode cX1_owedBits 35 = .ok (.aload_n 1, 1) := by decide +kernel
theorem dX1_owedBits_36 : decode cX1_owedBits 36 = .ok (.getfield 100, 3) := by decide +kernel
theorem dX1_owedBits_39 : decode cX1_owedBits 39 = .ok (.invokevirtual 78, 3) := by decide +kernel
theorem dX1_owedBits_42 : decode cX1_owedBits 42 = .ok (.ifCond .eq 18, 3) := by decide +kernel
theorem dX1_owedBits_45 : decode cX1_owedBits 45 = .ok (.iload_n 3, 1) := by decide +kernel
theorem dX1_owedBits_46 : decode cX1_owedBits 46 = .ok (.iconst 1, 1) := by decide +kernel
theorem dX1_owedBits_47 : decode cX1_owedBits 47 = .ok (.aload_n 0, 1) := by decide +kernel
theorem dX1_owedBits_48 : decode cX1_owedBits 48 = .ok (.getfield 38, 3) := by decide +kernel
theorem dX1_owedBits_51 : decode cX1_owedBits 51 = .ok (.getfield 102, 3) := by decide +kernel
theorem dX1_owedBits_54 : decode cX1_owedBits 54 = .ok (.iload 4, 2) := by decide +kernel
theorem dX1_owedBits_56 : decode cX1_owedBits 56 = .ok (.iaload, 1) := by decide +kernel
theorem dX1_owedBits_57 : decode cX1_owedBits 57 = .ok (.ishl, 1) := by decide +kernel
theorem dX1_owedBits_58 : decode cX1_owedBits 58 = .ok (.ior, 1) := by decide +kernel
theorem dX1_owedBits_59 : decode cX1_owedBits 59 = .ok (.istore_n 3, 1) := by decide +kernel
theorem dX1_owedBits_60 : decode cX1_owedBits 60 = .ok (.iinc 4 1, 3) := by decide +kernel
theorem dX1_owedBits_63 : decode cX1_owedBits 63 = .ok (.goto (-58), 3) := by decide +kernel
theorem dX1_owedBits_66 : decode cX1_owedBits 66 = .ok (.iload_n 3, 1) := by decide +kernel
theorem dX1_owedBits_67 : decode cX1_owedBits 67 = .ok (.ireturn, 1) := by decide +kernel
theorem dX1_passes_0 : decode cX1_passes 0 = .ok (.aload_n 0, 1) := by decide +kernel
theorem dX1_passes_1 : decode cX1_passes 1 = .ok (.aload_n 1, 1) := by decide +kernel
theorem dX1_passes_2 : decode cX1_passes 2 = .ok (.iload_n 2, 1) := by decide +kernel
theorem dX1_passes_3 : decode cX1_passes 3 = .ok (.aload_n 1, 1) := by decide +kernel
theorem dX1_passes_4 : decode cX1_passes 4 = .ok (.getfield 100, 3) := by decide +kernel
theorem dX1_passes_7 : decode cX1_passes 7 = .ok (.invokevirtual 97, 3) := by decide +kernel
theorem dX1_passes_10 : decode cX1_passes 10 = .ok (.aload_n 0, 1) := by decide +kernel
theorem dX1_passes_11 : decode cX1_passes 11 = .ok (.getfield 24, 3) := by decide +kernel
theorem dX1_passes_14 : decode cX1_passes 14 = .ok (.iload_n 3, 1) := by decide +kernel
theorem dX1_passes_15 : decode cX1_passes 15 = .ok (.iaload, 1) := by decide +kernel
theorem dX1_passes_16 : decode cX1_passes 16 = .ok (.if_icmp .gt 7, 3) := by decide +kernel
theorem dX1_passes_19 : decode cX1_passes 19 = .ok (.iconst 1, 1) := by decide +kernel
theorem dX1_passes_20 : decode cX1_passes 20 = .ok (.goto 4, 3) := by decide +kernel
theorem dX1_passes_23 : decode cX1_passes 23 = .ok (.iconst 0, 1) := by decide +kernel
theorem dX1_passes_24 : decode cX1_passes 24 = .ok (.ireturn, 1) := by decide +kernel
theorem dX1_passingBits_0 : decode cX1_passingBits 0 = .ok (.iconst 0, 1) := by decide +kernel
theorem dX1_passingBits_1 : decode cX1_passingBits 1 = .ok (.istore_n 3, 1) := by decide +kernel
theorem dX1_passingBits_2 : decode cX1_passingBits 2 = .ok (.iconst 0, 1) := by decide +kernel
theorem dX1_passingBits_3 : decode cX1_passingBits 3 = .ok (.istore 4, 2) := by decide +kernel
theorem dX1_passingBits_5 : decode cX1_passingBits 5 = .ok (.iload 4, 2) := by decide +kernel
theorem dX1_passingBits_7 : decode cX1_passingBits 7 = .ok (.aload_n 0, 1) := by decide +kernel
theorem dX1_passingBits_8 : decode cX1_passingBits 8 = .ok (.getfield 61, 3) := by decide +kernel
theorem dX1_passingBits_11 : decode cX1_passingBits 11 = .ok (.if_icmp .ge 27, 3) := by decide +kernel
theorem dX1_passingBits_14 : decode cX1_passingBits 14 = .ok (.aload_n 0, 1) := by decide +kernel
theorem dX1_passingBits_15 : decode cX1_passingBits 15 = .ok (.aload_n 1, 1) := by decide +kernel
theorem dX1_passingBits_16 : decode cX1_passingBits 16 = .ok (.iload 4, 2) := by decide +kernel
theorem dX1_passingBits_18 : decode cX1_passingBits 18 = .ok (.iload_n 2, 1) := by decide +kernel
theorem dX1_passingBits_19 : decode cX1_passingBits 19 = .ok (.invokevirtual 105, 3) := by decide +kernel
theorem dX1_passingBits_22 : decode cX1_passingBits 22 = .ok (.ifCond .eq 10, 3) := by decide +kernel
theorem dX1_passingBits_25 : decode cX1_passingBits 25 = .ok (.iload_n 3, 1) := by decide +kernel
theorem dX1_passingBits_26 : decode cX1_passingBits 26 = .ok (.iconst 1, 1) := by decide +kernel
theorem dX1_passingBits_27 : decode cX1_passingBits 27 = .ok (.iload 4, 2) := by decide +kernel
theorem dX1_passingBits_29 : decode cX1_passingBits 29 = .ok (.ishl, 1) := by decide +kernel
theorem dX1_passingBits_30 : decode cX1_passingBits 30 = .ok (.ior, 1) := by decide +kernel
theorem dX1_passingBits_31 : decode cX1_passingBits 31 = .ok (.istore_n 3, 1) := by decide +kernel
theorem dX1_passingBits_32 : decode cX1_passingBits 32 = .ok (.iinc 4 1, 3) := by decide +kernel
theorem dX1_passingBits_35 : decode cX1_passingBits 35 = .ok (.goto (-30), 3) := by decide +kernel
theorem dX1_passingBits_38 : decode cX1_passingBits 38 = .ok (.iload_n 3, 1) := by decide +kernel
theorem dX1_passingBits_39 : decode cX1_passingBits 39 = .ok (.ireturn, 1) := by decide +kernel
theorem dX1_invitedBits_0 : decode cX1_invitedBits 0 = .ok (.iconst 0, 1) := by decide +kernel
theorem dX1_invitedBits_1 : decode cX1_invitedBits 1 = .ok (.istore_n 2, 1) := by decide +kernel
theorem dX1_invitedBits_2 : decode cX1_invitedBits 2 = .ok (.iconst 0, 1) := by decide +kernel
theorem dX1_invitedBits_3 : decode cX1_invitedBits 3 = .ok (.istore_n 3, 1) := by decide +kernel
theorem dX1_invitedBits_4 : decode cX1_invitedBits 4 = .ok (.iload_n 3, 1) := by decide +kernel
theorem dX1_invitedBits_5 : decode cX1_invitedBits 5 = .ok (.aload_n 0, 1) := by decide +kernel
theorem dX1_invitedBits_6 : decode cX1_invitedBits 6 = .ok (.getfield 61, 3) := by decide +kernel
theorem dX1_invitedBits_9 : decode cX1_invitedBits 9 = .ok (.if_icmp .ge 25, 3) := by decide +kernel
theorem dX1_invitedBits_12 : decode cX1_invitedBits 12 = .ok (.aload_n 0, 1) := by decide +kernel
theorem dX1_invitedBits_13 : decode cX1_invitedBits 13 = .ok (.getfield 21, 3) := by decide +kernel
theorem dX1_invitedBits_16 : decode cX1_invitedBits 16 = .ok (.iload_n 3, 1) := by decide +kernel
theorem dX1_invitedBits_17 : decode cX1_invitedBits 17 = .ok (.iaload, 1) := by decide +kernel
theorem dX1_invitedBits_18 : decode cX1_invitedBits 18 = .ok (.iload_n 1, 1) := by decide +kernel
theorem dX1_invitedBits_19 : decode cX1_invitedBits 19 = .ok (.if_icmp .ne 9, 3) := by decide +kernel
theorem dX1_invitedBits_22 : decode cX1_invitedBits 22 = .ok (.iload_n 2, 1) := by decide +kernel
theorem dX1_invitedBits_23 : decode cX1_invitedBits 23 = .ok (.iconst 1, 1) := by decide +kernel
theorem dX1_invitedBits_24 : decode cX1_invitedBits 24 = .ok (.iload_n 3, 1) := by decide +kernel
theorem dX1_invitedBits_25 : decode cX1_invitedBits 25 = .ok (.ishl, 1) := by decide +kernel
theorem dX1_invitedBits_26 : decode cX1_invitedBits 26 = .ok (.ior, 1) := by decide +kernel
theorem dX1_invitedBits_27 : decode cX1_invitedBits 27 = .ok (.istore_n 2, 1) := by decide +kernel
theorem dX1_invitedBits_28 : decode cX1_invitedBits 28 = .ok (.iinc 3 1, 3) := by decide +kernel
theorem dX1_invitedBits_31 : decode cX1_invitedBits 31 = .ok (.goto (-27), 3) := by decide +kernel
theorem dX1_invitedBits_34 : decode cX1_invitedBits 34 = .ok (.iload_n 2, 1) := by decide +kernel
theorem dX1_invitedBits_35 : decode cX1_invitedBits 35 = .ok (.ireturn, 1) := by decide +kernel
theorem dX1_invitedCount_0 : decode cX1_invitedCount 0 = .ok (.iconst 0, 1) := by decide +kernel
theorem dX1_invitedCount_1 : decode cX1_invitedCount 1 = .ok (.istore_n 1, 1) := by decide +kernel
theorem dX1_invitedCount_2 : decode cX1_invitedCount 2 = .ok (.iconst 0, 1) := by decide +kernel
theorem dX1_invitedCount_3 : decode cX1_invitedCount 3 = .ok (.istore_n 2, 1) := by decide +kernel
theorem dX1_invitedCount_4 : decode cX1_invitedCount 4 = .ok (.iload_n 2, 1) := by decide +kernel
theorem dX1_invitedCount_5 : decode cX1_invitedCount 5 = .ok (.aload_n 0, 1) := by decide +kernel
theorem dX1_invitedCount_6 : decode cX1_invitedCount 6 = .ok (.getfield 61, 3) := by decide +kernel
theorem dX1_invitedCount_9 : decode cX1_invitedCount 9 = .ok (.if_icmp .ge 22, 3) := by decide +kernel
theorem dX1_invitedCount_12 : decode cX1_invitedCount 12 = .ok (.aload_n 0, 1) := by decide +kernel
theorem dX1_invitedCount_13 : decode cX1_invitedCount 13 = .ok (.getfield 21, 3) := by decide +kernel
theorem dX1_invitedCount_16 : decode cX1_invitedCount 16 = .ok (.iload_n 2, 1) := by decide +kernel
theorem dX1_invitedCount_17 : decode cX1_invitedCount 17 = .ok (.iaload, 1) := by decide +kernel
theorem dX1_invitedCount_18 : decode cX1_invitedCount 18 = .ok (.iconst (-1), 1) := by decide +kernel
theorem dX1_invitedCount_19 : decode cX1_invitedCount 19 = .ok (.if_icmp .eq 6, 3) := by decide +kernel
theorem dX1_invitedCount_22 : decode cX1_invitedCount 22 = .ok (.iinc 1 1, 3) := by decide +kernel
theorem dX1_invitedCount_25 : decode cX1_invitedCount 25 = .ok (.iinc 2 1, 3) := by decide +kernel
theorem dX1_invitedCount_28 : decode cX1_invitedCount 28 = .ok (.goto (-24), 3) := by decide +kernel
theorem dX1_invitedCount_31 : decode cX1_invitedCount 31 = .ok (.iload_n 1, 1) := by decide +kernel
theorem dX1_invitedCount_32 : decode cX1_invitedCount 32 = .ok (.ireturn, 1) := by decide +kernel
theorem dX1_menWithin_0 : decode cX1_menWithin 0 = .ok (.iconst 0, 1) := by decide +kernel
theorem dX1_menWithin_1 : decode cX1_menWithin 1 = .ok (.istore_n 3, 1) := by decide +kernel
theorem dX1_menWithin_2 : decode cX1_menWithin 2 = .ok (.iconst 0, 1) := by decide +kernel
theorem dX1_menWithin_3 : decode cX1_menWithin 3 = .ok (.istore 4, 2) := by decide +kernel
theorem dX1_menWithin_5 : decode cX1_menWithin 5 = .ok (.iload 4, 2) := by decide +kernel
theorem dX1_menWithin_7 : decode cX1_menWithin 7 = .ok (.aload_n 0, 1) := by decide +kernel
theorem dX1_menWithin_8 : decode cX1_menWithin 8 = .ok (.getfield 61, 3) := by decide +kernel
theorem dX1_menWithin_11 : decode cX1_menWithin 11 = .ok (.if_icmp .ge 27, 3) := by decide +kernel
theorem dX1_menWithin_14 : decode cX1_menWithin 14 = .ok (.aload_n 0, 1) := by decide +kernel
theorem dX1_menWithin_15 : decode cX1_menWithin 15 = .ok (.aload_n 1, 1) := by decide +kernel
theorem dX1_menWithin_16 : decode cX1_menWithin 16 = .ok (.iload 4, 2) := by decide +kernel
theorem dX1_menWithin_18 : decode cX1_menWithin 18 = .ok (.aload_n 1, 1) := by decide +kernel
theorem dX1_menWithin_19 : decode cX1_menWithin 19 = .ok (.getfield 100, 3) := by decide +kernel
theorem dX1_menWithin_22 : decode cX1_menWithin 22 = .ok (.invokevirtual 97, 3) := by decide +kernel
theorem dX1_menWithin_25 : decode cX1_menWithin 25 = .ok (.iload_n 2, 1) := by decide +kernel
theorem dX1_menWithin_26 : decode cX1_menWithin 26 = .ok (.if_icmp .gt 6, 3) := by decide +kernel
theorem dX1_menWithin_29 : decode cX1_menWithin 29 = .ok (.iinc 3 1, 3) := by decide +kernel
theorem dX1_menWithin_32 : decode cX1_menWithin 32 = .ok (.iinc 4 1, 3) := by decide +kernel
theorem dX1_menWithin_35 : decode cX1_menWithin 35 = .ok (.goto (-30), 3) := by decide +kernel
theorem dX1_menWithin_38 : decode cX1_menWithin 38 = .ok (.iload_n 3, 1) := by decide +kernel
theorem dX1_menWithin_39 : decode cX1_menWithin 39 = .ok (.ireturn, 1) := by decide +kernel
theorem dX1_nextTineCosts_0 : decode cX1_nextTineCosts 0 = .ok (.iload_n 1, 1) := by decide +kernel
theorem dX1_nextTineCosts_1 : decode cX1_nextTineCosts 1 = .ok (.ifCond .le 10, 3) := by decide +kernel
theorem dX1_nextTineCosts_4 : decode cX1_nextTineCosts 4 = .ok (.aload_n 0, 1) := by decide +kernel
theorem dX1_nextTineCosts_5 : decode cX1_nextTineCosts 5 = .ok (.getfield 49, 3) := by decide +kernel
theorem dX1_nextTineCosts_8 : decode cX1_nextTineCosts 8 = .ok (.ifCond .gt 5, 3) := by decide +kernel
theorem dX1_nextTineCosts_11 : decode cX1_nextTineCosts 11 = .ok (.iconst 0, 1) := by decide +kernel
theorem dX1_nextTineCosts_12 : decode cX1_nextTineCosts 12 = .ok (.ireturn, 1) := by decide +kernel
theorem dX1_nextTineCosts_13 : decode cX1_nextTineCosts 13 = .ok (.iload_n 1, 1) := by decide +kernel
theorem dX1_nextTineCosts_14 : decode cX1_nextTineCosts 14 = .ok (.iconst 1, 1) := by decide +kernel
theorem dX1_nextTineCosts_15 : decode cX1_nextTineCosts 15 = .ok (.isub, 1) := by decide +kernel
theorem dX1_nextTineCosts_16 : decode cX1_nextTineCosts 16 = .ok (.aload_n 0, 1) := by decide +kernel
theorem dX1_nextTineCosts_17 : decode cX1_nextTineCosts 17 = .ok (.getfield 49, 3) := by decide +kernel
theorem dX1_nextTineCosts_20 : decode cX1_nextTineCosts 20 = .ok (.irem, 1) := by decide +kernel
theorem dX1_nextTineCosts_21 : decode cX1_nextTineCosts 21 = .ok (.iconst 1, 1) := by decide +kernel
theorem dX1_nextTineCosts_22 : decode cX1_nextTineCosts 22 = .ok (.iadd, 1) := by decide +kernel
theorem dX1_nextTineCosts_23 : decode cX1_nextTineCosts 23 = .ok (.ireturn, 1) := by decide +kernel
theorem dX1_burdenWithin_0 : decode cX1_burdenWithin 0 = .ok (.aload_n 0, 1) := by decide +kernel
theorem dX1_burdenWithin_1 : decode cX1_burdenWithin 1 = .ok (.getfield 9, 3) := by decide +kernel
theorem dX1_burdenWithin_4 : decode cX1_burdenWithin 4 = .ok (.iload_n 1, 1) := by decide +kernel
theorem dX1_burdenWithin_5 : decode cX1_burdenWithin 5 = .ok (.iaload, 1) := by decide +kernel
theorem dX1_burdenWithin_6 : decode cX1_burdenWithin 6 = .ok (.lookupswitch 34 #[(2, 26), (3, 30)], 26) := by decide +kernel
theorem dX1_burdenWithin_32 : decode cX1_burdenWithin 32 = .ok (.iload_n 2, 1) := by decide +kernel
theorem dX1_burdenWithin_33 : decode cX1_burdenWithin 33 = .ok (.iconst 2, 1) := by decide +kernel
theorem dX1_burdenWithin_34 : decode cX1_burdenWithin 34 = .ok (.idiv, 1) := by decide +kernel
theorem dX1_burdenWithin_35 : decode cX1_burdenWithin 35 = .ok (.ireturn, 1) := by decide +kernel
theorem dX1_burdenWithin_36 : decode cX1_burdenWithin 36 = .ok (.iconst 2, 1) := by decide +kernel
theorem dX1_burdenWithin_37 : decode cX1_burdenWithin 37 = .ok (.iload_n 2, 1) := by decide +kernel
theorem dX1_burdenWithin_38 : decode cX1_burdenWithin 38 = .ok (.imul, 1) := by decide +kernel
theorem dX1_burdenWithin_39 : decode cX1_burdenWithin 39 = .ok (.ireturn, 1) := by decide +kernel
theorem dX1_burdenWithin_40 : decode cX1_burdenWithin 40 = .ok (.iload_n 2, 1) := by decide +kernel
theorem dX1_burdenWithin_41 : decode cX1_burdenWithin 41 = .ok (.ireturn, 1) := by decide +kernel
theorem dX1_tollFor_0 : decode cX1_tollFor 0 = .ok (.aload_n 0, 1) := by decide +kernel
theorem dX1_tollFor_1 : decode cX1_tollFor 1 = .ok (.getfield 9, 3) := by decide +kernel
theorem dX1_tollFor_4 : decode cX1_tollFor 4 = .ok (.iload_n 2, 1) := by decide +kernel
theorem dX1_tollFor_5 : decode cX1_tollFor 5 = .ok (.iaload, 1) := by decide +kernel
theorem dX1_tollFor_6 : decode cX1_tollFor 6 = .ok (.iconst 1, 1) := by decide +kernel
theorem dX1_tollFor_7 : decode cX1_tollFor 7 = .ok (.if_icmp .ne 5, 3) := by decide +kernel
theorem dX1_tollFor_10 : decode cX1_tollFor 10 = .ok (.iconst 0, 1) := by decide +kernel
theorem dX1_tollFor_11 : decode cX1_tollFor 11 = .ok (.ireturn, 1) := by decide +kernel
theorem dX1_tollFor_12 : decode cX1_tollFor 12 = .ok (.aload_n 0, 1) := by decide +kernel
theorem dX1_tollFor_13 : decode cX1_tollFor 13 = .ok (.aload_n 1, 1) := by decide +kernel
theorem dX1_tollFor_14 : decode cX1_tollFor 14 = .ok (.iload_n 2, 1) := by decide +kernel
theorem dX1_tollFor_15 : decode cX1_tollFor 15 = .ok (.aload_n 1, 1) := by decide +kernel
theorem dX1_tollFor_16 : decode cX1_tollFor 16 = .ok (.getfield 100, 3) := by decide +kernel
theorem dX1_tollFor_19 : decode cX1_tollFor 19 = .ok (.invokevirtual 89, 3) := by decide +kernel
theorem dX1_tollFor_22 : decode cX1_tollFor 22 = .ok (.aload_n 0, 1) := by decide +kernel
theorem dX1_tollFor_23 : decode cX1_tollFor 23 = .ok (.iload_n 2, 1) := by decide +kernel
theorem dX1_tollFor_24 : decode cX1_tollFor 24 = .ok (.iload_n 3, 1) := by decide +kernel
theorem dX1_tollFor_25 : decode cX1_tollFor 25 = .ok (.invokevirtual 108, 3) := by decide +kernel
theorem dX1_tollFor_28 : decode cX1_tollFor 28 = .ok (.isub, 1) := by decide +kernel
theorem dX1_tollFor_29 : decode cX1_tollFor 29 = .ok (.istore 4, 2) := by decide +kernel
theorem dX1_tollFor_31 : decode cX1_tollFor 31 = .ok (.iconst 0, 1) := by decide +kernel
theorem dX1_tollFor_32 : decode cX1_tollFor 32 = .ok (.istore 5, 2) := by decide +kernel
theorem dX1_tollFor_34 : decode cX1_tollFor 34 = .ok (.iconst 1, 1) := by decide +kernel
theorem dX1_tollFor_35 : decode cX1_tollFor 35 = .ok (.istore 6, 2) := by decide +kernel
theorem dX1_tollFor_37 : decode cX1_tollFor 37 = .ok (.iload 6, 2) := by decide +kernel
theorem dX1_tollFor_39 : decode cX1_tollFor 39 = .ok (.aload_n 0, 1) := by decide +kernel
theorem dX1_tollFor_40 : decode cX1_tollFor 40 = .ok (.getfield 49, 3) := by decide +kernel
theorem dX1_tollFor_43 : decode cX1_tollFor 43 = .ok (.if_icmp .ge 46, 3) := by decide +kernel
theorem dX1_tollFor_46 : decode cX1_tollFor 46 = .ok (.iload 4, 2) := by decide +kernel
theorem dX1_tollFor_48 : decode cX1_tollFor 48 = .ok (.ifCond .le 41, 3) := by decide +kernel
theorem dX1_tollFor_51 : decode cX1_tollFor 51 = .ok (.iload 4, 2) := by decide +kernel
theorem dX1_tollFor_53 : decode cX1_tollFor 53 = .ok (.aload_n 0, 1) := by decide +kernel
theorem dX1_tollFor_54 : decode cX1_tollFor 54 = .ok (.aload_n 1, 1) := by decide +kernel
theorem dX1_tollFor_55 : decode cX1_tollFor 55 = .ok (.iload_n 2, 1) := by decide +kernel
theorem dX1_tollFor_56 : decode cX1_tollFor 56 = .ok (.iload 6, 2) := by decide +kernel
theorem dX1_tollFor_58 : decode cX1_tollFor 58 = .ok (.invokevirtual 111, 3) := by decide +kernel
theorem dX1_tollFor_61 : decode cX1_tollFor 61 = .ok (.invokestatic 114, 3) := by decide +kernel
theorem dX1_tollFor_64 : decode cX1_tollFor 64 = .ok (.istore 7, 2) := by decide +kernel
theorem dX1_tollFor_66 : decode cX1_tollFor 66 = .ok (.iload 5, 2) := by decide +kernel
theorem dX1_tollFor_68 : decode cX1_tollFor 68 = .ok (.iload 7, 2) := by decide +kernel
theorem dX1_tollFor_70 : decode cX1_tollFor 70 = .ok (.iload 6, 2) := by decide +kernel
theorem dX1_tollFor_72 : decode cX1_tollFor 72 = .ok (.imul, 1) := by decide +kernel
theorem dX1_tollFor_73 : decode cX1_tollFor 73 = .ok (.iadd, 1) := by decide +kernel
theorem dX1_tollFor_74 : decode cX1_tollFor 74 = .ok (.istore 5, 2) := by decide +kernel
theorem dX1_tollFor_76 : decode cX1_tollFor 76 = .ok (.iload 4, 2) := by decide +kernel
theorem dX1_tollFor_78 : decode cX1_tollFor 78 = .ok (.iload 7, 2) := by decide +kernel
theorem dX1_tollFor_80 : decode cX1_tollFor 80 = .ok (.isub, 1) := by decide +kernel
theorem dX1_tollFor_81 : decode cX1_tollFor 81 = .ok (.istore 4, 2) := by decide +kernel
theorem dX1_tollFor_83 : decode cX1_tollFor 83 = .ok (.iinc 6 1, 3) := by decide +kernel
theorem dX1_tollFor_86 : decode cX1_tollFor 86 = .ok (.goto (-49), 3) := by decide +kernel
theorem dX1_tollFor_89 : decode cX1_tollFor 89 = .ok (.iload 4, 2) := by decide +kernel
theorem dX1_tollFor_91 : decode cX1_tollFor 91 = .ok (.ifCond .le 16, 3) := by decide +kernel
theorem dX1_tollFor_94 : decode cX1_tollFor 94 = .ok (.iload 5, 2) := by decide +kernel
theorem dX1_tollFor_96 : decode cX1_tollFor 96 = .ok (.iload 4, 2) := by decide +kernel
theorem dX1_tollFor_98 : decode cX1_tollFor 98 = .ok (.aload_n 0, 1) := by decide +kernel
theorem dX1_tollFor_99 : decode cX1_tollFor 99 = .ok (.getfield 49, 3) := by decide +kernel
theorem dX1_tollFor_102 : decode cX1_tollFor 102 = .ok (.imul, 1) := by decide +kernel
theorem dX1_tollFor_103 : decode cX1_tollFor 103 = .ok (.iadd, 1) := by decide +kernel
theorem dX1_tollFor_104 : decode cX1_tollFor 104 = .ok (.goto 5, 3) := by decide +kernel
theorem dX1_tollFor_107 : decode cX1_tollFor 107 = .ok (.iload 5, 2) := by decide +kernel
theorem dX1_tollFor_109 : decode cX1_tollFor 109 = .ok (.ireturn, 1) := by decide +kernel
theorem dX1_firstTinesAt_0 : decode cX1_firstTinesAt 0 = .ok (.iconst 0, 1) := by decide +kernel
theorem dX1_firstTinesAt_1 : decode cX1_firstTinesAt 1 = .ok (.istore 4, 2) := by decide +kernel
theorem dX1_firstTinesAt_3 : decode cX1_firstTinesAt 3 = .ok (.iconst 0, 1) := by decide +kernel
theorem dX1_firstTinesAt_4 : decode cX1_firstTinesAt 4 = .ok (.istore 5, 2) := by decide +kernel
theorem dX1_firstTinesAt_6 : decode cX1_firstTinesAt 6 = .ok (.iload 5, 2) := by decide +kernel
theorem dX1_firstTinesAt_8 : decode cX1_firstTinesAt 8 = .ok (.aload_n 0, 1) := by decide +kernel
theorem dX1_firstTinesAt_9 : decode cX1_firstTinesAt 9 = .ok (.getfield 38, 3) := by decide +kernel
theorem dX1_firstTinesAt_12 : decode cX1_firstTinesAt 12 = .ok (.getfield 45, 3) := by decide +kernel
theorem dX1_firstTinesAt_15 : decode cX1_firstTinesAt 15 = .ok (.if_icmp .ge 55, 3) := by decide +kernel
theorem dX1_firstTinesAt_18 : decode cX1_firstTinesAt 18 = .ok (.aload_n 0, 1) := by decide +kernel
theorem dX1_firstTinesAt_19 : decode cX1_firstTinesAt 19 = .ok (.getfield 38, 3) := by decide +kernel
theorem dX1_firstTinesAt_22 : decode cX1_firstTinesAt 22 = .ok (.getfield 86, 3) := by decide +kernel
theorem dX1_firstTinesAt_25 : decode cX1_firstTinesAt 25 = .ok (.iload 5, 2) := by decide +kernel
theorem dX1_firstTinesAt_27 : decode cX1_firstTinesAt 27 = .ok (.iaload, 1) := by decide +kernel
theorem dX1_firstTinesAt_28 : decode cX1_firstTinesAt 28 = .ok (.iload_n 2, 1) := by decide +kernel
theorem dX1_firstTinesAt_29 : decode cX1_firstTinesAt 29 = .ok (.if_icmp .ne 35, 3) := by decide +kernel
theorem dX1_firstTinesAt_32 : decode cX1_firstTinesAt 32 = .ok (.aload_n 0, 1) := by decide +kernel
theorem dX1_firstTinesAt_33 : decode cX1_firstTinesAt 33 = .ok (.aload_n 1, 1) := by decide +kernel
theorem dX1_firstTinesAt_34 : decode cX1_firstTinesAt 34 = .ok (.iload 5, 2) := by decide +kernel
theorem dX1_firstTinesAt_36 : decode cX1_firstTinesAt 36 = .ok (.aload_n 1, 1) := by decide +kernel
theorem dX1_firstTinesAt_37 : decode cX1_firstTinesAt 37 = .ok (.getfield 100, 3) := by decide +kernel
theorem dX1_firstTinesAt_40 : decode cX1_firstTinesAt 40 = .ok (.invokevirtual 78, 3) := by decide +kernel
theorem dX1_firstTinesAt_43 : decode cX1_firstTinesAt 43 = .ok (.ifCond .eq 21, 3) := by decide +kernel
theorem dX1_firstTinesAt_46 : decode cX1_firstTinesAt 46 = .ok (.aload_n 0, 1) := by decide +kernel
theorem dX1_firstTinesAt_47 : decode cX1_firstTinesAt 47 = .ok (.aload_n 1, 1) := by decide +kernel
theorem dX1_firstTinesAt_48 : decode cX1_firstTinesAt 48 = .ok (.getfield 73, 3) := by decide +kernel
theorem dX1_firstTinesAt_51 : decode cX1_firstTinesAt 51 = .ok (.iload 5, 2) := by decide +kernel
theorem dX1_firstTinesAt_53 : decode cX1_firstTinesAt 53 = .ok (.iaload, 1) := by decide +kernel
theorem dX1_firstTinesAt_54 : decode cX1_firstTinesAt 54 = .ok (.invokevirtual 119, 3) := by decide +kernel
theorem dX1_firstTinesAt_57 : decode cX1_firstTinesAt 57 = .ok (.iload_n 3, 1) := by decide +kernel
theorem dX1_firstTinesAt_58 : decode cX1_firstTinesAt 58 = .ok (.if_icmp .ne 6, 3) := by decide +kernel
theorem dX1_firstTinesAt_61 : decode cX1_firstTinesAt 61 = .ok (.iinc 4 1, 3) := by decide +kernel
theorem dX1_firstTinesAt_64 : decode cX1_firstTinesAt 64 = .ok (.iinc 5 1, 3) := by decide +kernel
theorem dX1_firstTinesAt_67 : decode cX1_firstTinesAt 67 = .ok (.goto (-61), 3) := by decide +kernel
theorem dX1_firstTinesAt_70 : decode cX1_firstTinesAt 70 = .ok (.iload 4, 2) := by decide +kernel
theorem dX1_firstTinesAt_72 : decode cX1_firstTinesAt 72 = .ok (.ireturn, 1) := by decide +kernel
theorem dX1_readingWeight_0 : decode cX1_readingWeight 0 = .ok (.aload_n 0, 1) := by decide +kernel
theorem dX1_readingWeight_1 : decode cX1_readingWeight 1 = .ok (.getfield 30, 3) := by decide +kernel
theorem dX1_readingWeight_4 : decode cX1_readingWeight 4 = .ok (.iload_n 1, 1) := by decide +kernel
theorem dX1_readingWeight_5 : decode cX1_readingWeight 5 = .ok (.iaload, 1) := by decide +kernel
theorem dX1_readingWeight_6 : decode cX1_readingWeight 6 = .ok (.iload_n 2, 1) := by decide +kernel
theorem dX1_readingWeight_7 : decode cX1_readingWeight 7 = .ok (.isub, 1) := by decide +kernel
theorem dX1_readingWeight_8 : decode cX1_readingWeight 8 = .ok (.istore_n 3, 1) := by decide +kernel
theorem dX1_readingWeight_9 : decode cX1_readingWeight 9 = .ok (.iload_n 3, 1) := by decide +kernel
theorem dX1_readingWeight_10 : decode cX1_readingWeight 10 = .ok (.ifCond .ne 14, 3) := by decide +kernel
theorem dX1_readingWeight_13 : decode cX1_readingWeight 13 = .ok (.sipush 200, 3) := by decide +kernel
theorem dX1_readingWeight_16 : decode cX1_readingWeight 16 = .ok (.iconst 2, 1) := by decide +kernel
theorem dX1_readingWeight_17 : decode cX1_readingWeight 17 = .ok (.aload_n 0, 1) := by decide +kernel
theorem dX1_readingWeight_18 : decode cX1_readingWeight 18 = .ok (.getfield 52, 3) := by decide +kernel
theorem dX1_readingWeight_21 : decode cX1_readingWeight 21 = .ok (.imul, 1) := by decide +kernel
theorem dX1_readingWeight_22 : decode cX1_readingWeight 22 = .ok (.isub, 1) := by decide +kernel
theorem dX1_readingWeight_23 : decode cX1_readingWeight 23 = .ok (.ireturn, 1) := by decide +kernel
theorem dX1_readingWeight_24 : decode cX1_readingWeight 24 = .ok (.iload_n 2, 1) := by decide +kernel
theorem dX1_readingWeight_25 : decode cX1_readingWeight 25 = .ok (.ifCond .ne 19, 3) := by decide +kernel
theorem dX1_readingWeight_28 : decode cX1_readingWeight 28 = .ok (.iload_n 3, 1) := by decide +kernel
theorem dX1_readingWeight_29 : decode cX1_readingWeight 29 = .ok (.iconst 1, 1) := by decide +kernel
theorem dX1_readingWeight_30 : decode cX1_readingWeight 30 = .ok (.if_icmp .ne 12, 3) := by decide +kernel
theorem dX1_readingWeight_33 : decode cX1_readingWeight 33 = .ok (.iconst 2, 1) := by decide +kernel
theorem dX1_readingWeight_34 : decode cX1_readingWeight 34 = .ok (.aload_n 0, 1) := by decide +kernel
theorem dX1_readingWeight_35 : decode cX1_readingWeight 35 = .ok (.getfield 52, 3) := by decide +kernel
theorem dX1_readingWeight_38 : decode cX1_readingWeight 38 = .ok (.imul, 1) := by decide +kernel
theorem dX1_readingWeight_39 : decode cX1_readingWeight 39 = .ok (.goto 4, 3) := by decide +kernel
theorem dX1_readingWeight_42 : decode cX1_readingWeight 42 = .ok (.iconst 0, 1) := by decide +kernel
theorem dX1_readingWeight_43 : decode cX1_readingWeight 43 = .ok (.ireturn, 1) := by decide +kernel
theorem dX1_readingWeight_44 : decode cX1_readingWeight 44 = .ok (.iload_n 3, 1) := by decide +kernel
theorem dX1_readingWeight_45 : decode cX1_readingWeight 45 = .ok (.iconst 1, 1) := by decide +kernel
theorem dX1_readingWeight_46 : decode cX1_readingWeight 46 = .ok (.if_icmp .eq 8, 3) := by decide +kernel
theorem dX1_readingWeight_49 : decode cX1_readingWeight 49 = .ok (.iload_n 3, 1) := by decide +kernel
theorem dX1_readingWeight_50 : decode cX1_readingWeight 50 = .ok (.iconst (-1), 1) := by decide +kernel
theorem dX1_readingWeight_51 : decode cX1_readingWeight 51 = .ok (.if_icmp .ne 10, 3) := by decide +kernel
theorem dX1_readingWeight_54 : decode cX1_readingWeight 54 = .ok (.aload_n 0, 1) := by decide +kernel
theorem dX1_readingWeight_55 : decode cX1_readingWeight 55 = .ok (.getfield 52, 3) := by decide +kernel
theorem dX1_readingWeight_58 : decode cX1_readingWeight 58 = .ok (.goto 4, 3) := by decide +kernel
theorem dX1_readingWeight_61 : decode cX1_readingWeight 61 = .ok (.iconst 0, 1) := by decide +kernel
theorem dX1_readingWeight_62 : decode cX1_readingWeight 62 = .ok (.ireturn, 1) := by decide +kernel
theorem dX2_init_0 : decode cX2_init 0 = .ok (.aload_n 0, 1) := by decide +kernel
theorem dX2_init_1 : decode cX2_init 1 = .ok (.invokespecial 3, 3) := by decide +kernel
theorem dX2_init_4 : decode cX2_init 4 = .ok (.aload_n 0, 1) := by decide +kernel
theorem dX2_init_5 : decode cX2_init 5 = .ok (.iconst 5, 1) := by decide +kernel
theorem dX2_init_6 : decode cX2_init 6 = .ok (.newarray .int, 2) := by decide +kernel
theorem dX2_init_8 : decode cX2_init 8 = .ok (.putfield 9, 3) := by decide +kernel
theorem dX2_init_11 : decode cX2_init 11 = .ok (.aload_n 0, 1) := by decide +kernel
theorem dX2_init_12 : decode cX2_init 12 = .ok (.bipush 7, 2) := by decide +kernel
theorem dX2_init_14 : decode cX2_init 14 = .ok (.newarray .int, 2) := by decide +kernel
theorem dX2_init_16 : decode cX2_init 16 = .ok (.putfield 15, 3) := by decide +kernel
theorem dX2_init_19 : decode cX2_init 19 = .ok (.return_, 1) := by decide +kernel
theorem dX2_copyOf_0 : decode cX2_copyOf 0 = .ok (.iconst 0, 1) := by decide +kernel
theorem dX2_copyOf_1 : decode cX2_copyOf 1 = .ok (.istore_n 2, 1) := by decide +kernel
theorem dX2_copyOf_2 : decode cX2_copyOf 2 = .ok (.iload_n 2, 1) := by decide +kernel
theorem dX2_copyOf_3 : decode cX2_copyOf 3 = .ok (.iconst 5, 1) := by decide +kernel
theorem dX2_copyOf_4 : decode cX2_copyOf 4 = .ok (.if_icmp .ge 21, 3) := by decide +kernel
theorem dX2_copyOf_7 : decode cX2_copyOf 7 = .ok (.aload_n 0, 1) := by decide +kernel
theorem dX2_copyOf_8 : decode cX2_copyOf 8 = .ok (.getfield 9, 3) := by decide +kernel
theorem dX2_copyOf_11 : decode cX2_copyOf 11 = .ok (.iload_n 2, 1) := by decide +kernel
theorem dX2_copyOf_12 : decode cX2_copyOf 12 = .ok (.aload_n 1, 1) := by decide +kernel
theorem dX2_copyOf_13 : decode cX2_copyOf 13 = .ok (.getfield 9, 3) := by decide +kernel
theorem dX2_copyOf_16 : decode cX2_copyOf 16 = .ok (.iload_n 2, 1) := by decide +kernel
theorem dX2_copyOf_17 : decode cX2_copyOf 17 = .ok (.iaload, 1) := by decide +kernel
theorem dX2_copyOf_18 : decode cX2_copyOf 18 = .ok (.iastore, 1) := by decide +kernel
theorem dX2_copyOf_19 : decode cX2_copyOf 19 = .ok (.iinc 2 1, 3) := by decide +kernel
theorem dX2_copyOf_22 : decode cX2_copyOf 22 = .ok (.goto (-20), 3) := by decide +kernel
theorem dX2_copyOf_25 : decode cX2_copyOf 25 = .ok (.iconst 0, 1) := by decide +kernel
theorem dX2_copyOf_26 : decode cX2_copyOf 26 = .ok (.istore_n 2, 1) := by decide +kernel
theorem dX2_copyOf_27 : decode cX2_copyOf 27 = .ok (.iload_n 2, 1) := by decide +kernel
theorem dX2_copyOf_28 : decode cX2_copyOf 28 = .ok (.bipush 7, 2) := by decide +kernel
theorem dX2_copyOf_30 : decode cX2_copyOf 30 = .ok (.if_icmp .ge 21, 3) := by decide +kernel
theorem dX2_copyOf_33 : decode cX2_copyOf 33 = .ok (.aload_n 0, 1) := by decide +kernel
theorem dX2_copyOf_34 : decode cX2_copyOf 34 = .ok (.getfield 15, 3) := by decide +kernel
theorem dX2_copyOf_37 : decode cX2_copyOf 37 = .ok (.iload_n 2, 1) := by decide +kernel
theorem dX2_copyOf_38 : decode cX2_copyOf 38 = .ok (.aload_n 1, 1) := by decide +kernel
theorem dX2_copyOf_39 : decode cX2_copyOf 39 = .ok (.getfield 15, 3) := by decide +kernel
theorem dX2_copyOf_42 : decode cX2_copyOf 42 = .ok (.iload_n 2, 1) := by decide +kernel
theorem dX2_copyOf_43 : decode cX2_copyOf 43 = .ok (.iaload, 1) := by decide +kernel
theorem dX2_copyOf_44 : decode cX2_copyOf 44 = .ok (.iastore, 1) := by decide +kernel
theorem dX2_copyOf_45 : decode cX2_copyOf 45 = .ok (.iinc 2 1, 3) := by decide +kernel
theorem dX2_copyOf_48 : decode cX2_copyOf 48 = .ok (.goto (-21), 3) := by decide +kernel
theorem dX2_copyOf_51 : decode cX2_copyOf 51 = .ok (.aload_n 0, 1) := by decide +kernel
theorem dX2_copyOf_52 : decode cX2_copyOf 52 = .ok (.aload_n 1, 1) := by decide +kernel
theorem dX2_copyOf_53 : decode cX2_copyOf 53 = .ok (.getfield 18, 3) := by decide +kernel
theorem dX2_copyOf_56 : decode cX2_copyOf 56 = .ok (.putfield 18, 3) := by decide +kernel
theorem dX2_copyOf_59 : decode cX2_copyOf 59 = .ok (.return_, 1) := by decide +kernel
theorem dX2_beginWith_0 : decode cX2_beginWith 0 = .ok (.iconst 0, 1) := by decide +kernel
theorem dX2_beginWith_1 : decode cX2_beginWith 1 = .ok (.istore_n 2, 1) := by decide +kernel
theorem dX2_beginWith_2 : decode cX2_beginWith 2 = .ok (.iload_n 2, 1) := by decide +kernel
theorem dX2_beginWith_3 : decode cX2_beginWith 3 = .ok (.iconst 5, 1) := by decide +kernel
theorem dX2_beginWith_4 : decode cX2_beginWith 4 = .ok (.if_icmp .ge 33, 3) := by decide +kernel
theorem dX2_beginWith_7 : decode cX2_beginWith 7 = .ok (.aload_n 0, 1) := by decide +kernel
theorem dX2_beginWith_8 : decode cX2_beginWith 8 = .ok (.getfield 9, 3) := by decide +kernel
theorem dX2_beginWith_11 : decode cX2_beginWith 11 = .ok (.iload_n 2, 1) := by decide +kernel
theorem dX2_beginWith_12 : decode cX2_beginWith 12 = .ok (.iload_n 2, 1) := by decide +kernel
theorem dX2_beginWith_13 : decode cX2_beginWith 13 = .ok (.aload_n 1, 1) := by decide +kernel
theorem dX2_beginWith_14 : decode cX2_beginWith 14 = .ok (.getfield 22, 3) := by decide +kernel
theorem dX2_beginWith_17 : decode cX2_beginWith 17 = .ok (.if_icmp .ge 12, 3) := by decide +kernel
theorem dX2_beginWith_20 : decode cX2_beginWith 20 = .ok (.aload_n 1, 1) := by decide +kernel
theorem dX2_beginWith_21 : decode cX2_beginWith 21 = .ok (.getfield 27, 3) := by decide +kernel
theorem dX2_beginWith_24 : decode cX2_beginWith 24 = .ok (.iload_n 2, 1) := by decide +kernel
theorem dX2_beginWith_25 : decode cX2_beginWith 25 = .ok (.iaload, 1) := by decide +kernel
theorem dX2_beginWith_26 : decode cX2_beginWith 26 = .ok (.goto 4, 3) := by decide +kernel
theorem dX2_beginWith_29 : decode cX2_beginWith 29 = .ok (.iconst 0, 1) := by decide +kernel
theorem dX2_beginWith_30 : decode cX2_beginWith 30 = .ok (.iastore, 1) := by decide +kernel
theorem dX2_beginWith_31 : decode cX2_beginWith 31 = .ok (.iinc 2 1, 3) := by decide +kernel
theorem dX2_beginWith_34 : decode cX2_beginWith 34 = .ok (.goto (-32), 3) := by decide +kernel
theorem dX2_beginWith_37 : decode cX2_beginWith 37 = .ok (.iconst 0, 1) := by decide +kernel
theorem dX2_beginWith_38 : decode cX2_beginWith 38 = .ok (.istore_n 2, 1) := by decide +kernel
theorem dX2_beginWith_39 : decode cX2_beginWith 39 = .ok (.iload_n 2, 1) := by decide +kernel
theorem dX2_beginWith_40 : decode cX2_beginWith 40 = .ok (.bipush 7, 2) := by decide +kernel
theorem dX2_beginWith_42 : decode cX2_beginWith 42 = .ok (.if_icmp .ge 39, 3) := by decide +kernel
theorem dX2_beginWith_45 : decode cX2_beginWith 45 = .ok (.aload_n 0, 1) := by decide +kernel
theorem dX2_beginWith_46 : decode cX2_beginWith 46 = .ok (.getfield 15, 3) := by decide +kernel
theorem dX2_beginWith_49 : decode cX2_beginWith 49 = .ok (.iload_n 2, 1) := by decide +kernel
theorem dX2_beginWith_50 : decode cX2_beginWith 50 = .ok (.iload_n 2, 1) := by decide +kernel
theorem dX2_beginWith_51 : decode cX2_beginWith 51 = .ok (.aload_n 1, 1) := by decide +kernel
theorem dX2_beginWith_52 : decode cX2_beginWith 52 = .ok (.getfield 30, 3) := by decide +kernel
theorem dX2_beginWith_55 : decode cX2_beginWith 55 = .ok (.getfield 34, 3) := by decide +kernel
theorem dX2_beginWith_58 : decode cX2_beginWith 58 = .ok (.if_icmp .ge 15, 3) := by decide +kernel
theorem dX2_beginWith_61 : decode cX2_beginWith 61 = .ok (.aload_n 1, 1) := by decide +kernel
theorem dX2_beginWith_62 : decode cX2_beginWith 62 = .ok (.getfield 30, 3) := by decide +kernel
theorem dX2_beginWith_65 : decode cX2_beginWith 65 = .ok (.getfield 39, 3) := by decide +kernel
theorem dX2_beginWith_68 : decode cX2_beginWith 68 = .ok (.iload_n 2, 1) := by decide +kernel
theorem dX2_beginWith_69 : decode cX2_beginWith 69 = .ok (.iaload, 1) := by decide +kernel
theorem dX2_beginWith_70 : decode cX2_beginWith 70 = .ok (.goto 4, 3) := by decide +kernel
theorem dX2_beginWith_73 : decode cX2_beginWith 73 = .ok (.iconst 0, 1) := by decide +kernel
theorem dX2_beginWith_74 : decode cX2_beginWith 74 = .ok (.iastore, 1) := by decide +kernel
theorem dX2_beginWith_75 : decode cX2_beginWith 75 = .ok (.iinc 2 1, 3) := by decide +kernel
theorem dX2_beginWith_78 : decode cX2_beginWith 78 = .ok (.goto (-39), 3) := by decide +kernel
theorem dX2_beginWith_81 : decode cX2_beginWith 81 = .ok (.aload_n 0, 1) := by decide +kernel
theorem dX2_beginWith_82 : decode cX2_beginWith 82 = .ok (.iconst 0, 1) := by decide +kernel
theorem dX2_beginWith_83 : decode cX2_beginWith 83 = .ok (.putfield 18, 3) := by decide +kernel
theorem dX2_beginWith_86 : decode cX2_beginWith 86 = .ok (.return_, 1) := by decide +kernel
theorem dX3_init_0 : decode cX3_init 0 = .ok (.aload_n 0, 1) := by decide +kernel
theorem dX3_init_1 : decode cX3_init 1 = .ok (.invokespecial 1, 3) := by decide +kernel
theorem dX3_init_4 : decode cX3_init 4 = .ok (.aload_n 0, 1) := by decide +kernel
theorem dX3_init_5 : decode cX3_init 5 = .ok (.new 7, 3) := by decide +kernel
theorem dX3_init_8 : decode cX3_init 8 = .ok (.dup, 1) := by decide +kernel
theorem dX3_init_9 : decode cX3_init 9 = .ok (.invokespecial 9, 3) := by decide +kernel
theorem dX3_init_12 : decode cX3_init 12 = .ok (.putfield 10, 3) := by decide +kernel
theorem dX3_init_15 : decode cX3_init 15 = .ok (.return_, 1) := by decide +kernel
theorem dX3_fly_0 : decode cX3_fly 0 = .ok (.aload_n 0, 1) := by decide +kernel
theorem dX3_fly_1 : decode cX3_fly 1 = .ok (.getfield 10, 3) := by decide +kernel
theorem dX3_fly_4 : decode cX3_fly 4 = .ok (.aload_n 2, 1) := by decide +kernel
theorem dX3_fly_5 : decode cX3_fly 5 = .ok (.invokevirtual 16, 3) := by decide +kernel
theorem dX3_fly_8 : decode cX3_fly 8 = .ok (.aload_n 0, 1) := by decide +kernel
theorem dX3_fly_9 : decode cX3_fly 9 = .ok (.iconst 0, 1) := by decide +kernel
theorem dX3_fly_10 : decode cX3_fly 10 = .ok (.putfield 20, 3) := by decide +kernel
theorem dX3_fly_13 : decode cX3_fly 13 = .ok (.iload_n 3, 1) := by decide +kernel
theorem dX3_fly_14 : decode cX3_fly 14 = .ok (.istore 5, 2) := by decide +kernel
theorem dX3_fly_16 : decode cX3_fly 16 = .ok (.iconst 0, 1) := by decide +kernel
theorem dX3_fly_17 : decode cX3_fly 17 = .ok (.istore 6, 2) := by decide +kernel
theorem dX3_fly_19 : decode cX3_fly 19 = .ok (.iload 6, 2) := by decide +kernel
theorem dX3_fly_21 : decode cX3_fly 21 = .ok (.iload 4, 2) := by decide +kernel
theorem dX3_fly_23 : decode cX3_fly 23 = .ok (.if_icmp .ge 92, 3) := by decide +kernel
theorem dX3_fly_26 : decode cX3_fly 26 = .ok (.aload_n 0, 1) := by decide +kernel
theorem dX3_fly_27 : decode cX3_fly 27 = .ok (.getfield 10, 3) := by decide +kernel
theorem dX3_fly_30 : decode cX3_fly 30 = .ok (.dup, 1) := by decide +kernel
theorem dX3_fly_31 : decode cX3_fly 31 = .ok (.getfield 24, 3) := by decide +kernel
theorem dX3_fly_34 : decode cX3_fly 34 = .ok (.iconst 1, 1) := by decide +kernel
theorem dX3_fly_35 : decode cX3_fly 35 = .ok (.iadd, 1) := by decide +kernel
theorem dX3_fly_36 : decode cX3_fly 36 = .ok (.putfield 24, 3) := by decide +kernel
theorem dX3_fly_39 : decode cX3_fly 39 = .ok (.iconst 0, 1) := by decide +kernel
theorem dX3_fly_40 : decode cX3_fly 40 = .ok (.istore 7, 2) := by decide +kernel
theorem dX3_fly_42 : decode cX3_fly 42 = .ok (.iload 7, 2) := by decide +kernel
theorem dX3_fly_44 : decode cX3_fly 44 = .ok (.aload_n 1, 1) := by decide +kernel
theorem dX3_fly_45 : decode cX3_fly 45 = .ok (.getfield 27, 3) := by decide +kernel
theorem dX3_fly_48 : decode cX3_fly 48 = .ok (.if_icmp .ge 61, 3) := by decide +kernel
theorem dX3_fly_51 : decode cX3_fly 51 = .ok (.aload_n 1, 1) := by decide +kernel
theorem dX3_fly_52 : decode cX3_fly 52 = .ok (.aload_n 0, 1) := by decide +kernel
theorem dX3_fly_53 : decode cX3_fly 53 = .ok (.getfield 10, 3) := by decide +kernel
theorem dX3_fly_56 : decode cX3_fly 56 = .ok (.iload 7, 2) := by decide +kernel
theorem dX3_fly_58 : decode cX3_fly 58 = .ok (.aload_n 0, 1) := by decide +kernel
theorem dX3_fly_59 : decode cX3_fly 59 = .ok (.getfield 10, 3) := by decide +kernel
theorem dX3_fly_62 : decode cX3_fly 62 = .ok (.getfield 24, 3) := by decide +kernel
theorem dX3_fly_65 : decode cX3_fly 65 = .ok (.invokevirtual 32, 3) := by decide +kernel
theorem dX3_fly_68 : decode cX3_fly 68 = .ok (.ifCond .le 35, 3) := by decide +kernel
theorem dX3_fly_71 : decode cX3_fly 71 = .ok (.bipush 75, 2) := by decide +kernel
theorem dX3_fly_73 : decode cX3_fly 73 = .ok (.iload 5, 2) := by decide +kernel
theorem dX3_fly_75 : decode cX3_fly 75 = .ok (.imul, 1) := by decide +kernel
theorem dX3_fly_76 : decode cX3_fly 76 = .ok (.bipush 74, 2) := by decide +kernel
theorem dX3_fly_78 : decode cX3_fly 78 = .ok (.iadd, 1) := by decide +kernel
theorem dX3_fly_79 : decode cX3_fly 79 = .ok (.ldc 36, 2) := by decide +kernel
theorem dX3_fly_81 : decode cX3_fly 81 = .ok (.irem, 1) := by decide +kernel
theorem dX3_fly_82 : decode cX3_fly 82 = .ok (.istore 5, 2) := by decide +kernel
theorem dX3_fly_84 : decode cX3_fly 84 = .ok (.iload 5, 2) := by decide +kernel
theorem dX3_fly_86 : decode cX3_fly 86 = .ok (.bipush 100, 2) := by decide +kernel
theorem dX3_fly_88 : decode cX3_fly 88 = .ok (.irem, 1) := by decide +kernel
theorem dX3_fly_89 : decode cX3_fly 89 = .ok (.aload_n 1, 1) := by decide +kernel
theorem dX3_fly_90 : decode cX3_fly 90 = .ok (.getfield 37, 3) := by decide +kernel
theorem dX3_fly_93 : decode cX3_fly 93 = .ok (.if_icmp .ge 10, 3) := by decide +kernel
theorem dX3_fly_96 : decode cX3_fly 96 = .ok (.aload_n 0, 1) := by decide +kernel
theorem dX3_fly_97 : decode cX3_fly 97 = .ok (.aload_n 1, 1) := by decide +kernel
theorem dX3_fly_98 : decode cX3_fly 98 = .ok (.iload 7, 2) := by decide +kernel
theorem dX3_fly_100 : decode cX3_fly 100 = .ok (.invokevirtual 40, 3) := by decide +kernel
theorem dX3_fly_103 : decode cX3_fly 103 = .ok (.iinc 7 1, 3) := by decide +kernel
theorem dX3_fly_106 : decode cX3_fly 106 = .ok (.goto (-64), 3) := by decide +kernel
theorem dX3_fly_109 : decode cX3_fly 109 = .ok (.iinc 6 1, 3) := by decide +kernel
theorem dX3_fly_112 : decode cX3_fly 112 = .ok (.goto (-93), 3) := by decide +kernel
theorem dX3_fly_115 : decode cX3_fly 115 = .ok (.return_, 1) := by decide +kernel
theorem dX3_eatFirst_0 : decode cX3_eatFirst 0 = .ok (.iconst 0, 1) := by decide +kernel
theorem dX3_eatFirst_1 : decode cX3_eatFirst 1 = .ok (.istore_n 3, 1) := by decide +kernel
theorem dX3_eatFirst_2 : decode cX3_eatFirst 2 = .ok (.iload_n 3, 1) := by decide +kernel
theorem dX3_eatFirst_3 : decode cX3_eatFirst 3 = .ok (.aload_n 1, 1) := by decide +kernel
theorem dX3_eatFirst_4 : decode cX3_eatFirst 4 = .ok (.getfield 44, 3) := by decide +kernel
theorem dX3_eatFirst_7 : decode cX3_eatFirst 7 = .ok (.getfield 48, 3) := by decide +kernel
theorem dX3_eatFirst_10 : decode cX3_eatFirst 10 = .ok (.if_icmp .ge 85, 3) := by decide +kernel
theorem dX3_eatFirst_13 : decode cX3_eatFirst 13 = .ok (.aload_n 1, 1) := by decide +kernel
theorem dX3_eatFirst_14 : decode cX3_eatFirst 14 = .ok (.getfield 44, 3) := by decide +kernel
theorem dX3_eatFirst_17 : decode cX3_eatFirst 17 = .ok (.getfield 53, 3) := by decide +kernel
theorem dX3_eatFirst_20 : decode cX3_eatFirst 20 = .ok (.iload_n 3, 1) := by decide +kernel
theorem dX3_eatFirst_21 : decode cX3_eatFirst 21 = .ok (.iaload, 1) := by decide +kernel
theorem dX3_eatFirst_22 : decode cX3_eatFirst 22 = .ok (.iload_n 2, 1) := by decide +kernel
theorem dX3_eatFirst_23 : decode cX3_eatFirst 23 = .ok (.if_icmp .ne 66, 3) := by decide +kernel
theorem dX3_eatFirst_26 : decode cX3_eatFirst 26 = .ok (.aload_n 1, 1) := by decide +kernel
theorem dX3_eatFirst_27 : decode cX3_eatFirst 27 = .ok (.aload_n 0, 1) := by decide +kernel
theorem dX3_eatFirst_28 : decode cX3_eatFirst 28 = .ok (.getfield 10, 3) := by decide +kernel
theorem dX3_eatFirst_31 : decode cX3_eatFirst 31 = .ok (.iload_n 3, 1) := by decide +kernel
theorem dX3_eatFirst_32 : decode cX3_eatFirst 32 = .ok (.aload_n 0, 1) := by decide +kernel
theorem dX3_eatFirst_33 : decode cX3_eatFirst 33 = .ok (.getfield 10, 3) := by decide +kernel
theorem dX3_eatFirst_36 : decode cX3_eatFirst 36 = .ok (.getfield 24, 3) := by decide +kernel
theorem dX3_eatFirst_39 : decode cX3_eatFirst 39 = .ok (.invokevirtual 57, 3) := by decide +kernel
theorem dX3_eatFirst_42 : decode cX3_eatFirst 42 = .ok (.ifCond .eq 47, 3) := by decide +kernel
theorem dX3_eatFirst_45 : decode cX3_eatFirst 45 = .ok (.aload_n 1, 1) := by decide +kernel
theorem dX3_eatFirst_46 : decode cX3_eatFirst 46 = .ok (.getfield 61, 3) := by decide +kernel
theorem dX3_eatFirst_49 : decode cX3_eatFirst 49 = .ok (.aload_n 0, 1) := by decide +kernel
theorem dX3_eatFirst_50 : decode cX3_eatFirst 50 = .ok (.getfield 10, 3) := by decide +kernel
theorem dX3_eatFirst_53 : decode cX3_eatFirst 53 = .ok (.getfield 64, 3) := by decide +kernel
theorem dX3_eatFirst_56 : decode cX3_eatFirst 56 = .ok (.iload_n 3, 1) := by decide +kernel
theorem dX3_eatFirst_57 : decode cX3_eatFirst 57 = .ok (.iaload, 1) := by decide +kernel
theorem dX3_eatFirst_58 : decode cX3_eatFirst 58 = .ok (.invokestatic 67, 3) := by decide +kernel
theorem dX3_eatFirst_61 : decode cX3_eatFirst 61 = .ok (.istore 4, 2) := by decide +kernel
theorem dX3_eatFirst_63 : decode cX3_eatFirst 63 = .ok (.aload_n 0, 1) := by decide +kernel
theorem dX3_eatFirst_64 : decode cX3_eatFirst 64 = .ok (.getfield 10, 3) := by decide +kernel
theorem dX3_eatFirst_67 : decode cX3_eatFirst 67 = .ok (.getfield 64, 3) := by decide +kernel
theorem dX3_eatFirst_70 : decode cX3_eatFirst 70 = .ok (.iload_n 3, 1) := by decide +kernel
theorem dX3_eatFirst_71 : decode cX3_eatFirst 71 = .ok (.dup2, 1) := by decide +kernel
theorem dX3_eatFirst_72 : decode cX3_eatFirst 72 = .ok (.iaload, 1) := by decide +kernel
theorem dX3_eatFirst_73 : decode cX3_eatFirst 73 = .ok (.iload 4, 2) := by decide +kernel
theorem dX3_eatFirst_75 : decode cX3_eatFirst 75 = .ok (.isub, 1) := by decide +kernel
theorem dX3_eatFirst_76 : decode cX3_eatFirst 76 = .ok (.iastore, 1) := by decide +kernel
theorem dX3_eatFirst_77 : decode cX3_eatFirst 77 = .ok (.aload_n 0, 1) := by decide +kernel
theorem dX3_eatFirst_78 : decode cX3_eatFirst 78 = .ok (.dup, 1) := by decide +kernel
theorem dX3_eatFirst_79 : decode cX3_eatFirst 79 = .ok (.getfield 20, 3) := by decide +kernel
theorem dX3_eatFirst_82 : decode cX3_eatFirst 82 = .ok (.iload 4, 2) := by decide +kernel
theorem dX3_eatFirst_84 : decode cX3_eatFirst 84 = .ok (.iadd, 1) := by decide +kernel
theorem dX3_eatFirst_85 : decode cX3_eatFirst 85 = .ok (.putfield 20, 3) := by decide +kernel
theorem dX3_eatFirst_88 : decode cX3_eatFirst 88 = .ok (.return_, 1) := by decide +kernel
theorem dX3_eatFirst_89 : decode cX3_eatFirst 89 = .ok (.iinc 3 1, 3) := by decide +kernel
theorem dX3_eatFirst_92 : decode cX3_eatFirst 92 = .ok (.goto (-90), 3) := by decide +kernel
theorem dX3_eatFirst_95 : decode cX3_eatFirst 95 = .ok (.return_, 1) := by decide +kernel
theorem dX4_init_0 : decode cX4_init 0 = .ok (.aload_n 0, 1) := by decide +kernel
theorem dX4_init_1 : decode cX4_init 1 = .ok (.invokespecial 3, 3) := by decide +kernel
theorem dX4_init_4 : decode cX4_init 4 = .ok (.aload_n 0, 1) := by decide +kernel
theorem dX4_init_5 : decode cX4_init 5 = .ok (.bipush 16, 2) := by decide +kernel
theorem dX4_init_7 : decode cX4_init 7 = .ok (.newarray .long, 2) := by decide +kernel
theorem dX4_init_9 : decode cX4_init 9 = .ok (.putfield 9, 3) := by decide +kernel
theorem dX4_init_12 : decode cX4_init 12 = .ok (.aload_n 0, 1) := by decide +kernel
theorem dX4_init_13 : decode cX4_init 13 = .ok (.bipush 16, 2) := by decide +kernel
theorem dX4_init_15 : decode cX4_init 15 = .ok (.newarray .int, 2) := by decide +kernel
theorem dX4_init_17 : decode cX4_init 17 = .ok (.putfield 15, 3) := by decide +kernel
theorem dX4_init_20 : decode cX4_init 20 = .ok (.return_, 1) := by decide +kernel
theorem dX4_weigh_0 : decode cX4_weigh 0 = .ok (.aload_n 0, 1) := by decide +kernel
theorem dX4_weigh_1 : decode cX4_weigh 1 = .ok (.iconst 1, 1) := by decide +kernel
theorem dX4_weigh_2 : decode cX4_weigh 2 = .ok (.aload_n 1, 1) := by decide +kernel
theorem dX4_weigh_3 : decode cX4_weigh 3 = .ok (.getfield 19, 3) := by decide +kernel
theorem dX4_weigh_6 : decode cX4_weigh 6 = .ok (.getfield 25, 3) := by decide +kernel
theorem dX4_weigh_9 : decode cX4_weigh 9 = .ok (.ishl, 1) := by decide +kernel
theorem dX4_weigh_10 : decode cX4_weigh 10 = .ok (.putfield 31, 3) := by decide +kernel
theorem dX4_weigh_13 : decode cX4_weigh 13 = .ok (.aload_n 0, 1) := by decide +kernel
theorem dX4_weigh_14 : decode cX4_weigh 14 = .ok (.iconst 0, 1) := by decide +kernel
theorem dX4_weigh_15 : decode cX4_weigh 15 = .ok (.putfield 34, 3) := by decide +kernel
theorem dX4_weigh_18 : decode cX4_weigh 18 = .ok (.aload_n 0, 1) := by decide +kernel
theorem dX4_weigh_19 : decode cX4_weigh 19 = .ok (.lconst 0, 1) := by decide +kernel
theorem dX4_weigh_20 : decode cX4_weigh 20 = .ok (.putfield 37, 3) := by decide +kernel
theorem dX4_weigh_23 : decode cX4_weigh 23 = .ok (.iconst 0, 1) := by decide +kernel
theorem dX4_weigh_24 : decode cX4_weigh 24 = .ok (.istore_n 3, 1) := by decide +kernel
theorem dX4_weigh_25 : decode cX4_weigh 25 = .ok (.iload_n 3, 1) := by decide +kernel
theorem dX4_weigh_26 : decode cX4_weigh 26 = .ok (.aload_n 0, 1) := by decide +kernel
theorem dX4_weigh_27 : decode cX4_weigh 27 = .ok (.getfield 31, 3) := by decide +kernel
theorem dX4_weigh_30 : decode cX4_weigh 30 = .ok (.if_icmp .ge 95, 3) := by decide +kernel
theorem dX4_weigh_33 : decode cX4_weigh 33 = .ok (.lconst 1, 1) := by decide +kernel
theorem dX4_weigh_34 : decode cX4_weigh 34 = .ok (.lstore 4, 2) := by decide +kernel
theorem dX4_weigh_36 : decode cX4_weigh 36 = .ok (.iconst 0, 1) := by decide +kernel
theorem dX4_weigh_37 : decode cX4_weigh 37 = .ok (.istore 6, 2) := by decide +kernel
theorem dX4_weigh_39 : decode cX4_weigh 39 = .ok (.iload 6, 2) := by decide +kernel
theorem dX4_weigh_41 : decode cX4_weigh 41 = .ok (.aload_n 1, 1) := by decide +kernel
theorem dX4_weigh_42 : decode cX4_weigh 42 = .ok (.getfield 41, 3) := by decide +kernel
theorem dX4_weigh_45 : decode cX4_weigh 45 = .ok (.if_icmp .ge 34, 3) := by decide +kernel
theorem dX4_weigh_48 : decode cX4_weigh 48 = .ok (.lload 4, 2) := by decide +kernel
theorem dX4_weigh_50 : decode cX4_weigh 50 = .ok (.aload_n 1, 1) := by decide +kernel
theorem dX4_weigh_51 : decode cX4_weigh 51 = .ok (.iload 6, 2) := by decide +kernel
theorem dX4_weigh_53 : decode cX4_weigh 53 = .ok (.aload_n 1, 1) := by decide +kernel
theorem dX4_weigh_54 : decode cX4_weigh 54 = .ok (.aload_n 2, 1) := by decide +kernel
theorem dX4_weigh_55 : decode cX4_weigh 55 = .ok (.aload_n 1, 1) := by decide +kernel
theorem dX4_weigh_56 : decode cX4_weigh 56 = .ok (.getfield 44, 3) := by decide +kernel
theorem dX4_weigh_59 : decode cX4_weigh 59 = .ok (.iload 6, 2) := by decide +kernel
theorem dX4_weigh_61 : decode cX4_weigh 61 = .ok (.iaload, 1) := by decide +kernel
theorem dX4_weigh_62 : decode cX4_weigh 62 = .ok (.iload_n 3, 1) := by decide +kernel
theorem dX4_weigh_63 : decode cX4_weigh 63 = .ok (.invokestatic 47, 3) := by decide +kernel
theorem dX4_weigh_66 : decode cX4_weigh 66 = .ok (.invokevirtual 51, 3) := by decide +kernel
theorem dX4_weigh_69 : decode cX4_weigh 69 = .ok (.i2l, 1) := by decide +kernel
theorem dX4_weigh_70 : decode cX4_weigh 70 = .ok (.lmul, 1) := by decide +kernel
theorem dX4_weigh_71 : decode cX4_weigh 71 = .ok (.lstore 4, 2) := by decide +kernel
theorem dX4_weigh_73 : decode cX4_weigh 73 = .ok (.iinc 6 1, 3) := by decide +kernel
theorem dX4_weigh_76 : decode cX4_weigh 76 = .ok (.goto (-37), 3) := by decide +kernel
theorem dX4_weigh_79 : decode cX4_weigh 79 = .ok (.aload_n 0, 1) := by decide +kernel
theorem dX4_weigh_80 : decode cX4_weigh 80 = .ok (.getfield 9, 3) := by decide +kernel
theorem dX4_weigh_83 : decode cX4_weigh 83 = .ok (.iload_n 3, 1) := by decide +kernel
theorem dX4_weigh_84 : decode cX4_weigh 84 = .ok (.lload 4, 2) := by decide +kernel
theorem dX4_weigh_86 : decode cX4_weigh 86 = .ok (.lastore, 1) := by decide +kernel
theorem dX4_weigh_87 : decode cX4_weigh 87 = .ok (.aload_n 0, 1) := by decide +kernel
theorem dX4_weigh_88 : decode cX4_weigh 88 = .ok (.dup, 1) := by decide +kernel
theorem dX4_weigh_89 : decode cX4_weigh 89 = .ok (.getfield 37, 3) := by decide +kernel
theorem dX4_weigh_92 : decode cX4_weigh 92 = .ok (.lload 4, 2) := by decide +kernel
theorem dX4_weigh_94 : decode cX4_weigh 94 = .ok (.ladd, 1) := by decide +kernel
theorem dX4_weigh_95 : decode cX4_weigh 95 = .ok (.putfield 37, 3) := by decide +kernel
theorem dX4_weigh_98 : decode cX4_weigh 98 = .ok (.aload_n 0, 1) := by decide +kernel
theorem dX4_weigh_99 : decode cX4_weigh 99 = .ok (.dup, 1) := by decide +kernel
theorem dX4_weigh_100 : decode cX4_weigh 100 = .ok (.getfield 34, 3) := by decide +kernel
theorem dX4_weigh_103 : decode cX4_weigh 103 = .ok (.lload 4, 2) := by decide +kernel
theorem dX4_weigh_105 : decode cX4_weigh 105 = .ok (.lconst 0, 1) := by decide +kernel
theorem dX4_weigh_106 : decode cX4_weigh 106 = .ok (.lcmp, 1) := by decide +kernel
theorem dX4_weigh_107 : decode cX4_weigh 107 = .ok (.ifCond .le 7, 3) := by decide +kernel
theorem dX4_weigh_110 : decode cX4_weigh 110 = .ok (.iconst 1, 1) := by decide +kernel
theorem dX4_weigh_111 : decode cX4_weigh 111 = .ok (.goto 4, 3) := by decide +kernel
theorem dX4_weigh_114 : decode cX4_weigh 114 = .ok (.iconst 0, 1) := by decide +kernel
theorem dX4_weigh_115 : decode cX4_weigh 115 = .ok (.iadd, 1) := by decide +kernel
theorem dX4_weigh_116 : decode cX4_weigh 116 = .ok (.putfield 34, 3) := by decide +kernel
theorem dX4_weigh_119 : decode cX4_weigh 119 = .ok (.iinc 3 1, 3) := by decide +kernel
theorem dX4_weigh_122 : decode cX4_weigh 122 = .ok (.goto (-97), 3) := by decide +kernel
theorem dX4_weigh_125 : decode cX4_weigh 125 = .ok (.return_, 1) := by decide +kernel
theorem dX4_headWith_0 : decode cX4_headWith 0 = .ok (.aload_n 0, 1) := by decide +kernel
theorem dX4_headWith_1 : decode cX4_headWith 1 = .ok (.aload_n 1, 1) := by decide +kernel
theorem dX4_headWith_2 : decode cX4_headWith 2 = .ok (.iload_n 2, 1) := by decide +kernel
theorem dX4_headWith_3 : decode cX4_headWith 3 = .ok (.aload_n 1, 1) := by decide +kernel
theorem dX4_headWith_4 : decode cX4_headWith 4 = .ok (.getfield 55, 3) := by decide +kernel
theorem dX4_headWith_7 : decode cX4_headWith 7 = .ok (.invokevirtual 60, 3) := by decide +kernel
theorem dX4_headWith_10 : decode cX4_headWith 10 = .ok (.istore 4, 2) := by decide +kernel
theorem dX4_headWith_12 : decode cX4_headWith 12 = .ok (.iconst 0, 1) := by decide +kernel
theorem dX4_headWith_13 : decode cX4_headWith 13 = .ok (.istore 5, 2) := by decide +kernel
theorem dX4_headWith_15 : decode cX4_headWith 15 = .ok (.iload 5, 2) := by decide +kernel
theorem dX4_headWith_17 : decode cX4_headWith 17 = .ok (.aload_n 0, 1) := by decide +kernel
theorem dX4_headWith_18 : decode cX4_headWith 18 = .ok (.getfield 19, 3) := by decide +kernel
theorem dX4_headWith_21 : decode cX4_headWith 21 = .ok (.getfield 25, 3) := by decide +kernel
theorem dX4_headWith_24 : decode cX4_headWith 24 = .ok (.if_icmp .ge 68, 3) := by decide +kernel
theorem dX4_headWith_27 : decode cX4_headWith 27 = .ok (.iload_n 3, 1) := by decide +kernel
theorem dX4_headWith_28 : decode cX4_headWith 28 = .ok (.iload 5, 2) := by decide +kernel
theorem dX4_headWith_30 : decode cX4_headWith 30 = .ok (.ishr, 1) := by decide +kernel
theorem dX4_headWith_31 : decode cX4_headWith 31 = .ok (.iconst 1, 1) := by decide +kernel
theorem dX4_headWith_32 : decode cX4_headWith 32 = .ok (.iand, 1) := by decide +kernel
theorem dX4_headWith_33 : decode cX4_headWith 33 = .ok (.ifCond .eq 53, 3) := by decide +kernel
theorem dX4_headWith_36 : decode cX4_headWith 36 = .ok (.aload_n 0, 1) := by decide +kernel
theorem dX4_headWith_37 : decode cX4_headWith 37 = .ok (.getfield 19, 3) := by decide +kernel
theorem dX4_headWith_40 : decode cX4_headWith 40 = .ok (.getfield 64, 3) := by decide +kernel
theorem dX4_headWith_43 : decode cX4_headWith 43 = .ok (.iload 5, 2) := by decide +kernel
theorem dX4_headWith_45 : decode cX4_headWith 45 = .ok (.iaload, 1) := by decide +kernel
theorem dX4_headWith_46 : decode cX4_headWith 46 = .ok (.iload_n 2, 1) := by decide +kernel
theorem dX4_headWith_47 : decode cX4_headWith 47 = .ok (.if_icmp .ne 39, 3) := by decide +kernel
theorem dX4_headWith_50 : decode cX4_headWith 50 = .ok (.aload_n 0, 1) := by decide +kernel
theorem dX4_headWith_51 : decode cX4_headWith 51 = .ok (.getfield 19, 3) := by decide +kernel
theorem dX4_headWith_54 : decode cX4_headWith 54 = .ok (.getfield 67, 3) := by decide +kernel
theorem dX4_headWith_57 : decode cX4_headWith 57 = .ok (.iload 5, 2) := by decide +kernel
theorem dX4_headWith_59 : decode cX4_headWith 59 = .ok (.iaload, 1) := by decide +kernel
theorem dX4_headWith_60 : decode cX4_headWith 60 = .ok (.aload_n 1, 1) := by decide +kernel
theorem dX4_headWith_61 : decode cX4_headWith 61 = .ok (.getfield 55, 3) := by decide +kernel
theorem dX4_headWith_64 : decode cX4_headWith 64 = .ok (.if_icmp .gt 22, 3) := by decide +kernel
theorem dX4_headWith_67 : decode cX4_headWith 67 = .ok (.iload 4, 2) := by decide +kernel
theorem dX4_headWith_69 : decode cX4_headWith 69 = .ok (.aload_n 0, 1) := by decide +kernel
theorem dX4_headWith_70 : decode cX4_headWith 70 = .ok (.aload_n 0, 1) := by decide +kernel
theorem dX4_headWith_71 : decode cX4_headWith 71 = .ok (.getfield 19, 3) := by decide +kernel
theorem dX4_headWith_74 : decode cX4_headWith 74 = .ok (.getfield 69, 3) := by decide +kernel
theorem dX4_headWith_77 : decode cX4_headWith 77 = .ok (.iload 5, 2) := by decide +kernel
theorem dX4_headWith_79 : decode cX4_headWith 79 = .ok (.iaload, 1) := by decide +kernel
theorem dX4_headWith_80 : decode cX4_headWith 80 = .ok (.invokevirtual 72, 3) := by decide +kernel
theorem dX4_headWith_83 : decode cX4_headWith 83 = .ok (.iadd, 1) := by decide +kernel
theorem dX4_headWith_84 : decode cX4_headWith 84 = .ok (.istore 4, 2) := by decide +kernel
theorem dX4_headWith_86 : decode cX4_headWith 86 = .ok (.iinc 5 1, 3) := by decide +kernel
theorem dX4_headWith_89 : decode cX4_headWith 89 = .ok (.goto (-74), 3) := by decide +kernel
theorem dX4_headWith_92 : decode cX4_headWith 92 = .ok (.aload_n 0, 1) := by decide +kernel
theorem dX4_headWith_93 : decode cX4_headWith 93 = .ok (.iload_n 2, 1) := by decide +kernel
theorem dX4_headWith_94 : decode cX4_headWith 94 = .ok (.iload 4, 2) := by decide +kernel
theorem dX4_headWith_96 : decode cX4_headWith 96 = .ok (.invokevirtual 76, 3) := by decide +kernel
theorem dX4_headWith_99 : decode cX4_headWith 99 = .ok (.ireturn, 1) := by decide +kernel
theorem dX4_fitNumber_0 : decode cX4_fitNumber 0 = .ok (.iconst 0, 1) := by decide +kernel
theorem dX4_fitNumber_1 : decode cX4_fitNumber 1 = .ok (.istore_n 2, 1) := by decide +kernel
theorem dX4_fitNumber_2 : decode cX4_fitNumber 2 = .ok (.iconst 0, 1) := by decide +kernel
theorem dX4_fitNumber_3 : decode cX4_fitNumber 3 = .ok (.istore_n 3, 1) := by decide +kernel
theorem dX4_fitNumber_4 : decode cX4_fitNumber 4 = .ok (.iload_n 3, 1) := by decide +kernel
theorem dX4_fitNumber_5 : decode cX4_fitNumber 5 = .ok (.aload_n 0, 1) := by decide +kernel
theorem dX4_fitNumber_6 : decode cX4_fitNumber 6 = .ok (.getfield 31, 3) := by decide +kernel
theorem dX4_fitNumber_9 : decode cX4_fitNumber 9 = .ok (.if_icmp .ge 30, 3) := by decide +kernel
theorem dX4_fitNumber_12 : decode cX4_fitNumber 12 = .ok (.aload_n 0, 1) := by decide +kernel
theorem dX4_fitNumber_13 : decode cX4_fitNumber 13 = .ok (.getfield 9, 3) := by decide +kernel
theorem dX4_fitNumber_16 : decode cX4_fitNumber 16 = .ok (.iload_n 3, 1) := by decide +kernel
theorem dX4_fitNumber_17 : decode cX4_fitNumber 17 = .ok (.laload, 1) := by decide +kernel
theorem dX4_fitNumber_18 : decode cX4_fitNumber 18 = .ok (.lconst 0, 1) := by decide +kernel
theorem dX4_fitNumber_19 : decode cX4_fitNumber 19 = .ok (.lcmp, 1) := by decide +kernel
theorem dX4_fitNumber_20 : decode cX4_fitNumber 20 = .ok (.ifCond .le 13, 3) := by decide +kernel
theorem dX4_fitNumber_23 : decode cX4_fitNumber 23 = .ok (.iload_n 2, 1) := by decide +kernel
theorem dX4_fitNumber_24 : decode cX4_fitNumber 24 = .ok (.iload_n 1, 1) := by decide +kernel
theorem dX4_fitNumber_25 : decode cX4_fitNumber 25 = .ok (.if_icmp .ne 5, 3) := by decide +kernel
theorem dX4_fitNumber_28 : decode cX4_fitNumber 28 = .ok (.iload_n 3, 1) := by decide +kernel
theorem dX4_fitNumber_29 : decode cX4_fitNumber 29 = .ok (.ireturn, 1) := by decide +kernel
theorem dX4_fitNumber_30 : decode cX4_fitNumber 30 = .ok (.iinc 2 1, 3) := by decide +kernel
theorem dX4_fitNumber_33 : decode cX4_fitNumber 33 = .ok (.iinc 3 1, 3) := by decide +kernel
theorem dX4_fitNumber_36 : decode cX4_fitNumber 36 = .ok (.goto (-32), 3) := by decide +kernel
theorem dX4_fitNumber_39 : decode cX4_fitNumber 39 = .ok (.iconst (-1), 1) := by decide +kernel
theorem dX4_fitNumber_40 : decode cX4_fitNumber 40 = .ok (.ireturn, 1) := by decide +kernel
theorem dX4_weightOfRumour_0 : decode cX4_weightOfRumour 0 = .ok (.lconst 0, 1) := by decide +kernel
theorem dX4_weightOfRumour_1 : decode cX4_weightOfRumour 1 = .ok (.lstore_n 2, 1) := by decide +kernel
theorem dX4_weightOfRumour_2 : decode cX4_weightOfRumour 2 = .ok (.iconst 0, 1) := by decide +kernel
theorem dX4_weightOfRumour_3 : decode cX4_weightOfRumour 3 = .ok (.istore 4, 2) := by decide +kernel
theorem dX4_weightOfRumour_5 : decode cX4_weightOfRumour 5 = .ok (.iload 4, 2) := by decide +kernel
theorem dX4_weightOfRumour_7 : decode cX4_weightOfRumour 7 = .ok (.aload_n 0, 1) := by decide +kernel
theorem dX4_weightOfRumour_8 : decode cX4_weightOfRumour 8 = .ok (.getfield 31, 3) := by decide +kernel
theorem dX4_weightOfRumour_11 : decode cX4_weightOfRumour 11 = .ok (.if_icmp .ge 28, 3) := by decide +kernel
theorem dX4_weightOfRumour_14 : decode cX4_weightOfRumour 14 = .ok (.iload 4, 2) := by decide +kernel
theorem dX4_weightOfRumour_16 : decode cX4_weightOfRumour 16 = .ok (.iload_n 1, 1) := by decide +kernel
theorem dX4_weightOfRumour_17 : decode cX4_weightOfRumour 17 = .ok (.ishr, 1) := by decide +kernel
theorem dX4_weightOfRumour_18 : decode cX4_weightOfRumour 18 = .ok (.iconst 1, 1) := by decide +kernel
theorem dX4_weightOfRumour_19 : decode cX4_weightOfRumour 19 = .ok (.iand, 1) := by decide +kernel
theorem dX4_weightOfRumour_20 : decode cX4_weightOfRumour 20 = .ok (.ifCond .eq 13, 3) := by decide +kernel
theorem dX4_weightOfRumour_23 : decode cX4_weightOfRumour 23 = .ok (.lload_n 2, 1) := by decide +kernel
theorem dX4_weightOfRumour_24 : decode cX4_weightOfRumour 24 = .ok (.aload_n 0, 1) := by decide +kernel
theorem dX4_weightOfRumour_25 : decode cX4_weightOfRumour 25 = .ok (.getfield 9, 3) := by decide +kernel
theorem dX4_weightOfRumour_28 : decode cX4_weightOfRumour 28 = .ok (.iload 4, 2) := by decide +kernel
theorem dX4_weightOfRumour_30 : decode cX4_weightOfRumour 30 = .ok (.laload, 1) := by decide +kernel
theorem dX4_weightOfRumour_31 : decode cX4_weightOfRumour 31 = .ok (.ladd, 1) := by decide +kernel
theorem dX4_weightOfRumour_32 : decode cX4_weightOfRumour 32 = .ok (.lstore_n 2, 1) := by decide +kernel
theorem dX4_weightOfRumour_33 : decode cX4_weightOfRumour 33 = .ok (.iinc 4 1, 3) := by decide +kernel
theorem dX4_weightOfRumour_36 : decode cX4_weightOfRumour 36 = .ok (.goto (-31), 3) := by decide +kernel
theorem dX4_weightOfRumour_39 : decode cX4_weightOfRumour 39 = .ok (.lload_n 2, 1) := by decide +kernel
theorem dX4_weightOfRumour_40 : decode cX4_weightOfRumour 40 = .ok (.lreturn, 1) := by decide +kernel
theorem dX4_weightOfHead_0 : decode cX4_weightOfHead 0 = .ok (.lconst 0, 1) := by decide +kernel
theorem dX4_weightOfHead_1 : decode cX4_weightOfHead 1 = .ok (.lstore 5, 2) := by decide +kernel
theorem dX4_weightOfHead_3 : decode cX4_weightOfHead 3 = .ok (.iconst 0, 1) := by decide +kernel
theorem dX4_weightOfHead_4 : decode cX4_weightOfHead 4 = .ok (.istore 7, 2) := by decide +kernel
theorem dX4_weightOfHead_6 : decode cX4_weightOfHead 6 = .ok (.iload 7, 2) := by decide +kernel
theorem dX4_weightOfHead_8 : decode cX4_weightOfHead 8 = .ok (.aload_n 0, 1) := by decide +kernel
theorem dX4_weightOfHead_9 : decode cX4_weightOfHead 9 = .ok (.getfield 31, 3) := by decide +kernel
theorem dX4_weightOfHead_12 : decode cX4_weightOfHead 12 = .ok (.if_icmp .ge 34, 3) := by decide +kernel
theorem dX4_weightOfHead_15 : decode cX4_weightOfHead 15 = .ok (.aload_n 1, 1) := by decide +kernel
theorem dX4_weightOfHead_16 : decode cX4_weightOfHead 16 = .ok (.aload_n 2, 1) := by decide +kernel
theorem dX4_weightOfHead_17 : decode cX4_weightOfHead 17 = .ok (.iload_n 3, 1) := by decide +kernel
theorem dX4_weightOfHead_18 : decode cX4_weightOfHead 18 = .ok (.iload 7, 2) := by decide +kernel
theorem dX4_weightOfHead_20 : decode cX4_weightOfHead 20 = .ok (.invokestatic 47, 3) := by decide +kernel
theorem dX4_weightOfHead_23 : decode cX4_weightOfHead 23 = .ok (.iload 4, 2) := by decide +kernel
theorem dX4_weightOfHead_25 : decode cX4_weightOfHead 25 = .ok (.if_icmp .ne 15, 3) := by decide +kernel
theorem dX4_weightOfHead_28 : decode cX4_weightOfHead 28 = .ok (.lload 5, 2) := by decide +kernel
theorem dX4_weightOfHead_30 : decode cX4_weightOfHead 30 = .ok (.aload_n 0, 1) := by decide +kernel
theorem dX4_weightOfHead_31 : decode cX4_weightOfHead 31 = .ok (.getfield 9, 3) := by decide +kernel
theorem dX4_weightOfHead_34 : decode cX4_weightOfHead 34 = .ok (.iload 7, 2) := by decide +kernel
theorem dX4_weightOfHead_36 : decode cX4_weightOfHead 36 = .ok (.laload, 1) := by decide +kernel
theorem dX4_weightOfHead_37 : decode cX4_weightOfHead 37 = .ok (.ladd, 1) := by decide +kernel
theorem dX4_weightOfHead_38 : decode cX4_weightOfHead 38 = .ok (.lstore 5, 2) := by decide +kernel
theorem dX4_weightOfHead_40 : decode cX4_weightOfHead 40 = .ok (.iinc 7 1, 3) := by decide +kernel
theorem dX4_weightOfHead_43 : decode cX4_weightOfHead 43 = .ok (.goto (-37), 3) := by decide +kernel
theorem dX4_weightOfHead_46 : decode cX4_weightOfHead 46 = .ok (.lload 5, 2) := by decide +kernel
theorem dX4_weightOfHead_48 : decode cX4_weightOfHead 48 = .ok (.lreturn, 1) := by decide +kernel
theorem dX4_heaviest_0 : decode cX4_heaviest 0 = .ok (.bipush (-2), 2) := by decide +kernel
theorem dX4_heaviest_2 : decode cX4_heaviest 2 = .ok (.istore_n 1, 1) := by decide +kernel
theorem dX4_heaviest_3 : decode cX4_heaviest 3 = .ok (.lconst 0, 1) := by decide +kernel
theorem dX4_heaviest_4 : decode cX4_heaviest 4 = .ok (.lstore_n 2, 1) := by decide +kernel
theorem dX4_heaviest_5 : decode cX4_heaviest 5 = .ok (.iconst 0, 1) := by decide +kernel
theorem dX4_heaviest_6 : decode cX4_heaviest 6 = .ok (.istore 4, 2) := by decide +kernel
theorem dX4_heaviest_8 : decode cX4_heaviest 8 = .ok (.iload 4, 2) := by decide +kernel
theorem dX4_heaviest_10 : decode cX4_heaviest 10 = .ok (.aload_n 0, 1) := by decide +kernel
theorem dX4_heaviest_11 : decode cX4_heaviest 11 = .ok (.getfield 31, 3) := by decide +kernel
theorem dX4_heaviest_14 : decode cX4_heaviest 14 = .ok (.if_icmp .ge 32, 3) := by decide +kernel
theorem dX4_heaviest_17 : decode cX4_heaviest 17 = .ok (.aload_n 0, 1) := by decide +kernel
theorem dX4_heaviest_18 : decode cX4_heaviest 18 = .ok (.getfield 9, 3) := by decide +kernel
theorem dX4_heaviest_21 : decode cX4_heaviest 21 = .ok (.iload 4, 2) := by decide +kernel
theorem dX4_heaviest_23 : decode cX4_heaviest 23 = .ok (.laload, 1) := by decide +kernel
theorem dX4_heaviest_24 : decode cX4_heaviest 24 = .ok (.lload_n 2, 1) := by decide +kernel
theorem dX4_heaviest_25 : decode cX4_heaviest 25 = .ok (.lcmp, 1) := by decide +kernel
theorem dX4_heaviest_26 : decode cX4_heaviest 26 = .ok (.ifCond .le 14, 3) := by decide +kernel
theorem dX4_heaviest_29 : decode cX4_heaviest 29 = .ok (.aload_n 0, 1) := by decide +kernel
theorem dX4_heaviest_30 : decode cX4_heaviest 30 = .ok (.getfield 9, 3) := by decide +kernel
theorem dX4_heaviest_33 : decode cX4_heaviest 33 = .ok (.iload 4, 2) := by decide +kernel
theorem dX4_heaviest_35 : decode cX4_heaviest 35 = .ok (.laload, 1) := by decide +kernel
theorem dX4_heaviest_36 : decode cX4_heaviest 36 = .ok (.lstore_n 2, 1) := by decide +kernel
theorem dX4_heaviest_37 : decode cX4_heaviest 37 = .ok (.iload 4, 2) := by decide +kernel
theorem dX4_heaviest_39 : decode cX4_heaviest 39 = .ok (.istore_n 1, 1) := by decide +kernel
theorem dX4_heaviest_40 : decode cX4_heaviest 40 = .ok (.iinc 4 1, 3) := by decide +kernel
theorem dX4_heaviest_43 : decode cX4_heaviest 43 = .ok (.goto (-35), 3) := by decide +kernel
theorem dX4_heaviest_46 : decode cX4_heaviest 46 = .ok (.iload_n 1, 1) := by decide +kernel
theorem dX4_heaviest_47 : decode cX4_heaviest 47 = .ok (.ireturn, 1) := by decide +kernel
theorem dX4_leftAtMost_0 : decode cX4_leftAtMost 0 = .ok (.iconst 0, 1) := by decide +kernel
theorem dX4_leftAtMost_1 : decode cX4_leftAtMost 1 = .ok (.istore 4, 2) := by decide +kernel
theorem dX4_leftAtMost_3 : decode cX4_leftAtMost 3 = .ok (.iload 4, 2) := by decide +kernel
theorem dX4_leftAtMost_5 : decode cX4_leftAtMost 5 = .ok (.aload_n 0, 1) := by decide +kernel
theorem dX4_leftAtMost_6 : decode cX4_leftAtMost 6 = .ok (.getfield 31, 3) := by decide +kernel
theorem dX4_leftAtMost_9 : decode cX4_leftAtMost 9 = .ok (.if_icmp .ge 24, 3) := by decide +kernel
theorem dX4_leftAtMost_12 : decode cX4_leftAtMost 12 = .ok (.aload_n 0, 1) := by decide +kernel
theorem dX4_leftAtMost_13 : decode cX4_leftAtMost 13 = .ok (.getfield 15, 3) := by decide +kernel
theorem dX4_leftAtMost_16 : decode cX4_leftAtMost 16 = .ok (.iload 4, 2) := by decide +kernel
theorem dX4_leftAtMost_18 : decode cX4_leftAtMost 18 = .ok (.aload_n 1, 1) := by decide +kernel
theorem dX4_leftAtMost_19 : decode cX4_leftAtMost 19 = .ok (.aload_n 2, 1) := by decide +kernel
theorem dX4_leftAtMost_20 : decode cX4_leftAtMost 20 = .ok (.iload_n 3, 1) := by decide +kernel
theorem dX4_leftAtMost_21 : decode cX4_leftAtMost 21 = .ok (.iload 4, 2) := by decide +kernel
theorem dX4_leftAtMost_23 : decode cX4_leftAtMost 23 = .ok (.invokestatic 47, 3) := by decide +kernel
theorem dX4_leftAtMost_26 : decode cX4_leftAtMost 26 = .ok (.iastore, 1) := by decide +kernel
theorem dX4_leftAtMost_27 : decode cX4_leftAtMost 27 = .ok (.iinc 4 1, 3) := by decide +kernel
theorem dX4_leftAtMost_30 : decode cX4_leftAtMost 30 = .ok (.goto (-27), 3) := by decide +kernel
theorem dX4_leftAtMost_33 : decode cX4_leftAtMost 33 = .ok (.iconst 0, 1) := by decide +kernel
theorem dX4_leftAtMost_34 : decode cX4_leftAtMost 34 = .ok (.istore 4, 2) := by decide +kernel
theorem dX4_leftAtMost_36 : decode cX4_leftAtMost 36 = .ok (.iconst 0, 1) := by decide +kernel
theorem dX4_leftAtMost_37 : decode cX4_leftAtMost 37 = .ok (.istore 5, 2) := by decide +kernel
theorem dX4_leftAtMost_39 : decode cX4_leftAtMost 39 = .ok (.iload 5, 2) := by decide +kernel
theorem dX4_leftAtMost_41 : decode cX4_leftAtMost 41 = .ok (.aload_n 0, 1) := by decide +kernel
theorem dX4_leftAtMost_42 : decode cX4_leftAtMost 42 = .ok (.getfield 31, 3) := by decide +kernel
theorem dX4_leftAtMost_45 : decode cX4_leftAtMost 45 = .ok (.if_icmp .ge 83, 3) := by decide +kernel
theorem dX4_leftAtMost_48 : decode cX4_leftAtMost 48 = .ok (.iconst 0, 1) := by decide +kernel
theorem dX4_leftAtMost_49 : decode cX4_leftAtMost 49 = .ok (.istore 6, 2) := by decide +kernel
theorem dX4_leftAtMost_51 : decode cX4_leftAtMost 51 = .ok (.iconst 0, 1) := by decide +kernel
theorem dX4_leftAtMost_52 : decode cX4_leftAtMost 52 = .ok (.istore 7, 2) := by decide +kernel
theorem dX4_leftAtMost_54 : decode cX4_leftAtMost 54 = .ok (.iload 7, 2) := by decide +kernel
theorem dX4_leftAtMost_56 : decode cX4_leftAtMost 56 = .ok (.aload_n 0, 1) := by decide +kernel
theorem dX4_leftAtMost_57 : decode cX4_leftAtMost 57 = .ok (.getfield 31, 3) := by decide +kernel
theorem dX4_leftAtMost_60 : decode cX4_leftAtMost 60 = .ok (.if_icmp .ge 53, 3) := by decide +kernel
theorem dX4_leftAtMost_63 : decode cX4_leftAtMost 63 = .ok (.aload_n 0, 1) := by decide +kernel
theorem dX4_leftAtMost_64 : decode cX4_leftAtMost 64 = .ok (.getfield 9, 3) := by decide +kernel
theorem dX4_leftAtMost_67 : decode cX4_leftAtMost 67 = .ok (.iload 5, 2) := by decide +kernel
theorem dX4_leftAtMost_69 : decode cX4_leftAtMost 69 = .ok (.laload, 1) := by decide +kernel
theorem dX4_leftAtMost_70 : decode cX4_leftAtMost 70 = .ok (.lconst 0, 1) := by decide +kernel
theorem dX4_leftAtMost_71 : decode cX4_leftAtMost 71 = .ok (.lcmp, 1) := by decide +kernel
theorem dX4_leftAtMost_72 : decode cX4_leftAtMost 72 = .ok (.ifCond .le 35, 3) := by decide +kernel
theorem dX4_leftAtMost_75 : decode cX4_leftAtMost 75 = .ok (.aload_n 0, 1) := by decide +kernel
theorem dX4_leftAtMost_76 : decode cX4_leftAtMost 76 = .ok (.getfield 9, 3) := by decide +kernel
theorem dX4_leftAtMost_79 : decode cX4_leftAtMost 79 = .ok (.iload 7, 2) := by decide +kernel
theorem dX4_leftAtMost_81 : decode cX4_leftAtMost 81 = .ok (.laload, 1) := by decide +kernel
theorem dX4_leftAtMost_82 : decode cX4_leftAtMost 82 = .ok (.lconst 0, 1) := by decide +kernel
theorem dX4_leftAtMost_83 : decode cX4_leftAtMost 83 = .ok (.lcmp, 1) := by decide +kernel
theorem dX4_leftAtMost_84 : decode cX4_leftAtMost 84 = .ok (.ifCond .le 23, 3) := by decide +kernel
theorem dX4_leftAtMost_87 : decode cX4_leftAtMost 87 = .ok (.aload_n 0, 1) := by decide +kernel
theorem dX4_leftAtMost_88 : decode cX4_leftAtMost 88 = .ok (.getfield 15, 3) := by decide +kernel
theorem dX4_leftAtMost_91 : decode cX4_leftAtMost 91 = .ok (.iload 5, 2) := by decide +kernel
theorem dX4_leftAtMost_93 : decode cX4_leftAtMost 93 = .ok (.iaload, 1) := by decide +kernel
theorem dX4_leftAtMost_94 : decode cX4_leftAtMost 94 = .ok (.aload_n 0, 1) := by decide +kernel
theorem dX4_leftAtMost_95 : decode cX4_leftAtMost 95 = .ok (.getfield 15, 3) := by decide +kernel
theorem dX4_leftAtMost_98 : decode cX4_leftAtMost 98 = .ok (.iload 7, 2) := by decide +kernel
theorem dX4_leftAtMost_100 : decode cX4_leftAtMost 100 = .ok (.iaload, 1) := by decide +kernel
theorem dX4_leftAtMost_101 : decode cX4_leftAtMost 101 = .ok (.if_icmp .ne 6, 3) := by decide +kernel
theorem dX4_leftAtMost_104 : decode cX4_leftAtMost 104 = .ok (.iinc 6 1, 3) := by decide +kernel
theorem dX4_leftAtMost_107 : decode cX4_leftAtMost 107 = .ok (.iinc 7 1, 3) := by decide +kernel
theorem dX4_leftAtMost_110 : decode cX4_leftAtMost 110 = .ok (.goto (-56), 3) := by decide +kernel
theorem dX4_leftAtMost_113 : decode cX4_leftAtMost 113 = .ok (.iload 4, 2) := by decide +kernel
theorem dX4_leftAtMost_115 : decode cX4_leftAtMost 115 = .ok (.iload 6, 2) := by decide +kernel
theorem dX4_leftAtMost_117 : decode cX4_leftAtMost 117 = .ok (.invokestatic 79, 3) := by decide +kernel
theorem dX4_leftAtMost_120 : decode cX4_leftAtMost 120 = .ok (.istore 4, 2) := by decide +kernel
theorem dX4_leftAtMost_122 : decode cX4_leftAtMost 122 = .ok (.iinc 5 1, 3) := by decide +kernel
theorem dX4_leftAtMost_125 : decode cX4_leftAtMost 125 = .ok (.goto (-86), 3) := by decide +kernel
theorem dX4_leftAtMost_128 : decode cX4_leftAtMost 128 = .ok (.iload 4, 2) := by decide +kernel
theorem dX4_leftAtMost_130 : decode cX4_leftAtMost 130 = .ok (.ireturn, 1) := by decide +kernel
theorem dX5_init_0 : decode cX5_init 0 = .ok (.aload_n 0, 1) := by decide +kernel
theorem dX5_init_1 : decode cX5_init 1 = .ok (.invokespecial 3, 3) := by decide +kernel
theorem dX5_init_4 : decode cX5_init 4 = .ok (.aload_n 0, 1) := by decide +kernel
theorem dX5_init_5 : decode cX5_init 5 = .ok (.bipush 16, 2) := by decide +kernel
theorem dX5_init_7 : decode cX5_init 7 = .ok (.anewarray 9, 3) := by decide +kernel
theorem dX5_init_10 : decode cX5_init 10 = .ok (.putfield 11, 3) := by decide +kernel
theorem dX5_init_13 : decode cX5_init 13 = .ok (.aload_n 0, 1) := by decide +kernel
theorem dX5_init_14 : decode cX5_init 14 = .ok (.iconst 3, 1) := by decide +kernel
theorem dX5_init_15 : decode cX5_init 15 = .ok (.anewarray 9, 3) := by decide +kernel
theorem dX5_init_18 : decode cX5_init 18 = .ok (.putfield 17, 3) := by decide +kernel
theorem dX5_init_21 : decode cX5_init 21 = .ok (.iconst 0, 1) := by decide +kernel
theorem dX5_init_22 : decode cX5_init 22 = .ok (.istore_n 1, 1) := by decide +kernel
theorem dX5_init_23 : decode cX5_init 23 = .ok (.iload_n 1, 1) := by decide +kernel
theorem dX5_init_24 : decode cX5_init 24 = .ok (.bipush 16, 2) := by decide +kernel
theorem dX5_init_26 : decode cX5_init 26 = .ok (.if_icmp .ge 22, 3) := by decide +kernel
theorem dX5_init_29 : decode cX5_init 29 = .ok (.aload_n 0, 1) := by decide +kernel
theorem dX5_init_30 : decode cX5_init 30 = .ok (.getfield 11, 3) := by decide +kernel
theorem dX5_init_33 : decode cX5_init 33 = .ok (.iload_n 1, 1) := by decide +kernel
theorem dX5_init_34 : decode cX5_init 34 = .ok (.new 9, 3) := by decide +kernel
theorem dX5_init_37 : decode cX5_init 37 = .ok (.dup, 1) := by decide +kernel
theorem dX5_init_38 : decode cX5_init 38 = .ok (.invokespecial 20, 3) := by decide +kernel
theorem dX5_init_41 : decode cX5_init 41 = .ok (.aastore, 1) := by decide +kernel
theorem dX5_init_42 : decode cX5_init 42 = .ok (.iinc 1 1, 3) := by decide +kernel
theorem dX5_init_45 : decode cX5_init 45 = .ok (.goto (-22), 3) := by decide +kernel
theorem dX5_init_48 : decode cX5_init 48 = .ok (.iconst 0, 1) := by decide +kernel
theorem dX5_init_49 : decode cX5_init 49 = .ok (.istore_n 1, 1) := by decide +kernel
theorem dX5_init_50 : decode cX5_init 50 = .ok (.iload_n 1, 1) := by decide +kernel
theorem dX5_init_51 : decode cX5_init 51 = .ok (.iconst 3, 1) := by decide +kernel
theorem dX5_init_52 : decode cX5_init 52 = .ok (.if_icmp .ge 22, 3) := by decide +kernel
theorem dX5_init_55 : decode cX5_init 55 = .ok (.aload_n 0, 1) := by decide +kernel
theorem dX5_init_56 : decode cX5_init 56 = .ok (.getfield 17, 3) := by decide +kernel
theorem dX5_init_59 : decode cX5_init 59 = .ok (.iload_n 1, 1) := by decide +kernel
theorem dX5_init_60 : decode cX5_init 60 = .ok (.new 9, 3) := by decide +kernel
theorem dX5_init_63 : decode cX5_init 63 = .ok (.dup, 1) := by decide +kernel
theorem dX5_init_64 : decode cX5_init 64 = .ok (.invokespecial 20, 3) := by decide +kernel
theorem dX5_init_67 : decode cX5_init 67 = .ok (.aastore, 1) := by decide +kernel
theorem dX5_init_68 : decode cX5_init 68 = .ok (.iinc 1 1, 3) := by decide +kernel
theorem dX5_init_71 : decode cX5_init 71 = .ok (.goto (-21), 3) := by decide +kernel
theorem dX5_init_74 : decode cX5_init 74 = .ok (.return_, 1) := by decide +kernel
theorem dX5_forgetAll_0 : decode cX5_forgetAll 0 = .ok (.aload_n 0, 1) := by decide +kernel
theorem dX5_forgetAll_1 : decode cX5_forgetAll 1 = .ok (.iconst 0, 1) := by decide +kernel
theorem dX5_forgetAll_2 : decode cX5_forgetAll 2 = .ok (.putfield 21, 3) := by decide +kernel
theorem dX5_forgetAll_5 : decode cX5_forgetAll 5 = .ok (.aload_n 0, 1) := by decide +kernel
theorem dX5_forgetAll_6 : decode cX5_forgetAll 6 = .ok (.iconst 0, 1) := by decide +kernel
theorem dX5_forgetAll_7 : decode cX5_forgetAll 7 = .ok (.putfield 25, 3) := by decide +kernel
theorem dX5_forgetAll_10 : decode cX5_forgetAll 10 = .ok (.return_, 1) := by decide +kernel
theorem dX5_keep_0 : decode cX5_keep 0 = .ok (.aload_n 0, 1) := by decide +kernel
theorem dX5_keep_1 : decode cX5_keep 1 = .ok (.getfield 11, 3) := by decide +kernel
theorem dX5_keep_4 : decode cX5_keep 4 = .ok (.aload_n 0, 1) := by decide +kernel
theorem dX5_keep_5 : decode cX5_keep 5 = .ok (.getfield 28, 3) := by decide +kernel
theorem dX5_keep_8 : decode cX5_keep 8 = .ok (.aaload, 1) := by decide +kernel
theorem dX5_keep_9 : decode cX5_keep 9 = .ok (.aload_n 1, 1) := by decide +kernel
theorem dX5_keep_10 : decode cX5_keep 10 = .ok (.invokevirtual 31, 3) := by decide +kernel
theorem dX5_keep_13 : decode cX5_keep 13 = .ok (.aload_n 0, 1) := by decide +kernel
theorem dX5_keep_14 : decode cX5_keep 14 = .ok (.aload_n 0, 1) := by decide +kernel
theorem dX5_keep_15 : decode cX5_keep 15 = .ok (.getfield 28, 3) := by decide +kernel
theorem dX5_keep_18 : decode cX5_keep 18 = .ok (.iconst 1, 1) := by decide +kernel
theorem dX5_keep_19 : decode cX5_keep 19 = .ok (.iadd, 1) := by decide +kernel
theorem dX5_keep_20 : decode cX5_keep 20 = .ok (.bipush 16, 2) := by decide +kernel
theorem dX5_keep_22 : decode cX5_keep 22 = .ok (.irem, 1) := by decide +kernel
theorem dX5_keep_23 : decode cX5_keep 23 = .ok (.putfield 28, 3) := by decide +kernel
theorem dX5_keep_26 : decode cX5_keep 26 = .ok (.aload_n 0, 1) := by decide +kernel
theorem dX5_keep_27 : decode cX5_keep 27 = .ok (.aload_n 0, 1) := by decide +kernel
theorem dX5_keep_28 : decode cX5_keep 28 = .ok (.getfield 21, 3) := by decide +kernel
theorem dX5_keep_31 : decode cX5_keep 31 = .ok (.iconst 1, 1) := by decide +kernel
theorem dX5_keep_32 : decode cX5_keep 32 = .ok (.iadd, 1) := by decide +kernel
theorem dX5_keep_33 : decode cX5_keep 33 = .ok (.bipush 16, 2) := by decide +kernel
theorem dX5_keep_35 : decode cX5_keep 35 = .ok (.invokestatic 35, 3) := by decide +kernel
theorem dX5_keep_38 : decode cX5_keep 38 = .ok (.putfield 21, 3) := by decide +kernel
theorem dX5_keep_41 : decode cX5_keep 41 = .ok (.return_, 1) := by decide +kernel
theorem dX5_takeBack_0 : decode cX5_takeBack 0 = .ok (.aload_n 0, 1) := by decide +kernel
theorem dX5_takeBack_1 : decode cX5_takeBack 1 = .ok (.getfield 21, 3) := by decide +kernel
theorem dX5_takeBack_4 : decode cX5_takeBack 4 = .ok (.ifCond .gt 5, 3) := by decide +kernel
theorem dX5_takeBack_7 : decode cX5_takeBack 7 = .ok (.iconst 0, 1) := by decide +kernel
theorem dX5_takeBack_8 : decode cX5_takeBack 8 = .ok (.ireturn, 1) := by decide +kernel
theorem dX5_takeBack_9 : decode cX5_takeBack 9 = .ok (.aload_n 0, 1) := by decide +kernel
theorem dX5_takeBack_10 : decode cX5_takeBack 10 = .ok (.dup, 1) := by decide +kernel
theorem dX5_takeBack_11 : decode cX5_takeBack 11 = .ok (.getfield 21, 3) := by decide +kernel
theorem dX5_takeBack_14 : decode cX5_takeBack 14 = .ok (.iconst 1, 1) := by decide +kernel
theorem dX5_takeBack_15 : decode cX5_takeBack 15 = .ok (.isub, 1) := by decide +kernel
theorem dX5_takeBack_16 : decode cX5_takeBack 16 = .ok (.putfield 21, 3) := by decide +kernel
theorem dX5_takeBack_19 : decode cX5_takeBack 19 = .ok (.aload_n 0, 1) := by decide +kernel
theorem dX5_takeBack_20 : decode cX5_takeBack 20 = .ok (.aload_n 0, 1) := by decide +kernel
theorem dX5_takeBack_21 : decode cX5_takeBack 21 = .ok (.getfield 28, 3) := by decide +kernel
theorem dX5_takeBack_24 : decode cX5_takeBack 24 = .ok (.bipush 16, 2) := by decide +kernel
theorem dX5_takeBack_26 : decode cX5_takeBack 26 = .ok (.iadd, 1) := by decide +kernel
theorem dX5_takeBack_27 : decode cX5_takeBack 27 = .ok (.iconst 1, 1) := by decide +kernel
theorem dX5_takeBack_28 : decode cX5_takeBack 28 = .ok (.isub, 1) := by decide +kernel
theorem dX5_takeBack_29 : decode cX5_takeBack 29 = .ok (.bipush 16, 2) := by decide +kernel
theorem dX5_takeBack_31 : decode cX5_takeBack 31 = .ok (.irem, 1) := by decide +kernel
theorem dX5_takeBack_32 : decode cX5_takeBack 32 = .ok (.putfield 28, 3) := by decide +kernel
theorem dX5_takeBack_35 : decode cX5_takeBack 35 = .ok (.aload_n 1, 1) := by decide +kernel
theorem dX5_takeBack_36 : decode cX5_takeBack 36 = .ok (.aload_n 0, 1) := by decide +kernel
theorem dX5_takeBack_37 : decode cX5_takeBack 37 = .ok (.getfield 11, 3) := by decide +kernel
theorem dX5_takeBack_40 : decode cX5_takeBack 40 = .ok (.aload_n 0, 1) := by decide +kernel
theorem dX5_takeBack_41 : decode cX5_takeBack 41 = .ok (.getfield 28, 3) := by decide +kernel
theorem dX5_takeBack_44 : decode cX5_takeBack 44 = .ok (.aaload, 1) := by decide +kernel
theorem dX5_takeBack_45 : decode cX5_takeBack 45 = .ok (.invokevirtual 31, 3) := by decide +kernel
theorem dX5_takeBack_48 : decode cX5_takeBack 48 = .ok (.iconst 1, 1) := by decide +kernel
theorem dX5_takeBack_49 : decode cX5_takeBack 49 = .ok (.ireturn, 1) := by decide +kernel
theorem dX5_draw_0 : decode cX5_draw 0 = .ok (.aload_n 0, 1) := by decide +kernel
theorem dX5_draw_1 : decode cX5_draw 1 = .ok (.getfield 25, 3) := by decide +kernel
theorem dX5_draw_4 : decode cX5_draw 4 = .ok (.iconst 3, 1) := by decide +kernel
theorem dX5_draw_5 : decode cX5_draw 5 = .ok (.if_icmp .lt 5, 3) := by decide +kernel
theorem dX5_draw_8 : decode cX5_draw 8 = .ok (.iconst (-1), 1) := by decide +kernel
theorem dX5_draw_9 : decode cX5_draw 9 = .ok (.ireturn, 1) := by decide +kernel
theorem dX5_draw_10 : decode cX5_draw 10 = .ok (.aload_n 0, 1) := by decide +kernel
theorem dX5_draw_11 : decode cX5_draw 11 = .ok (.getfield 17, 3) := by decide +kernel
theorem dX5_draw_14 : decode cX5_draw 14 = .ok (.aload_n 0, 1) := by decide +kernel
theorem dX5_draw_15 : decode cX5_draw 15 = .ok (.getfield 25, 3) := by decide +kernel
theorem dX5_draw_18 : decode cX5_draw 18 = .ok (.aaload, 1) := by decide +kernel
theorem dX5_draw_19 : decode cX5_draw 19 = .ok (.aload_n 1, 1) := by decide +kernel
theorem dX5_draw_20 : decode cX5_draw 20 = .ok (.invokevirtual 31, 3) := by decide +kernel
theorem dX5_draw_23 : decode cX5_draw 23 = .ok (.aload_n 0, 1) := by decide +kernel
theorem dX5_draw_24 : decode cX5_draw 24 = .ok (.dup, 1) := by decide +kernel
theorem dX5_draw_25 : decode cX5_draw 25 = .ok (.getfield 25, 3) := by decide +kernel
theorem dX5_draw_28 : decode cX5_draw 28 = .ok (.iconst 1, 1) := by decide +kernel
theorem dX5_draw_29 : decode cX5_draw 29 = .ok (.iadd, 1) := by decide +kernel
theorem dX5_draw_30 : decode cX5_draw 30 = .ok (.putfield 25, 3) := by decide +kernel
theorem dX5_draw_33 : decode cX5_draw 33 = .ok (.aload_n 0, 1) := by decide +kernel
theorem dX5_draw_34 : decode cX5_draw 34 = .ok (.getfield 25, 3) := by decide +kernel
theorem dX5_draw_37 : decode cX5_draw 37 = .ok (.iconst 1, 1) := by decide +kernel
theorem dX5_draw_38 : decode cX5_draw 38 = .ok (.isub, 1) := by decide +kernel
theorem dX5_draw_39 : decode cX5_draw 39 = .ok (.ireturn, 1) := by decide +kernel
theorem dX5_goBack_0 : decode cX5_goBack 0 = .ok (.iload_n 1, 1) := by decide +kernel
theorem dX5_goBack_1 : decode cX5_goBack 1 = .ok (.ifCond .lt 11, 3) := by decide +kernel
theorem dX5_goBack_4 : decode cX5_goBack 4 = .ok (.iload_n 1, 1) := by decide +kernel
theorem dX5_goBack_5 : decode cX5_goBack 5 = .ok (.aload_n 0, 1) := by decide +kernel
theorem dX5_goBack_6 : decode cX5_goBack 6 = .ok (.getfield 25, 3) := by decide +kernel
theorem dX5_goBack_9 : decode cX5_goBack 9 = .ok (.if_icmp .lt 5, 3) := by decide +kernel
theorem dX5_goBack_12 : decode cX5_goBack 12 = .ok (.iconst 0, 1) := by decide +kernel
theorem dX5_goBack_13 : decode cX5_goBack 13 = .ok (.ireturn, 1) := by decide +kernel
theorem dX5_goBack_14 : decode cX5_goBack 14 = .ok (.aload_n 2, 1) := by decide +kernel
theorem dX5_goBack_15 : decode cX5_goBack 15 = .ok (.aload_n 0, 1) := by decide +kernel
theorem dX5_goBack_16 : decode cX5_goBack 16 = .ok (.getfield 17, 3) := by decide +kernel
theorem dX5_goBack_19 : decode cX5_goBack 19 = .ok (.iload_n 1, 1) := by decide +kernel
theorem dX5_goBack_20 : decode cX5_goBack 20 = .ok (.aaload, 1) := by decide +kernel
theorem dX5_goBack_21 : decode cX5_goBack 21 = .ok (.invokevirtual 31, 3) := by decide +kernel
theorem dX5_goBack_24 : decode cX5_goBack 24 = .ok (.aload_n 0, 1) := by decide +kernel
theorem dX5_goBack_25 : decode cX5_goBack 25 = .ok (.iconst 0, 1) := by decide +kernel
theorem dX5_goBack_26 : decode cX5_goBack 26 = .ok (.putfield 21, 3) := by decide +kernel
theorem dX5_goBack_29 : decode cX5_goBack 29 = .ok (.iconst 1, 1) := by decide +kernel
theorem dX5_goBack_30 : decode cX5_goBack 30 = .ok (.ireturn, 1) := by decide +kernel
theorem dX6_init_0 : decode cX6_init 0 = .ok (.aload_n 0, 1) := by decide +kernel
theorem dX6_init_1 : decode cX6_init 1 = .ok (.invokespecial 3, 3) := by decide +kernel
theorem dX6_init_4 : decode cX6_init 4 = .ok (.aload_n 0, 1) := by decide +kernel
theorem dX6_init_5 : decode cX6_init 5 = .ok (.iconst 5, 1) := by decide +kernel
theorem dX6_init_6 : decode cX6_init 6 = .ok (.newarray .int, 2) := by decide +kernel
theorem dX6_init_8 : decode cX6_init 8 = .ok (.putfield 9, 3) := by decide +kernel
theorem dX6_init_11 : decode cX6_init 11 = .ok (.aload_n 0, 1) := by decide +kernel
theorem dX6_init_12 : decode cX6_init 12 = .ok (.iconst 5, 1) := by decide +kernel
theorem dX6_init_13 : decode cX6_init 13 = .ok (.newarray .int, 2) := by decide +kernel
theorem dX6_init_15 : decode cX6_init 15 = .ok (.putfield 15, 3) := by decide +kernel
theorem dX6_init_18 : decode cX6_init 18 = .ok (.aload_n 0, 1) := by decide +kernel
theorem dX6_init_19 : decode cX6_init 19 = .ok (.iconst 5, 1) := by decide +kernel
theorem dX6_init_20 : decode cX6_init 20 = .ok (.newarray .int, 2) := by decide +kernel
theorem dX6_init_22 : decode cX6_init 22 = .ok (.putfield 18, 3) := by decide +kernel
theorem dX6_init_25 : decode cX6_init 25 = .ok (.return_, 1) := by decide +kernel
theorem dX6_find_0 : decode cX6_find 0 = .ok (.aload_n 0, 1) := by decide +kernel
theorem dX6_find_1 : decode cX6_find 1 = .ok (.aload_n 1, 1) := by decide +kernel
theorem dX6_find_2 : decode cX6_find 2 = .ok (.aload_n 2, 1) := by decide +kernel
theorem dX6_find_3 : decode cX6_find 3 = .ok (.iload_n 3, 1) := by decide +kernel
theorem dX6_find_4 : decode cX6_find 4 = .ok (.invokevirtual 21, 3) := by decide +kernel
theorem dX6_find_7 : decode cX6_find 7 = .ok (.aload_n 0, 1) := by decide +kernel
theorem dX6_find_8 : decode cX6_find 8 = .ok (.aload_n 1, 1) := by decide +kernel
theorem dX6_find_9 : decode cX6_find 9 = .ok (.iload_n 3, 1) := by decide +kernel
theorem dX6_find_10 : decode cX6_find 10 = .ok (.invokevirtual 25, 3) := by decide +kernel
theorem dX6_find_13 : decode cX6_find 13 = .ok (.istore 4, 2) := by decide +kernel
theorem dX6_find_15 : decode cX6_find 15 = .ok (.aload_n 0, 1) := by decide +kernel
theorem dX6_find_16 : decode cX6_find 16 = .ok (.iload 4, 2) := by decide +kernel
theorem dX6_find_18 : decode cX6_find 18 = .ok (.iconst (-1), 1) := by decide +kernel
theorem dX6_find_19 : decode cX6_find 19 = .ok (.if_icmp .ne 7, 3) := by decide +kernel
theorem dX6_find_22 : decode cX6_find 22 = .ok (.iconst 0, 1) := by decide +kernel
theorem dX6_find_23 : decode cX6_find 23 = .ok (.goto 9, 3) := by decide +kernel
theorem dX6_find_26 : decode cX6_find 26 = .ok (.iload 4, 2) := by decide +kernel
theorem dX6_find_28 : decode cX6_find 28 = .ok (.iconst 5, 1) := by decide +kernel
theorem dX6_find_29 : decode cX6_find 29 = .ok (.invokestatic 29, 3) := by decide +kernel
theorem dX6_find_32 : decode cX6_find 32 = .ok (.putfield 35, 3) := by decide +kernel
theorem dX6_find_35 : decode cX6_find 35 = .ok (.iload_n 3, 1) := by decide +kernel
theorem dX6_find_36 : decode cX6_find 36 = .ok (.istore 5, 2) := by decide +kernel
theorem dX6_find_38 : decode cX6_find 38 = .ok (.iconst 0, 1) := by decide +kernel
theorem dX6_find_39 : decode cX6_find 39 = .ok (.istore 6, 2) := by decide +kernel
theorem dX6_find_41 : decode cX6_find 41 = .ok (.iload 6, 2) := by decide +kernel
theorem dX6_find_43 : decode cX6_find 43 = .ok (.aload_n 0, 1) := by decide +kernel
theorem dX6_find_44 : decode cX6_find 44 = .ok (.getfield 35, 3) := by decide +kernel
theorem dX6_find_47 : decode cX6_find 47 = .ok (.if_icmp .ge 42, 3) := by decide +kernel
theorem dX6_find_50 : decode cX6_find 50 = .ok (.iload 5, 2) := by decide +kernel
theorem dX6_find_52 : decode cX6_find 52 = .ok (.iconst (-1), 1) := by decide +kernel
theorem dX6_find_53 : decode cX6_find 53 = .ok (.if_icmp .eq 36, 3) := by decide +kernel
theorem dX6_find_56 : decode cX6_find 56 = .ok (.aload_n 0, 1) := by decide +kernel
theorem dX6_find_57 : decode cX6_find 57 = .ok (.getfield 9, 3) := by decide +kernel
theorem dX6_find_60 : decode cX6_find 60 = .ok (.iload 6, 2) := by decide +kernel
theorem dX6_find_62 : decode cX6_find 62 = .ok (.iload 5, 2) := by decide +kernel
theorem dX6_find_64 : decode cX6_find 64 = .ok (.iastore, 1) := by decide +kernel
theorem dX6_find_65 : decode cX6_find 65 = .ok (.aload_n 0, 1) := by decide +kernel
theorem dX6_find_66 : decode cX6_find 66 = .ok (.aload_n 1, 1) := by decide +kernel
theorem dX6_find_67 : decode cX6_find 67 = .ok (.iload 5, 2) := by decide +kernel
theorem dX6_find_69 : decode cX6_find 69 = .ok (.aload_n 0, 1) := by decide +kernel
theorem dX6_find_70 : decode cX6_find 70 = .ok (.getfield 35, 3) := by decide +kernel
theorem dX6_find_73 : decode cX6_find 73 = .ok (.iconst 1, 1) := by decide +kernel
theorem dX6_find_74 : decode cX6_find 74 = .ok (.isub, 1) := by decide +kernel
theorem dX6_find_75 : decode cX6_find 75 = .ok (.iload 6, 2) := by decide +kernel
theorem dX6_find_77 : decode cX6_find 77 = .ok (.isub, 1) := by decide +kernel
theorem dX6_find_78 : decode cX6_find 78 = .ok (.invokevirtual 39, 3) := by decide +kernel
theorem dX6_find_81 : decode cX6_find 81 = .ok (.istore 5, 2) := by decide +kernel
theorem dX6_find_83 : decode cX6_find 83 = .ok (.iinc 6 1, 3) := by decide +kernel
theorem dX6_find_86 : decode cX6_find 86 = .ok (.goto (-45), 3) := by decide +kernel
theorem dX6_find_89 : decode cX6_find 89 = .ok (.aload_n 0, 1) := by decide +kernel
theorem dX6_find_90 : decode cX6_find 90 = .ok (.getfield 35, 3) := by decide +kernel
theorem dX6_find_93 : decode cX6_find 93 = .ok (.ifCond .le 7, 3) := by decide +kernel
theorem dX6_find_96 : decode cX6_find 96 = .ok (.iconst 1, 1) := by decide +kernel
theorem dX6_find_97 : decode cX6_find 97 = .ok (.goto 4, 3) := by decide +kernel
theorem dX6_find_100 : decode cX6_find 100 = .ok (.iconst 0, 1) := by decide +kernel
theorem dX6_find_101 : decode cX6_find 101 = .ok (.ireturn, 1) := by decide +kernel
theorem dX6_measure_0 : decode cX6_measure 0 = .ok (.iconst 0, 1) := by decide +kernel
theorem dX6_measure_1 : decode cX6_measure 1 = .ok (.istore 4, 2) := by decide +kernel
theorem dX6_measure_3 : decode cX6_measure 3 = .ok (.iload 4, 2) := by decide +kernel
theorem dX6_measure_5 : decode cX6_measure 5 = .ok (.aload_n 1, 1) := by decide +kernel
theorem dX6_measure_6 : decode cX6_measure 6 = .ok (.getfield 43, 3) := by decide +kernel
theorem dX6_measure_9 : decode cX6_measure 9 = .ok (.if_icmp .ge 41, 3) := by decide +kernel
theorem dX6_measure_12 : decode cX6_measure 12 = .ok (.aload_n 0, 1) := by decide +kernel
theorem dX6_measure_13 : decode cX6_measure 13 = .ok (.getfield 15, 3) := by decide +kernel
theorem dX6_measure_16 : decode cX6_measure 16 = .ok (.iload 4, 2) := by decide +kernel
theorem dX6_measure_18 : decode cX6_measure 18 = .ok (.aload_n 1, 1) := by decide +kernel
theorem dX6_measure_19 : decode cX6_measure 19 = .ok (.aload_n 2, 1) := by decide +kernel
theorem dX6_measure_20 : decode cX6_measure 20 = .ok (.iload 4, 2) := by decide +kernel
theorem dX6_measure_22 : decode cX6_measure 22 = .ok (.invokevirtual 48, 3) := by decide +kernel
theorem dX6_measure_25 : decode cX6_measure 25 = .ok (.iastore, 1) := by decide +kernel
theorem dX6_measure_26 : decode cX6_measure 26 = .ok (.aload_n 0, 1) := by decide +kernel
theorem dX6_measure_27 : decode cX6_measure 27 = .ok (.getfield 18, 3) := by decide +kernel
theorem dX6_measure_30 : decode cX6_measure 30 = .ok (.iload 4, 2) := by decide +kernel
theorem dX6_measure_32 : decode cX6_measure 32 = .ok (.iload 4, 2) := by decide +kernel
theorem dX6_measure_34 : decode cX6_measure 34 = .ok (.iload_n 3, 1) := by decide +kernel
theorem dX6_measure_35 : decode cX6_measure 35 = .ok (.if_icmp .ne 7, 3) := by decide +kernel
theorem dX6_measure_38 : decode cX6_measure 38 = .ok (.iconst 0, 1) := by decide +kernel
theorem dX6_measure_39 : decode cX6_measure 39 = .ok (.goto 4, 3) := by decide +kernel
theorem dX6_measure_42 : decode cX6_measure 42 = .ok (.iconst (-1), 1) := by decide +kernel
theorem dX6_measure_43 : decode cX6_measure 43 = .ok (.iastore, 1) := by decide +kernel
theorem dX6_measure_44 : decode cX6_measure 44 = .ok (.iinc 4 1, 3) := by decide +kernel
theorem dX6_measure_47 : decode cX6_measure 47 = .ok (.goto (-44), 3) := by decide +kernel
theorem dX6_measure_50 : decode cX6_measure 50 = .ok (.iconst 1, 1) := by decide +kernel
theorem dX6_measure_51 : decode cX6_measure 51 = .ok (.istore 4, 2) := by decide +kernel
theorem dX6_measure_53 : decode cX6_measure 53 = .ok (.iload 4, 2) := by decide +kernel
theorem dX6_measure_55 : decode cX6_measure 55 = .ok (.aload_n 1, 1) := by decide +kernel
theorem dX6_measure_56 : decode cX6_measure 56 = .ok (.getfield 43, 3) := by decide +kernel
theorem dX6_measure_59 : decode cX6_measure 59 = .ok (.if_icmp .ge 59, 3) := by decide +kernel
theorem dX6_measure_62 : decode cX6_measure 62 = .ok (.iconst 0, 1) := by decide +kernel
theorem dX6_measure_63 : decode cX6_measure 63 = .ok (.istore 5, 2) := by decide +kernel
theorem dX6_measure_65 : decode cX6_measure 65 = .ok (.iload 5, 2) := by decide +kernel
theorem dX6_measure_67 : decode cX6_measure 67 = .ok (.aload_n 1, 1) := by decide +kernel
theorem dX6_measure_68 : decode cX6_measure 68 = .ok (.getfield 43, 3) := by decide +kernel
theorem dX6_measure_71 : decode cX6_measure 71 = .ok (.if_icmp .ge 41, 3) := by decide +kernel
theorem dX6_measure_74 : decode cX6_measure 74 = .ok (.aload_n 0, 1) := by decide +kernel
theorem dX6_measure_75 : decode cX6_measure 75 = .ok (.getfield 18, 3) := by decide +kernel
theorem dX6_measure_78 : decode cX6_measure 78 = .ok (.iload 5, 2) := by decide +kernel
theorem dX6_measure_80 : decode cX6_measure 80 = .ok (.iaload, 1) := by decide +kernel
theorem dX6_measure_81 : decode cX6_measure 81 = .ok (.iconst (-1), 1) := by decide +kernel
theorem dX6_measure_82 : decode cX6_measure 82 = .ok (.if_icmp .ne 24, 3) := by decide +kernel
theorem dX6_measure_85 : decode cX6_measure 85 = .ok (.aload_n 0, 1) := by decide +kernel
theorem dX6_measure_86 : decode cX6_measure 86 = .ok (.aload_n 1, 1) := by decide +kernel
theorem dX6_measure_87 : decode cX6_measure 87 = .ok (.iload 5, 2) := by decide +kernel
theorem dX6_measure_89 : decode cX6_measure 89 = .ok (.invokevirtual 25, 3) := by decide +kernel
theorem dX6_measure_92 : decode cX6_measure 92 = .ok (.iload 4, 2) := by decide +kernel
theorem dX6_measure_94 : decode cX6_measure 94 = .ok (.if_icmp .ne 12, 3) := by decide +kernel
theorem dX6_measure_97 : decode cX6_measure 97 = .ok (.aload_n 0, 1) := by decide +kernel
theorem dX6_measure_98 : decode cX6_measure 98 = .ok (.getfield 18, 3) := by decide +kernel
theorem dX6_measure_101 : decode cX6_measure 101 = .ok (.iload 5, 2) := by decide +kernel
theorem dX6_measure_103 : decode cX6_measure 103 = .ok (.iload 4, 2) := by decide +kernel
theorem dX6_measure_105 : decode cX6_measure 105 = .ok (.iastore, 1) := by decide +kernel
theorem dX6_measure_106 : decode cX6_measure 106 = .ok (.iinc 5 1, 3) := by decide +kernel
theorem dX6_measure_109 : decode cX6_measure 109 = .ok (.goto (-44), 3) := by decide +kernel
theorem dX6_measure_112 : decode cX6_measure 112 = .ok (.iinc 4 1, 3) := by decide +kernel
theorem dX6_measure_115 : decode cX6_measure 115 = .ok (.goto (-62), 3) := by decide +kernel
theorem dX6_measure_118 : decode cX6_measure 118 = .ok (.return_, 1) := by decide +kernel
theorem dX6_stepsFrom_0 : decode cX6_stepsFrom 0 = .ok (.iconst (-1), 1) := by decide +kernel
theorem dX6_stepsFrom_1 : decode cX6_stepsFrom 1 = .ok (.istore_n 3, 1) := by decide +kernel
theorem dX6_stepsFrom_2 : decode cX6_stepsFrom 2 = .ok (.iconst 0, 1) := by decide +kernel
theorem dX6_stepsFrom_3 : decode cX6_stepsFrom 3 = .ok (.istore 4, 2) := by decide +kernel
theorem dX6_stepsFrom_5 : decode cX6_stepsFrom 5 = .ok (.iload 4, 2) := by decide +kernel
theorem dX6_stepsFrom_7 : decode cX6_stepsFrom 7 = .ok (.aload_n 1, 1) := by decide +kernel
theorem dX6_stepsFrom_8 : decode cX6_stepsFrom 8 = .ok (.getfield 43, 3) := by decide +kernel
theorem dX6_stepsFrom_11 : decode cX6_stepsFrom 11 = .ok (.if_icmp .ge 56, 3) := by decide +kernel
theorem dX6_stepsFrom_14 : decode cX6_stepsFrom 14 = .ok (.aload_n 0, 1) := by decide +kernel
theorem dX6_stepsFrom_15 : decode cX6_stepsFrom 15 = .ok (.getfield 18, 3) := by decide +kernel
theorem dX6_stepsFrom_18 : decode cX6_stepsFrom 18 = .ok (.iload 4, 2) := by decide +kernel
theorem dX6_stepsFrom_20 : decode cX6_stepsFrom 20 = .ok (.iaload, 1) := by decide +kernel
theorem dX6_stepsFrom_21 : decode cX6_stepsFrom 21 = .ok (.istore 5, 2) := by decide +kernel
theorem dX6_stepsFrom_23 : decode cX6_stepsFrom 23 = .ok (.aload_n 0, 1) := by decide +kernel
theorem dX6_stepsFrom_24 : decode cX6_stepsFrom 24 = .ok (.getfield 15, 3) := by decide +kernel
theorem dX6_stepsFrom_27 : decode cX6_stepsFrom 27 = .ok (.iload_n 2, 1) := by decide +kernel
theorem dX6_stepsFrom_28 : decode cX6_stepsFrom 28 = .ok (.iaload, 1) := by decide +kernel
theorem dX6_stepsFrom_29 : decode cX6_stepsFrom 29 = .ok (.iload 4, 2) := by decide +kernel
theorem dX6_stepsFrom_31 : decode cX6_stepsFrom 31 = .ok (.ishr, 1) := by decide +kernel
theorem dX6_stepsFrom_32 : decode cX6_stepsFrom 32 = .ok (.iconst 1, 1) := by decide +kernel
theorem dX6_stepsFrom_33 : decode cX6_stepsFrom 33 = .ok (.iand, 1) := by decide +kernel
theorem dX6_stepsFrom_34 : decode cX6_stepsFrom 34 = .ok (.ifCond .eq 27, 3) := by decide +kernel
theorem dX6_stepsFrom_37 : decode cX6_stepsFrom 37 = .ok (.iload 5, 2) := by decide +kernel
theorem dX6_stepsFrom_39 : decode cX6_stepsFrom 39 = .ok (.iconst (-1), 1) := by decide +kernel
theorem dX6_stepsFrom_40 : decode cX6_stepsFrom 40 = .ok (.if_icmp .eq 21, 3) := by decide +kernel
theorem dX6_stepsFrom_43 : decode cX6_stepsFrom 43 = .ok (.iload_n 3, 1) := by decide +kernel
theorem dX6_stepsFrom_44 : decode cX6_stepsFrom 44 = .ok (.iconst (-1), 1) := by decide +kernel
theorem dX6_stepsFrom_45 : decode cX6_stepsFrom 45 = .ok (.if_icmp .eq 11, 3) := by decide +kernel
theorem dX6_stepsFrom_48 : decode cX6_stepsFrom 48 = .ok (.iload 5, 2) := by decide +kernel
theorem dX6_stepsFrom_50 : decode cX6_stepsFrom 50 = .ok (.iconst 1, 1) := by decide +kernel
theorem dX6_stepsFrom_51 : decode cX6_stepsFrom 51 = .ok (.iadd, 1) := by decide +kernel
theorem dX6_stepsFrom_52 : decode cX6_stepsFrom 52 = .ok (.iload_n 3, 1) := by decide +kernel
theorem dX6_stepsFrom_53 : decode cX6_stepsFrom 53 = .ok (.if_icmp .ge 8, 3) := by decide +kernel
theorem dX6_stepsFrom_56 : decode cX6_stepsFrom 56 = .ok (.iload 5, 2) := by decide +kernel
theorem dX6_stepsFrom_58 : decode cX6_stepsFrom 58 = .ok (.iconst 1, 1) := by decide +kernel
theorem dX6_stepsFrom_59 : decode cX6_stepsFrom 59 = .ok (.iadd, 1) := by decide +kernel
theorem dX6_stepsFrom_60 : decode cX6_stepsFrom 60 = .ok (.istore_n 3, 1) := by decide +kernel
theorem dX6_stepsFrom_61 : decode cX6_stepsFrom 61 = .ok (.iinc 4 1, 3) := by decide +kernel
theorem dX6_stepsFrom_64 : decode cX6_stepsFrom 64 = .ok (.goto (-59), 3) := by decide +kernel
theorem dX6_stepsFrom_67 : decode cX6_stepsFrom 67 = .ok (.iload_n 3, 1) := by decide +kernel
theorem dX6_stepsFrom_68 : decode cX6_stepsFrom 68 = .ok (.ireturn, 1) := by decide +kernel
theorem dX6_firstTowards_0 : decode cX6_firstTowards 0 = .ok (.iconst 0, 1) := by decide +kernel
theorem dX6_firstTowards_1 : decode cX6_firstTowards 1 = .ok (.istore 4, 2) := by decide +kernel
theorem dX6_firstTowards_3 : decode cX6_firstTowards 3 = .ok (.iload 4, 2) := by decide +kernel
theorem dX6_firstTowards_5 : decode cX6_firstTowards 5 = .ok (.aload_n 1, 1) := by decide +kernel
theorem dX6_firstTowards_6 : decode cX6_firstTowards 6 = .ok (.getfield 43, 3) := by decide +kernel
theorem dX6_firstTowards_9 : decode cX6_firstTowards 9 = .ok (.if_icmp .ge 37, 3) := by decide +kernel
theorem dX6_firstTowards_12 : decode cX6_firstTowards 12 = .ok (.aload_n 0, 1) := by decide +kernel
theorem dX6_firstTowards_13 : decode cX6_firstTowards 13 = .ok (.getfield 15, 3) := by decide +kernel
theorem dX6_firstTowards_16 : decode cX6_firstTowards 16 = .ok (.iload_n 2, 1) := by decide +kernel
theorem dX6_firstTowards_17 : decode cX6_firstTowards 17 = .ok (.iaload, 1) := by decide +kernel
theorem dX6_firstTowards_18 : decode cX6_firstTowards 18 = .ok (.iload 4, 2) := by decide +kernel
theorem dX6_firstTowards_20 : decode cX6_firstTowards 20 = .ok (.ishr, 1) := by decide +kernel
theorem dX6_firstTowards_21 : decode cX6_firstTowards 21 = .ok (.iconst 1, 1) := by decide +kernel
theorem dX6_firstTowards_22 : decode cX6_firstTowards 22 = .ok (.iand, 1) := by decide +kernel
theorem dX6_firstTowards_23 : decode cX6_firstTowards 23 = .ok (.ifCond .eq 17, 3) := by decide +kernel
theorem dX6_firstTowards_26 : decode cX6_firstTowards 26 = .ok (.aload_n 0, 1) := by decide +kernel
theorem dX6_firstTowards_27 : decode cX6_firstTowards 27 = .ok (.getfield 18, 3) := by decide +kernel
theorem dX6_firstTowards_30 : decode cX6_firstTowards 30 = .ok (.iload 4, 2) := by decide +kernel
theorem dX6_firstTowards_32 : decode cX6_firstTowards 32 = .ok (.iaload, 1) := by decide +kernel
theorem dX6_firstTowards_33 : decode cX6_firstTowards 33 = .ok (.iload_n 3, 1) := by decide +kernel
theorem dX6_firstTowards_34 : decode cX6_firstTowards 34 = .ok (.if_icmp .ne 6, 3) := by decide +kernel
theorem dX6_firstTowards_37 : decode cX6_firstTowards 37 = .ok (.iload 4, 2) := by decide +kernel
theorem dX6_firstTowards_39 : decode cX6_firstTowards 39 = .ok (.ireturn, 1) := by decide +kernel
theorem dX6_firstTowards_40 : decode cX6_firstTowards 40 = .ok (.iinc 4 1, 3) := by decide +kernel
theorem dX6_firstTowards_43 : decode cX6_firstTowards 43 = .ok (.goto (-40), 3) := by decide +kernel
theorem dX6_firstTowards_46 : decode cX6_firstTowards 46 = .ok (.iconst (-1), 1) := by decide +kernel
theorem dX6_firstTowards_47 : decode cX6_firstTowards 47 = .ok (.ireturn, 1) := by decide +kernel
theorem dX6_follower_0 : decode cX6_follower 0 = .ok (.iload_n 1, 1) := by decide +kernel
theorem dX6_follower_1 : decode cX6_follower 1 = .ok (.iconst 1, 1) := by decide +kernel
theorem dX6_follower_2 : decode cX6_follower 2 = .ok (.iadd, 1) := by decide +kernel
theorem dX6_follower_3 : decode cX6_follower 3 = .ok (.aload_n 0, 1) := by decide +kernel
theorem dX6_follower_4 : decode cX6_follower 4 = .ok (.getfield 35, 3) := by decide +kernel
theorem dX6_follower_7 : decode cX6_follower 7 = .ok (.if_icmp .ge 14, 3) := by decide +kernel
theorem dX6_follower_10 : decode cX6_follower 10 = .ok (.aload_n 0, 1) := by decide +kernel
theorem dX6_follower_11 : decode cX6_follower 11 = .ok (.getfield 9, 3) := by decide +kernel
theorem dX6_follower_14 : decode cX6_follower 14 = .ok (.iload_n 1, 1) := by decide +kernel
theorem dX6_follower_15 : decode cX6_follower 15 = .ok (.iconst 1, 1) := by decide +kernel
theorem dX6_follower_16 : decode cX6_follower 16 = .ok (.iadd, 1) := by decide +kernel
theorem dX6_follower_17 : decode cX6_follower 17 = .ok (.iaload, 1) := by decide +kernel
theorem dX6_follower_18 : decode cX6_follower 18 = .ok (.goto 9, 3) := by decide +kernel
theorem dX6_follower_21 : decode cX6_follower 21 = .ok (.aload_n 0, 1) := by decide +kernel
theorem dX6_follower_22 : decode cX6_follower 22 = .ok (.getfield 9, 3) := by decide +kernel
theorem dX6_follower_25 : decode cX6_follower 25 = .ok (.iconst 0, 1) := by decide +kernel
theorem dX6_follower_26 : decode cX6_follower 26 = .ok (.iaload, 1) := by decide +kernel
theorem dX6_follower_27 : decode cX6_follower 27 = .ok (.ireturn, 1) := by decide +kernel
theorem dX6_sum_0 : decode cX6_sum 0 = .ok (.iconst (-1), 1) := by decide +kernel
theorem dX6_sum_1 : decode cX6_sum 1 = .ok (.istore_n 3, 1) := by decide +kernel
theorem dX6_sum_2 : decode cX6_sum 2 = .ok (.iconst 0, 1) := by decide +kernel
theorem dX6_sum_3 : decode cX6_sum 3 = .ok (.istore 4, 2) := by decide +kernel
theorem dX6_sum_5 : decode cX6_sum 5 = .ok (.iload 4, 2) := by decide +kernel
theorem dX6_sum_7 : decode cX6_sum 7 = .ok (.aload_n 0, 1) := by decide +kernel
theorem dX6_sum_8 : decode cX6_sum 8 = .ok (.getfield 35, 3) := by decide +kernel
theorem dX6_sum_11 : decode cX6_sum 11 = .ok (.if_icmp .ge 43, 3) := by decide +kernel
theorem dX6_sum_14 : decode cX6_sum 14 = .ok (.aload_n 1, 1) := by decide +kernel
theorem dX6_sum_15 : decode cX6_sum 15 = .ok (.aload_n 2, 1) := by decide +kernel
theorem dX6_sum_16 : decode cX6_sum 16 = .ok (.aload_n 0, 1) := by decide +kernel
theorem dX6_sum_17 : decode cX6_sum 17 = .ok (.getfield 9, 3) := by decide +kernel
theorem dX6_sum_20 : decode cX6_sum 20 = .ok (.iload 4, 2) := by decide +kernel
theorem dX6_sum_22 : decode cX6_sum 22 = .ok (.iaload, 1) := by decide +kernel
theorem dX6_sum_23 : decode cX6_sum 23 = .ok (.aload_n 0, 1) := by decide +kernel
theorem dX6_sum_24 : decode cX6_sum 24 = .ok (.iload 4, 2) := by decide +kernel
theorem dX6_sum_26 : decode cX6_sum 26 = .ok (.invokevirtual 52, 3) := by decide +kernel
theorem dX6_sum_29 : decode cX6_sum 29 = .ok (.invokevirtual 56, 3) := by decide +kernel
theorem dX6_sum_32 : decode cX6_sum 32 = .ok (.istore 5, 2) := by decide +kernel
theorem dX6_sum_34 : decode cX6_sum 34 = .ok (.iload_n 3, 1) := by decide +kernel
theorem dX6_sum_35 : decode cX6_sum 35 = .ok (.iconst (-1), 1) := by decide +kernel
theorem dX6_sum_36 : decode cX6_sum 36 = .ok (.if_icmp .eq 9, 3) := by decide +kernel
theorem dX6_sum_39 : decode cX6_sum 39 = .ok (.iload 5, 2) := by decide +kernel
theorem dX6_sum_41 : decode cX6_sum 41 = .ok (.iload_n 3, 1) := by decide +kernel
theorem dX6_sum_42 : decode cX6_sum 42 = .ok (.if_icmp .ge 6, 3) := by decide +kernel
theorem dX6_sum_45 : decode cX6_sum 45 = .ok (.iload 5, 2) := by decide +kernel
theorem dX6_sum_47 : decode cX6_sum 47 = .ok (.istore_n 3, 1) := by decide +kernel
theorem dX6_sum_48 : decode cX6_sum 48 = .ok (.iinc 4 1, 3) := by decide +kernel
theorem dX6_sum_51 : decode cX6_sum 51 = .ok (.goto (-46), 3) := by decide +kernel
theorem dX6_sum_54 : decode cX6_sum 54 = .ok (.iload_n 3, 1) := by decide +kernel
theorem dX6_sum_55 : decode cX6_sum 55 = .ok (.ireturn, 1) := by decide +kernel
theorem dX6_cancel_0 : decode cX6_cancel 0 = .ok (.iconst 0, 1) := by decide +kernel
theorem dX6_cancel_1 : decode cX6_cancel 1 = .ok (.istore 4, 2) := by decide +kernel
theorem dX6_cancel_3 : decode cX6_cancel 3 = .ok (.iload 4, 2) := by decide +kernel
theorem dX6_cancel_5 : decode cX6_cancel 5 = .ok (.aload_n 0, 1) := by decide +kernel
theorem dX6_cancel_6 : decode cX6_cancel 6 = .ok (.getfield 35, 3) := by decide +kernel
theorem dX6_cancel_9 : decode cX6_cancel 9 = .ok (.if_icmp .ge 119, 3) := by decide +kernel
theorem dX6_cancel_12 : decode cX6_cancel 12 = .ok (.iload_n 3, 1) := by decide +kernel
theorem dX6_cancel_13 : decode cX6_cancel 13 = .ok (.istore 5, 2) := by decide +kernel
theorem dX6_cancel_15 : decode cX6_cancel 15 = .ok (.iconst 0, 1) := by decide +kernel
theorem dX6_cancel_16 : decode cX6_cancel 16 = .ok (.istore 6, 2) := by decide +kernel
theorem dX6_cancel_18 : decode cX6_cancel 18 = .ok (.iload 6, 2) := by decide +kernel
theorem dX6_cancel_20 : decode cX6_cancel 20 = .ok (.aload_n 1, 1) := by decide +kernel
theorem dX6_cancel_21 : decode cX6_cancel 21 = .ok (.getfield 60, 3) := by decide +kernel
theorem dX6_cancel_24 : decode cX6_cancel 24 = .ok (.getfield 64, 3) := by decide +kernel
theorem dX6_cancel_27 : decode cX6_cancel 27 = .ok (.if_icmp .ge 95, 3) := by decide +kernel
theorem dX6_cancel_30 : decode cX6_cancel 30 = .ok (.aload_n 1, 1) := by decide +kernel
theorem dX6_cancel_31 : decode cX6_cancel 31 = .ok (.getfield 60, 3) := by decide +kernel
theorem dX6_cancel_34 : decode cX6_cancel 34 = .ok (.getfield 69, 3) := by decide +kernel
theorem dX6_cancel_37 : decode cX6_cancel 37 = .ok (.iload 6, 2) := by decide +kernel
theorem dX6_cancel_39 : decode cX6_cancel 39 = .ok (.iaload, 1) := by decide +kernel
theorem dX6_cancel_40 : decode cX6_cancel 40 = .ok (.aload_n 0, 1) := by decide +kernel
theorem dX6_cancel_41 : decode cX6_cancel 41 = .ok (.getfield 9, 3) := by decide +kernel
theorem dX6_cancel_44 : decode cX6_cancel 44 = .ok (.iload 4, 2) := by decide +kernel
theorem dX6_cancel_46 : decode cX6_cancel 46 = .ok (.iaload, 1) := by decide +kernel
theorem dX6_cancel_47 : decode cX6_cancel 47 = .ok (.if_icmp .ne 69, 3) := by decide +kernel
theorem dX6_cancel_50 : decode cX6_cancel 50 = .ok (.aload_n 1, 1) := by decide +kernel
theorem dX6_cancel_51 : decode cX6_cancel 51 = .ok (.getfield 60, 3) := by decide +kernel
theorem dX6_cancel_54 : decode cX6_cancel 54 = .ok (.getfield 72, 3) := by decide +kernel
theorem dX6_cancel_57 : decode cX6_cancel 57 = .ok (.iload 6, 2) := by decide +kernel
theorem dX6_cancel_59 : decode cX6_cancel 59 = .ok (.iaload, 1) := by decide +kernel
theorem dX6_cancel_60 : decode cX6_cancel 60 = .ok (.aload_n 0, 1) := by decide +kernel
theorem dX6_cancel_61 : decode cX6_cancel 61 = .ok (.iload 4, 2) := by decide +kernel
theorem dX6_cancel_63 : decode cX6_cancel 63 = .ok (.invokevirtual 52, 3) := by decide +kernel
theorem dX6_cancel_66 : decode cX6_cancel 66 = .ok (.if_icmp .ne 50, 3) := by decide +kernel
theorem dX6_cancel_69 : decode cX6_cancel 69 = .ok (.aload_n 1, 1) := by decide +kernel
theorem dX6_cancel_70 : decode cX6_cancel 70 = .ok (.aload_n 2, 1) := by decide +kernel
theorem dX6_cancel_71 : decode cX6_cancel 71 = .ok (.iload 6, 2) := by decide +kernel
theorem dX6_cancel_73 : decode cX6_cancel 73 = .ok (.aload_n 2, 1) := by decide +kernel
theorem dX6_cancel_74 : decode cX6_cancel 74 = .ok (.getfield 75, 3) := by decide +kernel
theorem dX6_cancel_77 : decode cX6_cancel 77 = .ok (.invokevirtual 80, 3) := by decide +kernel
theorem dX6_cancel_80 : decode cX6_cancel 80 = .ok (.ifCond .eq 36, 3) := by decide +kernel
theorem dX6_cancel_83 : decode cX6_cancel 83 = .ok (.iload 5, 2) := by decide +kernel
theorem dX6_cancel_85 : decode cX6_cancel 85 = .ok (.aload_n 2, 1) := by decide +kernel
theorem dX6_cancel_86 : decode cX6_cancel 86 = .ok (.getfield 84, 3) := by decide +kernel
theorem dX6_cancel_89 : decode cX6_cancel 89 = .ok (.iload 6, 2) := by decide +kernel
theorem dX6_cancel_91 : decode cX6_cancel 91 = .ok (.iaload, 1) := by decide +kernel
theorem dX6_cancel_92 : decode cX6_cancel 92 = .ok (.invokestatic 29, 3) := by decide +kernel
theorem dX6_cancel_95 : decode cX6_cancel 95 = .ok (.istore 7, 2) := by decide +kernel
theorem dX6_cancel_97 : decode cX6_cancel 97 = .ok (.aload_n 2, 1) := by decide +kernel
theorem dX6_cancel_98 : decode cX6_cancel 98 = .ok (.getfield 84, 3) := by decide +kernel
theorem dX6_cancel_101 : decode cX6_cancel 101 = .ok (.iload 6, 2) := by decide +kernel
theorem dX6_cancel_103 : decode cX6_cancel 103 = .ok (.dup2, 1) := by decide +kernel
theorem dX6_cancel_104 : decode cX6_cancel 104 = .ok (.iaload, 1) := by decide +kernel
theorem dX6_cancel_105 : decode cX6_cancel 105 = .ok (.iload 7, 2) := by decide +kernel
theorem dX6_cancel_107 : decode cX6_cancel 107 = .ok (.isub, 1) := by decide +kernel
theorem dX6_cancel_108 : decode cX6_cancel 108 = .ok (.iastore, 1) := by decide +kernel
theorem dX6_cancel_109 : decode cX6_cancel 109 = .ok (.iload 5, 2) := by decide +kernel
theorem dX6_cancel_111 : decode cX6_cancel 111 = .ok (.iload 7, 2) := by decide +kernel
theorem dX6_cancel_113 : decode cX6_cancel 113 = .ok (.isub, 1) := by decide +kernel
theorem dX6_cancel_114 : decode cX6_cancel 114 = .ok (.istore 5, 2) := by decide +kernel
theorem dX6_cancel_116 : decode cX6_cancel 116 = .ok (.iinc 6 1, 3) := by decide +kernel
theorem dX6_cancel_119 : decode cX6_cancel 119 = .ok (.goto (-101), 3) := by decide +kernel
theorem dX6_cancel_122 : decode cX6_cancel 122 = .ok (.iinc 4 1, 3) := by decide +kernel
theorem dX6_cancel_125 : decode cX6_cancel 125 = .ok (.goto (-122), 3) := by decide +kernel
theorem dX6_cancel_128 : decode cX6_cancel 128 = .ok (.return_, 1) := by decide +kernel
theorem dX7_init_0 : decode cX7_init 0 = .ok (.aload_n 0, 1) := by decide +kernel
theorem dX7_init_1 : decode cX7_init 1 = .ok (.invokespecial 3, 3) := by decide +kernel
theorem dX7_init_4 : decode cX7_init 4 = .ok (.aload_n 0, 1) := by decide +kernel
theorem dX7_init_5 : decode cX7_init 5 = .ok (.iconst 5, 1) := by decide +kernel
theorem dX7_init_6 : decode cX7_init 6 = .ok (.newarray .int, 2) := by decide +kernel
theorem dX7_init_8 : decode cX7_init 8 = .ok (.putfield 9, 3) := by decide +kernel
theorem dX7_init_11 : decode cX7_init 11 = .ok (.aload_n 0, 1) := by decide +kernel
theorem dX7_init_12 : decode cX7_init 12 = .ok (.iconst 4, 1) := by decide +kernel
theorem dX7_init_13 : decode cX7_init 13 = .ok (.newarray .int, 2) := by decide +kernel
theorem dX7_init_15 : decode cX7_init 15 = .ok (.putfield 15, 3) := by decide +kernel
theorem dX7_init_18 : decode cX7_init 18 = .ok (.aload_n 0, 1) := by decide +kernel
theorem dX7_init_19 : decode cX7_init 19 = .ok (.bipush 96, 2) := by decide +kernel
theorem dX7_init_21 : decode cX7_init 21 = .ok (.newarray .int, 2) := by decide +kernel
theorem dX7_init_23 : decode cX7_init 23 = .ok (.putfield 18, 3) := by decide +kernel
theorem dX7_init_26 : decode cX7_init 26 = .ok (.return_, 1) := by decide +kernel
theorem dX7_assign_0 : decode cX7_assign 0 = .ok (.iconst 0, 1) := by decide +kernel
theorem dX7_assign_1 : decode cX7_assign 1 = .ok (.istore_n 3, 1) := by decide +kernel
theorem dX7_assign_2 : decode cX7_assign 2 = .ok (.iload_n 3, 1) := by decide +kernel
theorem dX7_assign_3 : decode cX7_assign 3 = .ok (.aload_n 1, 1) := by decide +kernel
theorem dX7_assign_4 : decode cX7_assign 4 = .ok (.getfield 21, 3) := by decide +kernel
theorem dX7_assign_7 : decode cX7_assign 7 = .ok (.if_icmp .ge 21, 3) := by decide +kernel
theorem dX7_assign_10 : decode cX7_assign 10 = .ok (.aload_n 0, 1) := by decide +kernel
theorem dX7_assign_11 : decode cX7_assign 11 = .ok (.getfield 15, 3) := by decide +kernel
theorem dX7_assign_14 : decode cX7_assign 14 = .ok (.iload_n 3, 1) := by decide +kernel
theorem dX7_assign_15 : decode cX7_assign 15 = .ok (.aload_n 1, 1) := by decide +kernel
theorem dX7_assign_16 : decode cX7_assign 16 = .ok (.aload_n 2, 1) := by decide +kernel
theorem dX7_assign_17 : decode cX7_assign 17 = .ok (.iload_n 3, 1) := by decide +kernel
theorem dX7_assign_18 : decode cX7_assign 18 = .ok (.invokevirtual 27, 3) := by decide +kernel
theorem dX7_assign_21 : decode cX7_assign 21 = .ok (.iastore, 1) := by decide +kernel
theorem dX7_assign_22 : decode cX7_assign 22 = .ok (.iinc 3 1, 3) := by decide +kernel
theorem dX7_assign_25 : decode cX7_assign 25 = .ok (.goto (-23), 3) := by decide +kernel
theorem dX7_assign_28 : decode cX7_assign 28 = .ok (.iconst 0, 1) := by decide +kernel
theorem dX7_assign_29 : decode cX7_assign 29 = .ok (.istore_n 3, 1) := by decide +kernel
theorem dX7_assign_30 : decode cX7_assign 30 = .ok (.iload_n 3, 1) := by decide +kernel
theorem dX7_assign_31 : decode cX7_assign 31 = .ok (.bipush 16, 2) := by decide +kernel
theorem dX7_assign_33 : decode cX7_assign 33 = .ok (.if_icmp .ge 24, 3) := by decide +kernel
theorem dX7_assign_36 : decode cX7_assign 36 = .ok (.aload_n 0, 1) := by decide +kernel
theorem dX7_assign_37 : decode cX7_assign 37 = .ok (.getfield 18, 3) := by decide +kernel
theorem dX7_assign_40 : decode cX7_assign 40 = .ok (.aload_n 1, 1) := by decide +kernel
theorem dX7_assign_41 : decode cX7_assign 41 = .ok (.getfield 31, 3) := by decide +kernel
theorem dX7_assign_44 : decode cX7_assign 44 = .ok (.bipush 16, 2) := by decide +kernel
theorem dX7_assign_46 : decode cX7_assign 46 = .ok (.imul, 1) := by decide +kernel
theorem dX7_assign_47 : decode cX7_assign 47 = .ok (.iload_n 3, 1) := by decide +kernel
theorem dX7_assign_48 : decode cX7_assign 48 = .ok (.iadd, 1) := by decide +kernel
theorem dX7_assign_49 : decode cX7_assign 49 = .ok (.iconst 0, 1) := by decide +kernel
theorem dX7_assign_50 : decode cX7_assign 50 = .ok (.iastore, 1) := by decide +kernel
theorem dX7_assign_51 : decode cX7_assign 51 = .ok (.iinc 3 1, 3) := by decide +kernel
theorem dX7_assign_54 : decode cX7_assign 54 = .ok (.goto (-24), 3) := by decide +kernel
theorem dX7_assign_57 : decode cX7_assign 57 = .ok (.aload_n 1, 1) := by decide +kernel
theorem dX7_assign_58 : decode cX7_assign 58 = .ok (.getfield 31, 3) := by decide +kernel
theorem dX7_assign_61 : decode cX7_assign 61 = .ok (.iconst 1, 1) := by decide +kernel
theorem dX7_assign_62 : decode cX7_assign 62 = .ok (.isub, 1) := by decide +kernel
theorem dX7_assign_63 : decode cX7_assign 63 = .ok (.istore_n 3, 1) := by decide +kernel
theorem dX7_assign_64 : decode cX7_assign 64 = .ok (.iload_n 3, 1) := by decide +kernel
theorem dX7_assign_65 : decode cX7_assign 65 = .ok (.ifCond .lt 45, 3) := by decide +kernel
theorem dX7_assign_68 : decode cX7_assign 68 = .ok (.iconst 0, 1) := by decide +kernel
theorem dX7_assign_69 : decode cX7_assign 69 = .ok (.istore 4, 2) := by decide +kernel
theorem dX7_assign_71 : decode cX7_assign 71 = .ok (.iload 4, 2) := by decide +kernel
theorem dX7_assign_73 : decode cX7_assign 73 = .ok (.bipush 16, 2) := by decide +kernel
theorem dX7_assign_75 : decode cX7_assign 75 = .ok (.if_icmp .ge 29, 3) := by decide +kernel
theorem dX7_assign_78 : decode cX7_assign 78 = .ok (.aload_n 0, 1) := by decide +kernel
theorem dX7_assign_79 : decode cX7_assign 79 = .ok (.getfield 18, 3) := by decide +kernel
theorem dX7_assign_82 : decode cX7_assign 82 = .ok (.iload_n 3, 1) := by decide +kernel
theorem dX7_assign_83 : decode cX7_assign 83 = .ok (.bipush 16, 2) := by decide +kernel
theorem dX7_assign_85 : decode cX7_assign 85 = .ok (.imul, 1) := by decide +kernel
theorem dX7_assign_86 : decode cX7_assign 86 = .ok (.iload 4, 2) := by decide +kernel
theorem dX7_assign_88 : decode cX7_assign 88 = .ok (.iadd, 1) := by decide +kernel
theorem dX7_assign_89 : decode cX7_assign 89 = .ok (.aload_n 0, 1) := by decide +kernel
theorem dX7_assign_90 : decode cX7_assign 90 = .ok (.aload_n 1, 1) := by decide +kernel
theorem dX7_assign_91 : decode cX7_assign 91 = .ok (.iload_n 3, 1) := by decide +kernel
theorem dX7_assign_92 : decode cX7_assign 92 = .ok (.iload 4, 2) := by decide +kernel
theorem dX7_assign_94 : decode cX7_assign 94 = .ok (.invokevirtual 34, 3) := by decide +kernel
theorem dX7_assign_97 : decode cX7_assign 97 = .ok (.iastore, 1) := by decide +kernel
theorem dX7_assign_98 : decode cX7_assign 98 = .ok (.iinc 4 1, 3) := by decide +kernel
theorem dX7_assign_101 : decode cX7_assign 101 = .ok (.goto (-30), 3) := by decide +kernel
theorem dX7_assign_104 : decode cX7_assign 104 = .ok (.iinc 3 (-1), 3) := by decide +kernel
theorem dX7_assign_107 : decode cX7_assign 107 = .ok (.goto (-43), 3) := by decide +kernel
theorem dX7_assign_110 : decode cX7_assign 110 = .ok (.iconst 0, 1) := by decide +kernel
theorem dX7_assign_111 : decode cX7_assign 111 = .ok (.istore_n 3, 1) := by decide +kernel
theorem dX7_assign_112 : decode cX7_assign 112 = .ok (.iconst 0, 1) := by decide +kernel
theorem dX7_assign_113 : decode cX7_assign 113 = .ok (.istore 4, 2) := by decide +kernel
theorem dX7_assign_115 : decode cX7_assign 115 = .ok (.iload 4, 2) := by decide +kernel
theorem dX7_assign_117 : decode cX7_assign 117 = .ok (.aload_n 1, 1) := by decide +kernel
theorem dX7_assign_118 : decode cX7_assign 118 = .ok (.getfield 31, 3) := by decide +kernel
theorem dX7_assign_121 : decode cX7_assign 121 = .ok (.if_icmp .ge 46, 3) := by decide +kernel
theorem dX7_assign_124 : decode cX7_assign 124 = .ok (.aload_n 0, 1) := by decide +kernel
theorem dX7_assign_125 : decode cX7_assign 125 = .ok (.aload_n 1, 1) := by decide +kernel
theorem dX7_assign_126 : decode cX7_assign 126 = .ok (.iload 4, 2) := by decide +kernel
theorem dX7_assign_128 : decode cX7_assign 128 = .ok (.iload_n 3, 1) := by decide +kernel
theorem dX7_assign_129 : decode cX7_assign 129 = .ok (.invokevirtual 38, 3) := by decide +kernel
theorem dX7_assign_132 : decode cX7_assign 132 = .ok (.istore 5, 2) := by decide +kernel
theorem dX7_assign_134 : decode cX7_assign 134 = .ok (.aload_n 0, 1) := by decide +kernel
theorem dX7_assign_135 : decode cX7_assign 135 = .ok (.getfield 9, 3) := by decide +kernel
theorem dX7_assign_138 : decode cX7_assign 138 = .ok (.iload 4, 2) := by decide +kernel
theorem dX7_assign_140 : decode cX7_assign 140 = .ok (.iload 5, 2) := by decide +kernel
theorem dX7_assign_142 : decode cX7_assign 142 = .ok (.iastore, 1) := by decide +kernel
theorem dX7_assign_143 : decode cX7_assign 143 = .ok (.iload_n 3, 1) := by decide +kernel
theorem dX7_assign_144 : decode cX7_assign 144 = .ok (.iload 5, 2) := by decide +kernel
theorem dX7_assign_146 : decode cX7_assign 146 = .ok (.bipush (-2), 2) := by decide +kernel
theorem dX7_assign_148 : decode cX7_assign 148 = .ok (.if_icmp .ne 7, 3) := by decide +kernel
theorem dX7_assign_151 : decode cX7_assign 151 = .ok (.iconst 0, 1) := by decide +kernel
theorem dX7_assign_152 : decode cX7_assign 152 = .ok (.goto 7, 3) := by decide +kernel
theorem dX7_assign_155 : decode cX7_assign 155 = .ok (.iconst 1, 1) := by decide +kernel
theorem dX7_assign_156 : decode cX7_assign 156 = .ok (.iload 5, 2) := by decide +kernel
theorem dX7_assign_158 : decode cX7_assign 158 = .ok (.ishl, 1) := by decide +kernel
theorem dX7_assign_159 : decode cX7_assign 159 = .ok (.ior, 1) := by decide +kernel
theorem dX7_assign_160 : decode cX7_assign 160 = .ok (.istore_n 3, 1) := by decide +kernel
theorem dX7_assign_161 : decode cX7_assign 161 = .ok (.iinc 4 1, 3) := by decide +kernel
theorem dX7_assign_164 : decode cX7_assign 164 = .ok (.goto (-49), 3) := by decide +kernel
theorem dX7_assign_167 : decode cX7_assign 167 = .ok (.aload_n 0, 1) := by decide +kernel
theorem dX7_assign_168 : decode cX7_assign 168 = .ok (.getfield 18, 3) := by decide +kernel
theorem dX7_assign_171 : decode cX7_assign 171 = .ok (.iconst 0, 1) := by decide +kernel
theorem dX7_assign_172 : decode cX7_assign 172 = .ok (.iaload, 1) := by decide +kernel
theorem dX7_assign_173 : decode cX7_assign 173 = .ok (.ireturn, 1) := by decide +kernel
theorem dX7_mostFrom_0 : decode cX7_mostFrom 0 = .ok (.aload_n 0, 1) := by decide +kernel
theorem dX7_mostFrom_1 : decode cX7_mostFrom 1 = .ok (.getfield 18, 3) := by decide +kernel
theorem dX7_mostFrom_4 : decode cX7_mostFrom 4 = .ok (.iload_n 2, 1) := by decide +kernel
theorem dX7_mostFrom_5 : decode cX7_mostFrom 5 = .ok (.iconst 1, 1) := by decide +kernel
theorem dX7_mostFrom_6 : decode cX7_mostFrom 6 = .ok (.iadd, 1) := by decide +kernel
theorem dX7_mostFrom_7 : decode cX7_mostFrom 7 = .ok (.bipush 16, 2) := by decide +kernel
theorem dX7_mostFrom_9 : decode cX7_mostFrom 9 = .ok (.imul, 1) := by decide +kernel
theorem dX7_mostFrom_10 : decode cX7_mostFrom 10 = .ok (.iload_n 3, 1) := by decide +kernel
theorem dX7_mostFrom_11 : decode cX7_mostFrom 11 = .ok (.iadd, 1) := by decide +kernel
theorem dX7_mostFrom_12 : decode cX7_mostFrom 12 = .ok (.iaload, 1) := by decide +kernel
theorem dX7_mostFrom_13 : decode cX7_mostFrom 13 = .ok (.istore 4, 2) := by decide +kernel
theorem dX7_mostFrom_15 : decode cX7_mostFrom 15 = .ok (.iconst 0, 1) := by decide +kernel
theorem dX7_mostFrom_16 : decode cX7_mostFrom 16 = .ok (.istore 5, 2) := by decide +kernel
theorem dX7_mostFrom_18 : decode cX7_mostFrom 18 = .ok (.iload 5, 2) := by decide +kernel
theorem dX7_mostFrom_20 : decode cX7_mostFrom 20 = .ok (.aload_n 1, 1) := by decide +kernel
theorem dX7_mostFrom_21 : decode cX7_mostFrom 21 = .ok (.getfield 21, 3) := by decide +kernel
theorem dX7_mostFrom_24 : decode cX7_mostFrom 24 = .ok (.if_icmp .ge 47, 3) := by decide +kernel
theorem dX7_mostFrom_27 : decode cX7_mostFrom 27 = .ok (.aload_n 0, 1) := by decide +kernel
theorem dX7_mostFrom_28 : decode cX7_mostFrom 28 = .ok (.iload_n 2, 1) := by decide +kernel
theorem dX7_mostFrom_29 : decode cX7_mostFrom 29 = .ok (.iload 5, 2) := by decide +kernel
theorem dX7_mostFrom_31 : decode cX7_mostFrom 31 = .ok (.iload_n 3, 1) := by decide +kernel
theorem dX7_mostFrom_32 : decode cX7_mostFrom 32 = .ok (.invokevirtual 41, 3) := by decide +kernel
theorem dX7_mostFrom_35 : decode cX7_mostFrom 35 = .ok (.ifCond .eq 30, 3) := by decide +kernel
theorem dX7_mostFrom_38 : decode cX7_mostFrom 38 = .ok (.iload 4, 2) := by decide +kernel
theorem dX7_mostFrom_40 : decode cX7_mostFrom 40 = .ok (.iconst 1, 1) := by decide +kernel
theorem dX7_mostFrom_41 : decode cX7_mostFrom 41 = .ok (.aload_n 0, 1) := by decide +kernel
theorem dX7_mostFrom_42 : decode cX7_mostFrom 42 = .ok (.getfield 18, 3) := by decide +kernel
theorem dX7_mostFrom_45 : decode cX7_mostFrom 45 = .ok (.iload_n 2, 1) := by decide +kernel
theorem dX7_mostFrom_46 : decode cX7_mostFrom 46 = .ok (.iconst 1, 1) := by decide +kernel
theorem dX7_mostFrom_47 : decode cX7_mostFrom 47 = .ok (.iadd, 1) := by decide +kernel
theorem dX7_mostFrom_48 : decode cX7_mostFrom 48 = .ok (.bipush 16, 2) := by decide +kernel
theorem dX7_mostFrom_50 : decode cX7_mostFrom 50 = .ok (.imul, 1) := by decide +kernel
theorem dX7_mostFrom_51 : decode cX7_mostFrom 51 = .ok (.iload_n 3, 1) := by decide +kernel
theorem dX7_mostFrom_52 : decode cX7_mostFrom 52 = .ok (.iconst 1, 1) := by decide +kernel
theorem dX7_mostFrom_53 : decode cX7_mostFrom 53 = .ok (.iload 5, 2) := by decide +kernel
theorem dX7_mostFrom_55 : decode cX7_mostFrom 55 = .ok (.ishl, 1) := by decide +kernel
theorem dX7_mostFrom_56 : decode cX7_mostFrom 56 = .ok (.ior, 1) := by decide +kernel
theorem dX7_mostFrom_57 : decode cX7_mostFrom 57 = .ok (.iadd, 1) := by decide +kernel
theorem dX7_mostFrom_58 : decode cX7_mostFrom 58 = .ok (.iaload, 1) := by decide +kernel
theorem dX7_mostFrom_59 : decode cX7_mostFrom 59 = .ok (.iadd, 1) := by decide +kernel
theorem dX7_mostFrom_60 : decode cX7_mostFrom 60 = .ok (.invokestatic 45, 3) := by decide +kernel
theorem dX7_mostFrom_63 : decode cX7_mostFrom 63 = .ok (.istore 4, 2) := by decide +kernel
theorem dX7_mostFrom_65 : decode cX7_mostFrom 65 = .ok (.iinc 5 1, 3) := by decide +kernel
theorem dX7_mostFrom_68 : decode cX7_mostFrom 68 = .ok (.goto (-50), 3) := by decide +kernel
theorem dX7_mostFrom_71 : decode cX7_mostFrom 71 = .ok (.iload 4, 2) := by decide +kernel
theorem dX7_mostFrom_73 : decode cX7_mostFrom 73 = .ok (.ireturn, 1) := by decide +kernel
theorem dX7_firstDoor_0 : decode cX7_firstDoor 0 = .ok (.iconst 0, 1) := by decide +kernel
theorem dX7_firstDoor_1 : decode cX7_firstDoor 1 = .ok (.istore 4, 2) := by decide +kernel
theorem dX7_firstDoor_3 : decode cX7_firstDoor 3 = .ok (.iload 4, 2) := by decide +kernel
theorem dX7_firstDoor_5 : decode cX7_firstDoor 5 = .ok (.aload_n 1, 1) := by decide +kernel
theorem dX7_firstDoor_6 : decode cX7_firstDoor 6 = .ok (.getfield 21, 3) := by decide +kernel
theorem dX7_firstDoor_9 : decode cX7_firstDoor 9 = .ok (.if_icmp .ge 57, 3) := by decide +kernel
theorem dX7_firstDoor_12 : decode cX7_firstDoor 12 = .ok (.aload_n 0, 1) := by decide +kernel
theorem dX7_firstDoor_13 : decode cX7_firstDoor 13 = .ok (.iload_n 2, 1) := by decide +kernel
theorem dX7_firstDoor_14 : decode cX7_firstDoor 14 = .ok (.iload 4, 2) := by decide +kernel
theorem dX7_firstDoor_16 : decode cX7_firstDoor 16 = .ok (.iload_n 3, 1) := by decide +kernel
theorem dX7_firstDoor_17 : decode cX7_firstDoor 17 = .ok (.invokevirtual 41, 3) := by decide +kernel
theorem dX7_firstDoor_20 : decode cX7_firstDoor 20 = .ok (.ifCond .eq 40, 3) := by decide +kernel
theorem dX7_firstDoor_23 : decode cX7_firstDoor 23 = .ok (.iconst 1, 1) := by decide +kernel
theorem dX7_firstDoor_24 : decode cX7_firstDoor 24 = .ok (.aload_n 0, 1) := by decide +kernel
theorem dX7_firstDoor_25 : decode cX7_firstDoor 25 = .ok (.getfield 18, 3) := by decide +kernel
theorem dX7_firstDoor_28 : decode cX7_firstDoor 28 = .ok (.iload_n 2, 1) := by decide +kernel
theorem dX7_firstDoor_29 : decode cX7_firstDoor 29 = .ok (.iconst 1, 1) := by decide +kernel
theorem dX7_firstDoor_30 : decode cX7_firstDoor 30 = .ok (.iadd, 1) := by decide +kernel
theorem dX7_firstDoor_31 : decode cX7_firstDoor 31 = .ok (.bipush 16, 2) := by decide +kernel
theorem dX7_firstDoor_33 : decode cX7_firstDoor 33 = .ok (.imul, 1) := by decide +kernel
theorem dX7_firstDoor_34 : decode cX7_firstDoor 34 = .ok (.iload_n 3, 1) := by decide +kernel
theorem dX7_firstDoor_35 : decode cX7_firstDoor 35 = .ok (.iconst 1, 1) := by decide +kernel
theorem dX7_firstDoor_36 : decode cX7_firstDoor 36 = .ok (.iload 4, 2) := by decide +kernel
theorem dX7_firstDoor_38 : decode cX7_firstDoor 38 = .ok (.ishl, 1) := by decide +kernel
theorem dX7_firstDoor_39 : decode cX7_firstDoor 39 = .ok (.ior, 1) := by decide +kernel
theorem dX7_firstDoor_40 : decode cX7_firstDoor 40 = .ok (.iadd, 1) := by decide +kernel
theorem dX7_firstDoor_41 : decode cX7_firstDoor 41 = .ok (.iaload, 1) := by decide +kernel
theorem dX7_firstDoor_42 : decode cX7_firstDoor 42 = .ok (.iadd, 1) := by decide +kernel
theorem dX7_firstDoor_43 : decode cX7_firstDoor 43 = .ok (.aload_n 0, 1) := by decide +kernel
theorem dX7_firstDoor_44 : decode cX7_firstDoor 44 = .ok (.getfield 18, 3) := by decide +kernel
theorem dX7_firstDoor_47 : decode cX7_firstDoor 47 = .ok (.iload_n 2, 1) := by decide +kernel
theorem dX7_firstDoor_48 : decode cX7_firstDoor 48 = .ok (.bipush 16, 2) := by decide +kernel
theorem dX7_firstDoor_50 : decode cX7_firstDoor 50 = .ok (.imul, 1) := by decide +kernel
theorem dX7_firstDoor_51 : decode cX7_firstDoor 51 = .ok (.iload_n 3, 1) := by decide +kernel
theorem dX7_firstDoor_52 : decode cX7_firstDoor 52 = .ok (.iadd, 1) := by decide +kernel
theorem dX7_firstDoor_53 : decode cX7_firstDoor 53 = .ok (.iaload, 1) := by decide +kernel
theorem dX7_firstDoor_54 : decode cX7_firstDoor 54 = .ok (.if_icmp .ne 6, 3) := by decide +kernel
theorem dX7_firstDoor_57 : decode cX7_firstDoor 57 = .ok (.iload 4, 2) := by decide +kernel
theorem dX7_firstDoor_59 : decode cX7_firstDoor 59 = .ok (.ireturn, 1) := by decide +kernel
theorem dX7_firstDoor_60 : decode cX7_firstDoor 60 = .ok (.iinc 4 1, 3) := by decide +kernel
theorem dX7_firstDoor_63 : decode cX7_firstDoor 63 = .ok (.goto (-60), 3) := by decide +kernel
theorem dX7_firstDoor_66 : decode cX7_firstDoor 66 = .ok (.bipush (-2), 2) := by decide +kernel
theorem dX7_firstDoor_68 : decode cX7_firstDoor 68 = .ok (.ireturn, 1) := by decide +kernel
theorem dX7_isOpen_0 : decode cX7_isOpen 0 = .ok (.iload_n 3, 1) := by decide +kernel
theorem dX7_isOpen_1 : decode cX7_isOpen 1 = .ok (.iload_n 2, 1) := by decide +kernel
theorem dX7_isOpen_2 : decode cX7_isOpen 2 = .ok (.ishr, 1) := by decide +kernel
theorem dX7_isOpen_3 : decode cX7_isOpen 3 = .ok (.iconst 1, 1) := by decide +kernel
theorem dX7_isOpen_4 : decode cX7_isOpen 4 = .ok (.iand, 1) := by decide +kernel
theorem dX7_isOpen_5 : decode cX7_isOpen 5 = .ok (.ifCond .ne 20, 3) := by decide +kernel
theorem dX7_isOpen_8 : decode cX7_isOpen 8 = .ok (.aload_n 0, 1) := by decide +kernel
theorem dX7_isOpen_9 : decode cX7_isOpen 9 = .ok (.getfield 15, 3) := by decide +kernel
theorem dX7_isOpen_12 : decode cX7_isOpen 12 = .ok (.iload_n 2, 1) := by decide +kernel
theorem dX7_isOpen_13 : decode cX7_isOpen 13 = .ok (.iaload, 1) := by decide +kernel
theorem dX7_isOpen_14 : decode cX7_isOpen 14 = .ok (.iload_n 1, 1) := by decide +kernel
theorem dX7_isOpen_15 : decode cX7_isOpen 15 = .ok (.ishr, 1) := by decide +kernel
theorem dX7_isOpen_16 : decode cX7_isOpen 16 = .ok (.iconst 1, 1) := by decide +kernel
theorem dX7_isOpen_17 : decode cX7_isOpen 17 = .ok (.iand, 1) := by decide +kernel
theorem dX7_isOpen_18 : decode cX7_isOpen 18 = .ok (.ifCond .eq 7, 3) := by decide +kernel
theorem dX7_isOpen_21 : decode cX7_isOpen 21 = .ok (.iconst 1, 1) := by decide +kernel
theorem dX7_isOpen_22 : decode cX7_isOpen 22 = .ok (.goto 4, 3) := by decide +kernel
theorem dX7_isOpen_25 : decode cX7_isOpen 25 = .ok (.iconst 0, 1) := by decide +kernel
theorem dX7_isOpen_26 : decode cX7_isOpen 26 = .ok (.ireturn, 1) := by decide +kernel
theorem dX8_init_0 : decode cX8_init 0 = .ok (.aload_n 0, 1) := by decide +kernel
theorem dX8_init_1 : decode cX8_init 1 = .ok (.invokespecial 3, 3) := by decide +kernel
theorem dX8_init_4 : decode cX8_init 4 = .ok (.aload_n 0, 1) := by decide +kernel
theorem dX8_init_5 : decode cX8_init 5 = .ok (.sipush 900, 3) := by decide +kernel
theorem dX8_init_8 : decode cX8_init 8 = .ok (.newarray .byte, 2) := by decide +kernel
theorem dX8_init_10 : decode cX8_init 10 = .ok (.putfield 9, 3) := by decide +kernel
theorem dX8_init_13 : decode cX8_init 13 = .ok (.aload_n 0, 1) := by decide +kernel
theorem dX8_init_14 : decode cX8_init 14 = .ok (.iconst 5, 1) := by decide +kernel
theorem dX8_init_15 : decode cX8_init 15 = .ok (.newarray .long, 2) := by decide +kernel
theorem dX8_init_17 : decode cX8_init 17 = .ok (.putfield 15, 3) := by decide +kernel
theorem dX8_init_20 : decode cX8_init 20 = .ok (.aload_n 0, 1) := by decide +kernel
theorem dX8_init_21 : decode cX8_init 21 = .ok (.iconst 4, 1) := by decide +kernel
theorem dX8_init_22 : decode cX8_init 22 = .ok (.newarray .long, 2) := by decide +kernel
theorem dX8_init_24 : decode cX8_init 24 = .ok (.putfield 19, 3) := by decide +kernel
theorem dX8_init_27 : decode cX8_init 27 = .ok (.return_, 1) := by decide +kernel
theorem dX8_append_0 : decode cX8_append 0 = .ok (.bipush 24, 2) := by decide +kernel
theorem dX8_append_2 : decode cX8_append 2 = .ok (.istore_n 2, 1) := by decide +kernel
theorem dX8_append_3 : decode cX8_append 3 = .ok (.iload_n 2, 1) := by decide +kernel
theorem dX8_append_4 : decode cX8_append 4 = .ok (.ifCond .lt 42, 3) := by decide +kernel
theorem dX8_append_7 : decode cX8_append 7 = .ok (.aload_n 0, 1) := by decide +kernel
theorem dX8_append_8 : decode cX8_append 8 = .ok (.getfield 22, 3) := by decide +kernel
theorem dX8_append_11 : decode cX8_append 11 = .ok (.sipush 900, 3) := by decide +kernel
theorem dX8_append_14 : decode cX8_append 14 = .ok (.if_icmp .ge 32, 3) := by decide +kernel
theorem dX8_append_17 : decode cX8_append 17 = .ok (.aload_n 0, 1) := by decide +kernel
theorem dX8_append_18 : decode cX8_append 18 = .ok (.getfield 9, 3) := by decide +kernel
theorem dX8_append_21 : decode cX8_append 21 = .ok (.aload_n 0, 1) := by decide +kernel
theorem dX8_append_22 : decode cX8_append 22 = .ok (.getfield 22, 3) := by decide +kernel
theorem dX8_append_25 : decode cX8_append 25 = .ok (.iload_n 1, 1) := by decide +kernel
theorem dX8_append_26 : decode cX8_append 26 = .ok (.iload_n 2, 1) := by decide +kernel
theorem dX8_append_27 : decode cX8_append 27 = .ok (.ishr, 1) := by decide +kernel
theorem dX8_append_28 : decode cX8_append 28 = .ok (.i2b, 1) := by decide +kernel
theorem dX8_append_29 : decode cX8_append 29 = .ok (.bastore, 1) := by decide +kernel
theorem dX8_append_30 : decode cX8_append 30 = .ok (.aload_n 0, 1) := by decide +kernel
theorem dX8_append_31 : decode cX8_append 31 = .ok (.dup, 1) := by decide +kernel
theorem dX8_append_32 : decode cX8_append 32 = .ok (.getfield 22, 3) := by decide +kernel
theorem dX8_append_35 : decode cX8_append 35 = .ok (.iconst 1, 1) := by decide +kernel
theorem dX8_append_36 : decode cX8_append 36 = .ok (.iadd, 1) := by decide +kernel
theorem dX8_append_37 : decode cX8_append 37 = .ok (.putfield 22, 3) := by decide +kernel
theorem dX8_append_40 : decode cX8_append 40 = .ok (.iinc 2 (-8), 3) := by decide +kernel
theorem dX8_append_43 : decode cX8_append 43 = .ok (.goto (-40), 3) := by decide +kernel
theorem dX8_append_46 : decode cX8_append 46 = .ok (.return_, 1) := by decide +kernel
theorem dX8_readInto_0 : decode cX8_readInto 0 = .ok (.aload_n 1, 1) := by decide +kernel
theorem dX8_readInto_1 : decode cX8_readInto 1 = .ok (.invokevirtual 26, 3) := by decide +kernel
theorem dX8_readInto_4 : decode cX8_readInto 4 = .ok (.aload_n 0, 1) := by decide +kernel
theorem dX8_readInto_5 : decode cX8_readInto 5 = .ok (.iconst 0, 1) := by decide +kernel
theorem dX8_readInto_6 : decode cX8_readInto 6 = .ok (.putfield 31, 3) := by decide +kernel
theorem dX8_readInto_9 : decode cX8_readInto 9 = .ok (.aload_n 0, 1) := by decide +kernel
theorem dX8_readInto_10 : decode cX8_readInto 10 = .ok (.iconst 0, 1) := by decide +kernel
theorem dX8_readInto_11 : decode cX8_readInto 11 = .ok (.putfield 35, 3) := by decide +kernel
theorem dX8_readInto_14 : decode cX8_readInto 14 = .ok (.aload_n 0, 1) := by decide +kernel
theorem dX8_readInto_15 : decode cX8_readInto 15 = .ok (.iconst (-1), 1) := by decide +kernel
theorem dX8_readInto_16 : decode cX8_readInto 16 = .ok (.putfield 38, 3) := by decide +kernel
theorem dX8_readInto_19 : decode cX8_readInto 19 = .ok (.aload_n 0, 1) := by decide +kernel
theorem dX8_readInto_20 : decode cX8_readInto 20 = .ok (.iconst 0, 1) := by decide +kernel
theorem dX8_readInto_21 : decode cX8_readInto 21 = .ok (.iload_n 2, 1) := by decide +kernel
theorem dX8_readInto_22 : decode cX8_readInto 22 = .ok (.sipush 900, 3) := by decide +kernel
theorem dX8_readInto_25 : decode cX8_readInto 25 = .ok (.invokestatic 41, 3) := by decide +kernel
theorem dX8_readInto_28 : decode cX8_readInto 28 = .ok (.invokestatic 47, 3) := by decide +kernel
theorem dX8_readInto_31 : decode cX8_readInto 31 = .ok (.putfield 50, 3) := by decide +kernel
theorem dX8_readInto_34 : decode cX8_readInto 34 = .ok (.aload_n 0, 1) := by decide +kernel
theorem dX8_readInto_35 : decode cX8_readInto 35 = .ok (.iconst 0, 1) := by decide +kernel
theorem dX8_readInto_36 : decode cX8_readInto 36 = .ok (.putfield 53, 3) := by decide +kernel
theorem dX8_readInto_39 : decode cX8_readInto 39 = .ok (.aload_n 0, 1) := by decide +kernel
theorem dX8_readInto_40 : decode cX8_readInto 40 = .ok (.invokevirtual 56, 3) := by decide +kernel
theorem dX8_readInto_43 : decode cX8_readInto 43 = .ok (.iconst 0, 1) := by decide +kernel
theorem dX8_readInto_44 : decode cX8_readInto 44 = .ok (.istore_n 3, 1) := by decide +kernel
theorem dX8_readInto_45 : decode cX8_readInto 45 = .ok (.iload_n 3, 1) := by decide +kernel
theorem dX8_readInto_46 : decode cX8_readInto 46 = .ok (.sipush 900, 3) := by decide +kernel
theorem dX8_readInto_49 : decode cX8_readInto 49 = .ok (.if_icmp .gt 65, 3) := by decide +kernel
theorem dX8_readInto_52 : decode cX8_readInto 52 = .ok (.aload_n 0, 1) := by decide +kernel
theorem dX8_readInto_53 : decode cX8_readInto 53 = .ok (.aload_n 1, 1) := by decide +kernel
theorem dX8_readInto_54 : decode cX8_readInto 54 = .ok (.invokevirtual 59, 3) := by decide +kernel
theorem dX8_readInto_57 : decode cX8_readInto 57 = .ok (.ifCond .ne 8, 3) := by decide +kernel
theorem dX8_readInto_60 : decode cX8_readInto 60 = .ok (.aload_n 0, 1) := by decide +kernel
theorem dX8_readInto_61 : decode cX8_readInto 61 = .ok (.getfield 35, 3) := by decide +kernel
theorem dX8_readInto_64 : decode cX8_readInto 64 = .ok (.ireturn, 1) := by decide +kernel
theorem dX8_readInto_65 : decode cX8_readInto 65 = .ok (.aload_n 0, 1) := by decide +kernel
theorem dX8_readInto_66 : decode cX8_readInto 66 = .ok (.getfield 63, 3) := by decide +kernel
theorem dX8_readInto_69 : decode cX8_readInto 69 = .ok (.ifCond .ne 21, 3) := by decide +kernel
theorem dX8_readInto_72 : decode cX8_readInto 72 = .ok (.aload_n 1, 1) := by decide +kernel
theorem dX8_readInto_73 : decode cX8_readInto 73 = .ok (.getfield 66, 3) := by decide +kernel
theorem dX8_readInto_76 : decode cX8_readInto 76 = .ok (.ifCond .ne 12, 3) := by decide +kernel
theorem dX8_readInto_79 : decode cX8_readInto 79 = .ok (.aload_n 0, 1) := by decide +kernel
theorem dX8_readInto_80 : decode cX8_readInto 80 = .ok (.bipush 6, 2) := by decide +kernel
theorem dX8_readInto_82 : decode cX8_readInto 82 = .ok (.invokevirtual 69, 3) := by decide +kernel
theorem dX8_readInto_85 : decode cX8_readInto 85 = .ok (.goto 4, 3) := by decide +kernel
theorem dX8_readInto_88 : decode cX8_readInto 88 = .ok (.iconst 0, 1) := by decide +kernel
theorem dX8_readInto_89 : decode cX8_readInto 89 = .ok (.ireturn, 1) := by decide +kernel
theorem dX8_readInto_90 : decode cX8_readInto 90 = .ok (.aload_n 0, 1) := by decide +kernel
theorem dX8_readInto_91 : decode cX8_readInto 91 = .ok (.getfield 63, 3) := by decide +kernel
theorem dX8_readInto_94 : decode cX8_readInto 94 = .ok (.iconst 3, 1) := by decide +kernel
theorem dX8_readInto_95 : decode cX8_readInto 95 = .ok (.if_icmp .eq 9, 3) := by decide +kernel
theorem dX8_readInto_98 : decode cX8_readInto 98 = .ok (.aload_n 0, 1) := by decide +kernel
theorem dX8_readInto_99 : decode cX8_readInto 99 = .ok (.iconst 1, 1) := by decide +kernel
theorem dX8_readInto_100 : decode cX8_readInto 100 = .ok (.invokevirtual 69, 3) := by decide +kernel
theorem dX8_readInto_103 : decode cX8_readInto 103 = .ok (.ireturn, 1) := by decide +kernel
theorem dX8_readInto_104 : decode cX8_readInto 104 = .ok (.aload_n 0, 1) := by decide +kernel
theorem dX8_readInto_105 : decode cX8_readInto 105 = .ok (.invokevirtual 56, 3) := by decide +kernel
theorem dX8_readInto_108 : decode cX8_readInto 108 = .ok (.iinc 3 1, 3) := by decide +kernel
theorem dX8_readInto_111 : decode cX8_readInto 111 = .ok (.goto (-66), 3) := by decide +kernel
theorem dX8_readInto_114 : decode cX8_readInto 114 = .ok (.aload_n 0, 1) := by decide +kernel
theorem dX8_readInto_115 : decode cX8_readInto 115 = .ok (.iconst 1, 1) := by decide +kernel
theorem dX8_readInto_116 : decode cX8_readInto 116 = .ok (.invokevirtual 69, 3) := by decide +kernel
theorem dX8_readInto_119 : decode cX8_readInto 119 = .ok (.ireturn, 1) := by decide +kernel
theorem dX8_readLine_0 : decode cX8_readLine 0 = .ok (.aload_n 0, 1) := by decide +kernel
theorem dX8_readLine_1 : decode cX8_readLine 1 = .ok (.invokevirtual 73, 3) := by decide +kernel
theorem dX8_readLine_4 : decode cX8_readLine 4 = .ok (.ifCond .ne 9, 3) := by decide +kernel
theorem dX8_readLine_7 : decode cX8_readLine 7 = .ok (.aload_n 0, 1) := by decide +kernel
theorem dX8_readLine_8 : decode cX8_readLine 8 = .ok (.iconst 1, 1) := by decide +kernel
theorem dX8_readLine_9 : decode cX8_readLine 9 = .ok (.invokevirtual 77, 3) := by decide +kernel
theorem dX8_readLine_12 : decode cX8_readLine 12 = .ok (.ireturn, 1) := by decide +kernel
theorem dX8_readLine_13 : decode cX8_readLine 13 = .ok (.aload_n 0, 1) := by decide +kernel
theorem dX8_readLine_14 : decode cX8_readLine 14 = .ok (.ldc 81, 2) := by decide +kernel
theorem dX8_readLine_16 : decode cX8_readLine 16 = .ok (.invokevirtual 83, 3) := by decide +kernel
theorem dX8_readLine_19 : decode cX8_readLine 19 = .ok (.ifCond .eq 9, 3) := by decide +kernel
theorem dX8_readLine_22 : decode cX8_readLine 22 = .ok (.aload_n 0, 1) := by decide +kernel
theorem dX8_readLine_23 : decode cX8_readLine 23 = .ok (.aload_n 1, 1) := by decide +kernel
theorem dX8_readLine_24 : decode cX8_readLine 24 = .ok (.invokevirtual 87, 3) := by decide +kernel
theorem dX8_readLine_27 : decode cX8_readLine 27 = .ok (.ireturn, 1) := by decide +kernel
theorem dX8_readLine_28 : decode cX8_readLine 28 = .ok (.aload_n 0, 1) := by decide +kernel
theorem dX8_readLine_29 : decode cX8_readLine 29 = .ok (.getfield 31, 3) := by decide +kernel
theorem dX8_readLine_32 : decode cX8_readLine 32 = .ok (.ifCond .ne 10, 3) := by decide +kernel
theorem dX8_readLine_35 : decode cX8_readLine 35 = .ok (.aload_n 0, 1) := by decide +kernel
theorem dX8_readLine_36 : decode cX8_readLine 36 = .ok (.bipush 6, 2) := by decide +kernel
theorem dX8_readLine_38 : decode cX8_readLine 38 = .ok (.invokevirtual 77, 3) := by decide +kernel
theorem dX8_readLine_41 : decode cX8_readLine 41 = .ok (.ireturn, 1) := by decide +kernel
theorem dX8_readLine_42 : decode cX8_readLine 42 = .ok (.aload_n 0, 1) := by decide +kernel
theorem dX8_readLine_43 : decode cX8_readLine 43 = .ok (.ldc 90, 2) := by decide +kernel
theorem dX8_readLine_45 : decode cX8_readLine 45 = .ok (.invokevirtual 83, 3) := by decide +kernel
theorem dX8_readLine_48 : decode cX8_readLine 48 = .ok (.ifCond .eq 9, 3) := by decide +kernel
theorem dX8_readLine_51 : decode cX8_readLine 51 = .ok (.aload_n 0, 1) := by decide +kernel
theorem dX8_readLine_52 : decode cX8_readLine 52 = .ok (.aload_n 1, 1) := by decide +kernel
theorem dX8_readLine_53 : decode cX8_readLine 53 = .ok (.invokevirtual 92, 3) := by decide +kernel
theorem dX8_readLine_56 : decode cX8_readLine 56 = .ok (.ireturn, 1) := by decide +kernel
theorem dX8_readLine_57 : decode cX8_readLine 57 = .ok (.aload_n 0, 1) := by decide +kernel
theorem dX8_readLine_58 : decode cX8_readLine 58 = .ok (.ldc 95, 2) := by decide +kernel
theorem dX8_readLine_60 : decode cX8_readLine 60 = .ok (.invokevirtual 83, 3) := by decide +kernel
theorem dX8_readLine_63 : decode cX8_readLine 63 = .ok (.ifCond .eq 13, 3) := by decide +kernel
theorem dX8_readLine_66 : decode cX8_readLine 66 = .ok (.aload_n 0, 1) := by decide +kernel
theorem dX8_readLine_67 : decode cX8_readLine 67 = .ok (.aload_n 1, 1) := by decide +kernel
theorem dX8_readLine_68 : decode cX8_readLine 68 = .ok (.aload_n 1, 1) := by decide +kernel
theorem dX8_readLine_69 : decode cX8_readLine 69 = .ok (.getfield 97, 3) := by decide +kernel
theorem dX8_readLine_72 : decode cX8_readLine 72 = .ok (.invokevirtual 101, 3) := by decide +kernel
theorem dX8_readLine_75 : decode cX8_readLine 75 = .ok (.ireturn, 1) := by decide +kernel
theorem dX8_readLine_76 : decode cX8_readLine 76 = .ok (.aload_n 0, 1) := by decide +kernel
theorem dX8_readLine_77 : decode cX8_readLine 77 = .ok (.ldc 105, 2) := by decide +kernel
theorem dX8_readLine_79 : decode cX8_readLine 79 = .ok (.invokevirtual 83, 3) := by decide +kernel
theorem dX8_readLine_82 : decode cX8_readLine 82 = .ok (.ifCond .eq 13, 3) := by decide +kernel
theorem dX8_readLine_85 : decode cX8_readLine 85 = .ok (.aload_n 0, 1) := by decide +kernel
theorem dX8_readLine_86 : decode cX8_readLine 86 = .ok (.aload_n 1, 1) := by decide +kernel
theorem dX8_readLine_87 : decode cX8_readLine 87 = .ok (.aload_n 1, 1) := by decide +kernel
theorem dX8_readLine_88 : decode cX8_readLine 88 = .ok (.getfield 107, 3) := by decide +kernel
theorem dX8_readLine_91 : decode cX8_readLine 91 = .ok (.invokevirtual 101, 3) := by decide +kernel
theorem dX8_readLine_94 : decode cX8_readLine 94 = .ok (.ireturn, 1) := by decide +kernel
theorem dX8_readLine_95 : decode cX8_readLine 95 = .ok (.aload_n 0, 1) := by decide +kernel
theorem dX8_readLine_96 : decode cX8_readLine 96 = .ok (.ldc 110, 2) := by decide +kernel
theorem dX8_readLine_98 : decode cX8_readLine 98 = .ok (.invokevirtual 83, 3) := by decide +kernel
theorem dX8_readLine_101 : decode cX8_readLine 101 = .ok (.ifCond .eq 9, 3) := by decide +kernel
theorem dX8_readLine_104 : decode cX8_readLine 104 = .ok (.aload_n 0, 1) := by decide +kernel
theorem dX8_readLine_105 : decode cX8_readLine 105 = .ok (.aload_n 1, 1) := by decide +kernel
theorem dX8_readLine_106 : decode cX8_readLine 106 = .ok (.invokevirtual 112, 3) := by decide +kernel
theorem dX8_readLine_109 : decode cX8_readLine 109 = .ok (.ireturn, 1) := by decide +kernel
theorem dX8_readLine_110 : decode cX8_readLine 110 = .ok (.aload_n 0, 1) := by decide +kernel
theorem dX8_readLine_111 : decode cX8_readLine 111 = .ok (.ldc 115, 2) := by decide +kernel
theorem dX8_readLine_113 : decode cX8_readLine 113 = .ok (.invokevirtual 83, 3) := by decide +kernel
theorem dX8_readLine_116 : decode cX8_readLine 116 = .ok (.ifCond .eq 11, 3) := by decide +kernel
theorem dX8_readLine_119 : decode cX8_readLine 119 = .ok (.aload_n 0, 1) := by decide +kernel
theorem dX8_readLine_120 : decode cX8_readLine 120 = .ok (.aload_n 1, 1) := by decide +kernel
theorem dX8_readLine_121 : decode cX8_readLine 121 = .ok (.invokevirtual 117, 3) := by decide +kernel
theorem dX8_readLine_124 : decode cX8_readLine 124 = .ok (.goto 8, 3) := by decide +kernel
theorem dX8_readLine_127 : decode cX8_readLine 127 = .ok (.aload_n 0, 1) := by decide +kernel
theorem dX8_readLine_128 : decode cX8_readLine 128 = .ok (.aload_n 1, 1) := by decide +kernel
theorem dX8_readLine_129 : decode cX8_readLine 129 = .ok (.invokevirtual 120, 3) := by decide +kernel
theorem dX8_readLine_132 : decode cX8_readLine 132 = .ok (.ireturn, 1) := by decide +kernel
theorem dX8_readDuchy_0 : decode cX8_readDuchy 0 = .ok (.aload_n 0, 1) := by decide +kernel
theorem dX8_readDuchy_1 : decode cX8_readDuchy 1 = .ok (.getfield 31, 3) := by decide +kernel
theorem dX8_readDuchy_4 : decode cX8_readDuchy 4 = .ok (.ifCond .eq 9, 3) := by decide +kernel
theorem dX8_readDuchy_7 : decode cX8_readDuchy 7 = .ok (.aload_n 0, 1) := by decide +kernel
theorem dX8_readDuchy_8 : decode cX8_readDuchy 8 = .ok (.iconst 3, 1) := by decide +kernel
theorem dX8_readDuchy_9 : decode cX8_readDuchy 9 = .ok (.invokevirtual 77, 3) := by decide +kernel
theorem dX8_readDuchy_12 : decode cX8_readDuchy 12 = .ok (.ireturn, 1) := by decide +kernel
theorem dX8_readDuchy_13 : decode cX8_readDuchy 13 = .ok (.aload_n 0, 1) := by decide +kernel
theorem dX8_readDuchy_14 : decode cX8_readDuchy 14 = .ok (.iconst 1, 1) := by decide +kernel
theorem dX8_readDuchy_15 : decode cX8_readDuchy 15 = .ok (.putfield 31, 3) := by decide +kernel
theorem dX8_readDuchy_18 : decode cX8_readDuchy 18 = .ok (.aload_n 0, 1) := by decide +kernel
theorem dX8_readDuchy_19 : decode cX8_readDuchy 19 = .ok (.invokevirtual 56, 3) := by decide +kernel
theorem dX8_readDuchy_22 : decode cX8_readDuchy 22 = .ok (.aload_n 0, 1) := by decide +kernel
theorem dX8_readDuchy_23 : decode cX8_readDuchy 23 = .ok (.ldc 123, 2) := by decide +kernel
theorem dX8_readDuchy_25 : decode cX8_readDuchy 25 = .ok (.invokevirtual 125, 3) := by decide +kernel
theorem dX8_readDuchy_28 : decode cX8_readDuchy 28 = .ok (.ifCond .eq 13, 3) := by decide +kernel
theorem dX8_readDuchy_31 : decode cX8_readDuchy 31 = .ok (.aload_n 0, 1) := by decide +kernel
theorem dX8_readDuchy_32 : decode cX8_readDuchy 32 = .ok (.iconst 1, 1) := by decide +kernel
theorem dX8_readDuchy_33 : decode cX8_readDuchy 33 = .ok (.bipush 20, 2) := by decide +kernel
theorem dX8_readDuchy_35 : decode cX8_readDuchy 35 = .ok (.invokevirtual 128, 3) := by decide +kernel
theorem dX8_readDuchy_38 : decode cX8_readDuchy 38 = .ok (.ifCond .ne 5, 3) := by decide +kernel
theorem dX8_readDuchy_41 : decode cX8_readDuchy 41 = .ok (.iconst 0, 1) := by decide +kernel
theorem dX8_readDuchy_42 : decode cX8_readDuchy 42 = .ok (.ireturn, 1) := by decide +kernel
theorem dX8_readDuchy_43 : decode cX8_readDuchy 43 = .ok (.aload_n 1, 1) := by decide +kernel
theorem dX8_readDuchy_44 : decode cX8_readDuchy 44 = .ok (.aload_n 0, 1) := by decide +kernel
theorem dX8_readDuchy_45 : decode cX8_readDuchy 45 = .ok (.getfield 132, 3) := by decide +kernel
theorem dX8_readDuchy_48 : decode cX8_readDuchy 48 = .ok (.putfield 135, 3) := by decide +kernel
theorem dX8_readDuchy_51 : decode cX8_readDuchy 51 = .ok (.aload_n 0, 1) := by decide +kernel
theorem dX8_readDuchy_52 : decode cX8_readDuchy 52 = .ok (.ldc 137, 2) := by decide +kernel
theorem dX8_readDuchy_54 : decode cX8_readDuchy 54 = .ok (.invokevirtual 125, 3) := by decide +kernel
theorem dX8_readDuchy_57 : decode cX8_readDuchy 57 = .ok (.ifCond .eq 13, 3) := by decide +kernel
theorem dX8_readDuchy_60 : decode cX8_readDuchy 60 = .ok (.aload_n 0, 1) := by decide +kernel
theorem dX8_readDuchy_61 : decode cX8_readDuchy 61 = .ok (.iconst 0, 1) := by decide +kernel
theorem dX8_readDuchy_62 : decode cX8_readDuchy 62 = .ok (.bipush 100, 2) := by decide +kernel
theorem dX8_readDuchy_64 : decode cX8_readDuchy 64 = .ok (.invokevirtual 128, 3) := by decide +kernel
theorem dX8_readDuchy_67 : decode cX8_readDuchy 67 = .ok (.ifCond .ne 5, 3) := by decide +kernel
theorem dX8_readDuchy_70 : decode cX8_readDuchy 70 = .ok (.iconst 0, 1) := by decide +kernel
theorem dX8_readDuchy_71 : decode cX8_readDuchy 71 = .ok (.ireturn, 1) := by decide +kernel
theorem dX8_readDuchy_72 : decode cX8_readDuchy 72 = .ok (.aload_n 1, 1) := by decide +kernel
theorem dX8_readDuchy_73 : decode cX8_readDuchy 73 = .ok (.aload_n 0, 1) := by decide +kernel
theorem dX8_readDuchy_74 : decode cX8_readDuchy 74 = .ok (.getfield 132, 3) := by decide +kernel
theorem dX8_readDuchy_77 : decode cX8_readDuchy 77 = .ok (.putfield 139, 3) := by decide +kernel
theorem dX8_readDuchy_80 : decode cX8_readDuchy 80 = .ok (.aload_n 0, 1) := by decide +kernel
theorem dX8_readDuchy_81 : decode cX8_readDuchy 81 = .ok (.ldc 141, 2) := by decide +kernel
theorem dX8_readDuchy_83 : decode cX8_readDuchy 83 = .ok (.invokevirtual 125, 3) := by decide +kernel
theorem dX8_readDuchy_86 : decode cX8_readDuchy 86 = .ok (.ifCond .eq 13, 3) := by decide +kernel
theorem dX8_readDuchy_89 : decode cX8_readDuchy 89 = .ok (.aload_n 0, 1) := by decide +kernel
theorem dX8_readDuchy_90 : decode cX8_readDuchy 90 = .ok (.iconst 0, 1) := by decide +kernel
theorem dX8_readDuchy_91 : decode cX8_readDuchy 91 = .ok (.bipush 100, 2) := by decide +kernel
theorem dX8_readDuchy_93 : decode cX8_readDuchy 93 = .ok (.invokevirtual 128, 3) := by decide +kernel
theorem dX8_readDuchy_96 : decode cX8_readDuchy 96 = .ok (.ifCond .ne 5, 3) := by decide +kernel
theorem dX8_readDuchy_99 : decode cX8_readDuchy 99 = .ok (.iconst 0, 1) := by decide +kernel
theorem dX8_readDuchy_100 : decode cX8_readDuchy 100 = .ok (.ireturn, 1) := by decide +kernel
theorem dX8_readDuchy_101 : decode cX8_readDuchy 101 = .ok (.aload_n 1, 1) := by decide +kernel
theorem dX8_readDuchy_102 : decode cX8_readDuchy 102 = .ok (.aload_n 0, 1) := by decide +kernel
theorem dX8_readDuchy_103 : decode cX8_readDuchy 103 = .ok (.getfield 132, 3) := by decide +kernel
theorem dX8_readDuchy_106 : decode cX8_readDuchy 106 = .ok (.putfield 143, 3) := by decide +kernel
theorem dX8_readDuchy_109 : decode cX8_readDuchy 109 = .ok (.aload_n 0, 1) := by decide +kernel
theorem dX8_readDuchy_110 : decode cX8_readDuchy 110 = .ok (.ldc 145, 2) := by decide +kernel
theorem dX8_readDuchy_112 : decode cX8_readDuchy 112 = .ok (.invokevirtual 125, 3) := by decide +kernel
theorem dX8_readDuchy_115 : decode cX8_readDuchy 115 = .ok (.ifCond .eq 13, 3) := by decide +kernel
theorem dX8_readDuchy_118 : decode cX8_readDuchy 118 = .ok (.aload_n 0, 1) := by decide +kernel
theorem dX8_readDuchy_119 : decode cX8_readDuchy 119 = .ok (.iconst 0, 1) := by decide +kernel
theorem dX8_readDuchy_120 : decode cX8_readDuchy 120 = .ok (.bipush 100, 2) := by decide +kernel
theorem dX8_readDuchy_122 : decode cX8_readDuchy 122 = .ok (.invokevirtual 128, 3) := by decide +kernel
theorem dX8_readDuchy_125 : decode cX8_readDuchy 125 = .ok (.ifCond .ne 5, 3) := by decide +kernel
theorem dX8_readDuchy_128 : decode cX8_readDuchy 128 = .ok (.iconst 0, 1) := by decide +kernel
theorem dX8_readDuchy_129 : decode cX8_readDuchy 129 = .ok (.ireturn, 1) := by decide +kernel
theorem dX8_readDuchy_130 : decode cX8_readDuchy 130 = .ok (.aload_n 1, 1) := by decide +kernel
theorem dX8_readDuchy_131 : decode cX8_readDuchy 131 = .ok (.aload_n 0, 1) := by decide +kernel
theorem dX8_readDuchy_132 : decode cX8_readDuchy 132 = .ok (.getfield 132, 3) := by decide +kernel
theorem dX8_readDuchy_135 : decode cX8_readDuchy 135 = .ok (.putfield 147, 3) := by decide +kernel
theorem dX8_readDuchy_138 : decode cX8_readDuchy 138 = .ok (.iconst 1, 1) := by decide +kernel
theorem dX8_readDuchy_139 : decode cX8_readDuchy 139 = .ok (.ireturn, 1) := by decide +kernel
theorem dX8_readMan_0 : decode cX8_readMan 0 = .ok (.aload_n 1, 1) := by decide +kernel
theorem dX8_readMan_1 : decode cX8_readMan 1 = .ok (.getfield 66, 3) := by decide +kernel
theorem dX8_readMan_4 : decode cX8_readMan 4 = .ok (.istore_n 2, 1) := by decide +kernel
theorem dX8_readMan_5 : decode cX8_readMan 5 = .ok (.iload_n 2, 1) := by decide +kernel
theorem dX8_readMan_6 : decode cX8_readMan 6 = .ok (.iconst 5, 1) := by decide +kernel
theorem dX8_readMan_7 : decode cX8_readMan 7 = .ok (.if_icmp .lt 9, 3) := by decide +kernel
theorem dX8_readMan_10 : decode cX8_readMan 10 = .ok (.aload_n 0, 1) := by decide +kernel
theorem dX8_readMan_11 : decode cX8_readMan 11 = .ok (.iconst 5, 1) := by decide +kernel
theorem dX8_readMan_12 : decode cX8_readMan 12 = .ok (.invokevirtual 77, 3) := by decide +kernel
theorem dX8_readMan_15 : decode cX8_readMan 15 = .ok (.ireturn, 1) := by decide +kernel
theorem dX8_readMan_16 : decode cX8_readMan 16 = .ok (.aload_n 0, 1) := by decide +kernel
theorem dX8_readMan_17 : decode cX8_readMan 17 = .ok (.invokevirtual 56, 3) := by decide +kernel
theorem dX8_readMan_20 : decode cX8_readMan 20 = .ok (.aload_n 0, 1) := by decide +kernel
theorem dX8_readMan_21 : decode cX8_readMan 21 = .ok (.aload_n 1, 1) := by decide +kernel
theorem dX8_readMan_22 : decode cX8_readMan 22 = .ok (.invokevirtual 149, 3) := by decide +kernel
theorem dX8_readMan_25 : decode cX8_readMan 25 = .ok (.ifCond .ne 5, 3) := by decide +kernel
theorem dX8_readMan_28 : decode cX8_readMan 28 = .ok (.iconst 0, 1) := by decide +kernel
theorem dX8_readMan_29 : decode cX8_readMan 29 = .ok (.ireturn, 1) := by decide +kernel
theorem dX8_readMan_30 : decode cX8_readMan 30 = .ok (.aload_n 0, 1) := by decide +kernel
theorem dX8_readMan_31 : decode cX8_readMan 31 = .ok (.getfield 15, 3) := by decide +kernel
theorem dX8_readMan_34 : decode cX8_readMan 34 = .ok (.iload_n 2, 1) := by decide +kernel
theorem dX8_readMan_35 : decode cX8_readMan 35 = .ok (.aload_n 0, 1) := by decide +kernel
theorem dX8_readMan_36 : decode cX8_readMan 36 = .ok (.invokevirtual 152, 3) := by decide +kernel
theorem dX8_readMan_39 : decode cX8_readMan 39 = .ok (.lastore, 1) := by decide +kernel
theorem dX8_readMan_40 : decode cX8_readMan 40 = .ok (.aload_n 0, 1) := by decide +kernel
theorem dX8_readMan_41 : decode cX8_readMan 41 = .ok (.invokevirtual 56, 3) := by decide +kernel
theorem dX8_readMan_44 : decode cX8_readMan 44 = .ok (.aload_n 0, 1) := by decide +kernel
theorem dX8_readMan_45 : decode cX8_readMan 45 = .ok (.invokevirtual 156, 3) := by decide +kernel
theorem dX8_readMan_48 : decode cX8_readMan 48 = .ok (.istore_n 3, 1) := by decide +kernel
theorem dX8_readMan_49 : decode cX8_readMan 49 = .ok (.iload_n 3, 1) := by decide +kernel
theorem dX8_readMan_50 : decode cX8_readMan 50 = .ok (.iconst (-1), 1) := by decide +kernel
theorem dX8_readMan_51 : decode cX8_readMan 51 = .ok (.if_icmp .ne 9, 3) := by decide +kernel
theorem dX8_readMan_54 : decode cX8_readMan 54 = .ok (.aload_n 0, 1) := by decide +kernel
theorem dX8_readMan_55 : decode cX8_readMan 55 = .ok (.iconst 1, 1) := by decide +kernel
theorem dX8_readMan_56 : decode cX8_readMan 56 = .ok (.invokevirtual 77, 3) := by decide +kernel
theorem dX8_readMan_59 : decode cX8_readMan 59 = .ok (.ireturn, 1) := by decide +kernel
theorem dX8_readMan_60 : decode cX8_readMan 60 = .ok (.aload_n 0, 1) := by decide +kernel
theorem dX8_readMan_61 : decode cX8_readMan 61 = .ok (.invokevirtual 56, 3) := by decide +kernel
theorem dX8_readMan_64 : decode cX8_readMan 64 = .ok (.aload_n 0, 1) := by decide +kernel
theorem dX8_readMan_65 : decode cX8_readMan 65 = .ok (.ldc 160, 2) := by decide +kernel
theorem dX8_readMan_67 : decode cX8_readMan 67 = .ok (.invokevirtual 125, 3) := by decide +kernel
theorem dX8_readMan_70 : decode cX8_readMan 70 = .ok (.ifCond .eq 13, 3) := by decide +kernel
theorem dX8_readMan_73 : decode cX8_readMan 73 = .ok (.aload_n 0, 1) := by decide +kernel
theorem dX8_readMan_74 : decode cX8_readMan 74 = .ok (.iconst 0, 1) := by decide +kernel
theorem dX8_readMan_75 : decode cX8_readMan 75 = .ok (.bipush 99, 2) := by decide +kernel
theorem dX8_readMan_77 : decode cX8_readMan 77 = .ok (.invokevirtual 128, 3) := by decide +kernel
theorem dX8_readMan_80 : decode cX8_readMan 80 = .ok (.ifCond .ne 5, 3) := by decide +kernel
theorem dX8_readMan_83 : decode cX8_readMan 83 = .ok (.iconst 0, 1) := by decide +kernel
theorem dX8_readMan_84 : decode cX8_readMan 84 = .ok (.ireturn, 1) := by decide +kernel
theorem dX8_readMan_85 : decode cX8_readMan 85 = .ok (.aload_n 1, 1) := by decide +kernel
theorem dX8_readMan_86 : decode cX8_readMan 86 = .ok (.getfield 162, 3) := by decide +kernel
theorem dX8_readMan_89 : decode cX8_readMan 89 = .ok (.iload_n 2, 1) := by decide +kernel
theorem dX8_readMan_90 : decode cX8_readMan 90 = .ok (.aload_n 0, 1) := by decide +kernel
theorem dX8_readMan_91 : decode cX8_readMan 91 = .ok (.getfield 132, 3) := by decide +kernel
theorem dX8_readMan_94 : decode cX8_readMan 94 = .ok (.iastore, 1) := by decide +kernel
theorem dX8_readMan_95 : decode cX8_readMan 95 = .ok (.aload_n 0, 1) := by decide +kernel
theorem dX8_readMan_96 : decode cX8_readMan 96 = .ok (.ldc 165, 2) := by decide +kernel
theorem dX8_readMan_98 : decode cX8_readMan 98 = .ok (.invokevirtual 125, 3) := by decide +kernel
theorem dX8_readMan_101 : decode cX8_readMan 101 = .ok (.ifCond .eq 13, 3) := by decide +kernel
theorem dX8_readMan_104 : decode cX8_readMan 104 = .ok (.aload_n 0, 1) := by decide +kernel
theorem dX8_readMan_105 : decode cX8_readMan 105 = .ok (.iconst 0, 1) := by decide +kernel
theorem dX8_readMan_106 : decode cX8_readMan 106 = .ok (.bipush 9, 2) := by decide +kernel
theorem dX8_readMan_108 : decode cX8_readMan 108 = .ok (.invokevirtual 128, 3) := by decide +kernel
theorem dX8_readMan_111 : decode cX8_readMan 111 = .ok (.ifCond .ne 5, 3) := by decide +kernel
theorem dX8_readMan_114 : decode cX8_readMan 114 = .ok (.iconst 0, 1) := by decide +kernel
theorem dX8_readMan_115 : decode cX8_readMan 115 = .ok (.ireturn, 1) := by decide +kernel
theorem dX8_readMan_116 : decode cX8_readMan 116 = .ok (.aload_n 1, 1) := by decide +kernel
theorem dX8_readMan_117 : decode cX8_readMan 117 = .ok (.getfield 167, 3) := by decide +kernel
theorem dX8_readMan_120 : decode cX8_readMan 120 = .ok (.iload_n 2, 1) := by decide +kernel
theorem dX8_readMan_121 : decode cX8_readMan 121 = .ok (.aload_n 0, 1) := by decide +kernel
theorem dX8_readMan_122 : decode cX8_readMan 122 = .ok (.getfield 132, 3) := by decide +kernel
theorem dX8_readMan_125 : decode cX8_readMan 125 = .ok (.iastore, 1) := by decide +kernel
theorem dX8_readMan_126 : decode cX8_readMan 126 = .ok (.aload_n 1, 1) := by decide +kernel
theorem dX8_readMan_127 : decode cX8_readMan 127 = .ok (.getfield 169, 3) := by decide +kernel
theorem dX8_readMan_130 : decode cX8_readMan 130 = .ok (.iload_n 2, 1) := by decide +kernel
theorem dX8_readMan_131 : decode cX8_readMan 131 = .ok (.iload_n 3, 1) := by decide +kernel
theorem dX8_readMan_132 : decode cX8_readMan 132 = .ok (.iastore, 1) := by decide +kernel
theorem dX8_readMan_133 : decode cX8_readMan 133 = .ok (.aload_n 1, 1) := by decide +kernel
theorem dX8_readMan_134 : decode cX8_readMan 134 = .ok (.getfield 172, 3) := by decide +kernel
theorem dX8_readMan_137 : decode cX8_readMan 137 = .ok (.iload_n 2, 1) := by decide +kernel
theorem dX8_readMan_138 : decode cX8_readMan 138 = .ok (.iconst (-1), 1) := by decide +kernel
theorem dX8_readMan_139 : decode cX8_readMan 139 = .ok (.iastore, 1) := by decide +kernel
theorem dX8_readMan_140 : decode cX8_readMan 140 = .ok (.aload_n 1, 1) := by decide +kernel
theorem dX8_readMan_141 : decode cX8_readMan 141 = .ok (.iload_n 2, 1) := by decide +kernel
theorem dX8_readMan_142 : decode cX8_readMan 142 = .ok (.iconst 1, 1) := by decide +kernel
theorem dX8_readMan_143 : decode cX8_readMan 143 = .ok (.iadd, 1) := by decide +kernel
theorem dX8_readMan_144 : decode cX8_readMan 144 = .ok (.putfield 66, 3) := by decide +kernel
theorem dX8_readMan_147 : decode cX8_readMan 147 = .ok (.iconst 1, 1) := by decide +kernel
theorem dX8_readMan_148 : decode cX8_readMan 148 = .ok (.ireturn, 1) := by decide +kernel
theorem dX8_readClaim_0 : decode cX8_readClaim 0 = .ok (.aload_n 2, 1) := by decide +kernel
theorem dX8_readClaim_1 : decode cX8_readClaim 1 = .ok (.invokevirtual 175, 3) := by decide +kernel
theorem dX8_readClaim_4 : decode cX8_readClaim 4 = .ok (.ifCond .eq 9, 3) := by decide +kernel
theorem dX8_readClaim_7 : decode cX8_readClaim 7 = .ok (.aload_n 0, 1) := by decide +kernel
theorem dX8_readClaim_8 : decode cX8_readClaim 8 = .ok (.iconst 5, 1) := by decide +kernel
theorem dX8_readClaim_9 : decode cX8_readClaim 9 = .ok (.invokevirtual 77, 3) := by decide +kernel
theorem dX8_readClaim_12 : decode cX8_readClaim 12 = .ok (.ireturn, 1) := by decide +kernel
theorem dX8_readClaim_13 : decode cX8_readClaim 13 = .ok (.aload_n 0, 1) := by decide +kernel
theorem dX8_readClaim_14 : decode cX8_readClaim 14 = .ok (.invokevirtual 56, 3) := by decide +kernel
theorem dX8_readClaim_17 : decode cX8_readClaim 17 = .ok (.aload_n 0, 1) := by decide +kernel
theorem dX8_readClaim_18 : decode cX8_readClaim 18 = .ok (.aload_n 1, 1) := by decide +kernel
theorem dX8_readClaim_19 : decode cX8_readClaim 19 = .ok (.invokevirtual 180, 3) := by decide +kernel
theorem dX8_readClaim_22 : decode cX8_readClaim 22 = .ok (.istore_n 3, 1) := by decide +kernel
theorem dX8_readClaim_23 : decode cX8_readClaim 23 = .ok (.iload_n 3, 1) := by decide +kernel
theorem dX8_readClaim_24 : decode cX8_readClaim 24 = .ok (.iconst (-1), 1) := by decide +kernel
theorem dX8_readClaim_25 : decode cX8_readClaim 25 = .ok (.if_icmp .ne 5, 3) := by decide +kernel
theorem dX8_readClaim_28 : decode cX8_readClaim 28 = .ok (.iconst 0, 1) := by decide +kernel
theorem dX8_readClaim_29 : decode cX8_readClaim 29 = .ok (.ireturn, 1) := by decide +kernel
theorem dX8_readClaim_30 : decode cX8_readClaim 30 = .ok (.aload_n 0, 1) := by decide +kernel
theorem dX8_readClaim_31 : decode cX8_readClaim 31 = .ok (.invokevirtual 56, 3) := by decide +kernel
theorem dX8_readClaim_34 : decode cX8_readClaim 34 = .ok (.aload_n 0, 1) := by decide +kernel
theorem dX8_readClaim_35 : decode cX8_readClaim 35 = .ok (.aload_n 1, 1) := by decide +kernel
theorem dX8_readClaim_36 : decode cX8_readClaim 36 = .ok (.invokevirtual 180, 3) := by decide +kernel
theorem dX8_readClaim_39 : decode cX8_readClaim 39 = .ok (.istore 4, 2) := by decide +kernel
theorem dX8_readClaim_41 : decode cX8_readClaim 41 = .ok (.iload 4, 2) := by decide +kernel
theorem dX8_readClaim_43 : decode cX8_readClaim 43 = .ok (.iconst (-1), 1) := by decide +kernel
theorem dX8_readClaim_44 : decode cX8_readClaim 44 = .ok (.if_icmp .ne 5, 3) := by decide +kernel
theorem dX8_readClaim_47 : decode cX8_readClaim 47 = .ok (.iconst 0, 1) := by decide +kernel
theorem dX8_readClaim_48 : decode cX8_readClaim 48 = .ok (.ireturn, 1) := by decide +kernel
theorem dX8_readClaim_49 : decode cX8_readClaim 49 = .ok (.iload 4, 2) := by decide +kernel
theorem dX8_readClaim_51 : decode cX8_readClaim 51 = .ok (.iload_n 3, 1) := by decide +kernel
theorem dX8_readClaim_52 : decode cX8_readClaim 52 = .ok (.if_icmp .ne 9, 3) := by decide +kernel
theorem dX8_readClaim_55 : decode cX8_readClaim 55 = .ok (.aload_n 0, 1) := by decide +kernel
theorem dX8_readClaim_56 : decode cX8_readClaim 56 = .ok (.iconst 3, 1) := by decide +kernel
theorem dX8_readClaim_57 : decode cX8_readClaim 57 = .ok (.invokevirtual 77, 3) := by decide +kernel
theorem dX8_readClaim_60 : decode cX8_readClaim 60 = .ok (.ireturn, 1) := by decide +kernel
theorem dX8_readClaim_61 : decode cX8_readClaim 61 = .ok (.aload_n 0, 1) := by decide +kernel
theorem dX8_readClaim_62 : decode cX8_readClaim 62 = .ok (.invokevirtual 56, 3) := by decide +kernel
theorem dX8_readClaim_65 : decode cX8_readClaim 65 = .ok (.aload_n 0, 1) := by decide +kernel
theorem dX8_readClaim_66 : decode cX8_readClaim 66 = .ok (.iconst 1, 1) := by decide +kernel
theorem dX8_readClaim_67 : decode cX8_readClaim 67 = .ok (.bipush 99, 2) := by decide +kernel
theorem dX8_readClaim_69 : decode cX8_readClaim 69 = .ok (.invokevirtual 128, 3) := by decide +kernel
theorem dX8_readClaim_72 : decode cX8_readClaim 72 = .ok (.ifCond .ne 5, 3) := by decide +kernel
theorem dX8_readClaim_75 : decode cX8_readClaim 75 = .ok (.iconst 0, 1) := by decide +kernel
theorem dX8_readClaim_76 : decode cX8_readClaim 76 = .ok (.ireturn, 1) := by decide +kernel
theorem dX8_readClaim_77 : decode cX8_readClaim 77 = .ok (.aload_n 0, 1) := by decide +kernel
theorem dX8_readClaim_78 : decode cX8_readClaim 78 = .ok (.getfield 132, 3) := by decide +kernel
theorem dX8_readClaim_81 : decode cX8_readClaim 81 = .ok (.istore 5, 2) := by decide +kernel
theorem dX8_readClaim_83 : decode cX8_readClaim 83 = .ok (.aload_n 0, 1) := by decide +kernel
theorem dX8_readClaim_84 : decode cX8_readClaim 84 = .ok (.ldc 184, 2) := by decide +kernel
theorem dX8_readClaim_86 : decode cX8_readClaim 86 = .ok (.invokevirtual 125, 3) := by decide +kernel
theorem dX8_readClaim_89 : decode cX8_readClaim 89 = .ok (.ifCond .eq 13, 3) := by decide +kernel
theorem dX8_readClaim_92 : decode cX8_readClaim 92 = .ok (.aload_n 0, 1) := by decide +kernel
theorem dX8_readClaim_93 : decode cX8_readClaim 93 = .ok (.iconst 0, 1) := by decide +kernel
theorem dX8_readClaim_94 : decode cX8_readClaim 94 = .ok (.bipush 9, 2) := by decide +kernel
theorem dX8_readClaim_96 : decode cX8_readClaim 96 = .ok (.invokevirtual 128, 3) := by decide +kernel
theorem dX8_readClaim_99 : decode cX8_readClaim 99 = .ok (.ifCond .ne 5, 3) := by decide +kernel
theorem dX8_readClaim_102 : decode cX8_readClaim 102 = .ok (.iconst 0, 1) := by decide +kernel
theorem dX8_readClaim_103 : decode cX8_readClaim 103 = .ok (.ireturn, 1) := by decide +kernel
theorem dX8_readClaim_104 : decode cX8_readClaim 104 = .ok (.aload_n 2, 1) := by decide +kernel
theorem dX8_readClaim_105 : decode cX8_readClaim 105 = .ok (.getfield 186, 3) := by decide +kernel
theorem dX8_readClaim_108 : decode cX8_readClaim 108 = .ok (.istore 6, 2) := by decide +kernel
theorem dX8_readClaim_110 : decode cX8_readClaim 110 = .ok (.aload_n 2, 1) := by decide +kernel
theorem dX8_readClaim_111 : decode cX8_readClaim 111 = .ok (.getfield 189, 3) := by decide +kernel
theorem dX8_readClaim_114 : decode cX8_readClaim 114 = .ok (.iload 6, 2) := by decide +kernel
theorem dX8_readClaim_116 : decode cX8_readClaim 116 = .ok (.iload_n 3, 1) := by decide +kernel
theorem dX8_readClaim_117 : decode cX8_readClaim 117 = .ok (.iastore, 1) := by decide +kernel
theorem dX8_readClaim_118 : decode cX8_readClaim 118 = .ok (.aload_n 2, 1) := by decide +kernel
theorem dX8_readClaim_119 : decode cX8_readClaim 119 = .ok (.getfield 192, 3) := by decide +kernel
theorem dX8_readClaim_122 : decode cX8_readClaim 122 = .ok (.iload 6, 2) := by decide +kernel
theorem dX8_readClaim_124 : decode cX8_readClaim 124 = .ok (.iload 4, 2) := by decide +kernel
theorem dX8_readClaim_126 : decode cX8_readClaim 126 = .ok (.iastore, 1) := by decide +kernel
theorem dX8_readClaim_127 : decode cX8_readClaim 127 = .ok (.aload_n 2, 1) := by decide +kernel
theorem dX8_readClaim_128 : decode cX8_readClaim 128 = .ok (.getfield 195, 3) := by decide +kernel
theorem dX8_readClaim_131 : decode cX8_readClaim 131 = .ok (.iload 6, 2) := by decide +kernel
theorem dX8_readClaim_133 : decode cX8_readClaim 133 = .ok (.iload 5, 2) := by decide +kernel
theorem dX8_readClaim_135 : decode cX8_readClaim 135 = .ok (.iastore, 1) := by decide +kernel
theorem dX8_readClaim_136 : decode cX8_readClaim 136 = .ok (.aload_n 2, 1) := by decide +kernel
theorem dX8_readClaim_137 : decode cX8_readClaim 137 = .ok (.getfield 196, 3) := by decide +kernel
theorem dX8_readClaim_140 : decode cX8_readClaim 140 = .ok (.iload 6, 2) := by decide +kernel
theorem dX8_readClaim_142 : decode cX8_readClaim 142 = .ok (.aload_n 0, 1) := by decide +kernel
theorem dX8_readClaim_143 : decode cX8_readClaim 143 = .ok (.getfield 132, 3) := by decide +kernel
theorem dX8_readClaim_146 : decode cX8_readClaim 146 = .ok (.iastore, 1) := by decide +kernel
theorem dX8_readClaim_147 : decode cX8_readClaim 147 = .ok (.aload_n 2, 1) := by decide +kernel
theorem dX8_readClaim_148 : decode cX8_readClaim 148 = .ok (.iload 6, 2) := by decide +kernel
theorem dX8_readClaim_150 : decode cX8_readClaim 150 = .ok (.iconst 1, 1) := by decide +kernel
theorem dX8_readClaim_151 : decode cX8_readClaim 151 = .ok (.iadd, 1) := by decide +kernel
theorem dX8_readClaim_152 : decode cX8_readClaim 152 = .ok (.putfield 186, 3) := by decide +kernel
theorem dX8_readClaim_155 : decode cX8_readClaim 155 = .ok (.iconst 1, 1) := by decide +kernel
theorem dX8_readClaim_156 : decode cX8_readClaim 156 = .ok (.ireturn, 1) := by decide +kernel
theorem dX8_readDoor_0 : decode cX8_readDoor 0 = .ok (.aload_n 1, 1) := by decide +kernel
theorem dX8_readDoor_1 : decode cX8_readDoor 1 = .ok (.getfield 198, 3) := by decide +kernel
theorem dX8_readDoor_4 : decode cX8_readDoor 4 = .ok (.istore_n 2, 1) := by decide +kernel
theorem dX8_readDoor_5 : decode cX8_readDoor 5 = .ok (.iload_n 2, 1) := by decide +kernel
theorem dX8_readDoor_6 : decode cX8_readDoor 6 = .ok (.iconst 4, 1) := by decide +kernel
theorem dX8_readDoor_7 : decode cX8_readDoor 7 = .ok (.if_icmp .lt 9, 3) := by decide +kernel
theorem dX8_readDoor_10 : decode cX8_readDoor 10 = .ok (.aload_n 0, 1) := by decide +kernel
theorem dX8_readDoor_11 : decode cX8_readDoor 11 = .ok (.iconst 5, 1) := by decide +kernel
theorem dX8_readDoor_12 : decode cX8_readDoor 12 = .ok (.invokevirtual 77, 3) := by decide +kernel
theorem dX8_readDoor_15 : decode cX8_readDoor 15 = .ok (.ireturn, 1) := by decide +kernel
theorem dX8_readDoor_16 : decode cX8_readDoor 16 = .ok (.aload_n 0, 1) := by decide +kernel
theorem dX8_readDoor_17 : decode cX8_readDoor 17 = .ok (.invokevirtual 56, 3) := by decide +kernel
theorem dX8_readDoor_20 : decode cX8_readDoor 20 = .ok (.aload_n 0, 1) := by decide +kernel
theorem dX8_readDoor_21 : decode cX8_readDoor 21 = .ok (.aload_n 1, 1) := by decide +kernel
theorem dX8_readDoor_22 : decode cX8_readDoor 22 = .ok (.invokevirtual 149, 3) := by decide +kernel
theorem dX8_readDoor_25 : decode cX8_readDoor 25 = .ok (.ifCond .ne 5, 3) := by decide +kernel
theorem dX8_readDoor_28 : decode cX8_readDoor 28 = .ok (.iconst 0, 1) := by decide +kernel
theorem dX8_readDoor_29 : decode cX8_readDoor 29 = .ok (.ireturn, 1) := by decide +kernel
theorem dX8_readDoor_30 : decode cX8_readDoor 30 = .ok (.aload_n 0, 1) := by decide +kernel
theorem dX8_readDoor_31 : decode cX8_readDoor 31 = .ok (.getfield 19, 3) := by decide +kernel
theorem dX8_readDoor_34 : decode cX8_readDoor 34 = .ok (.iload_n 2, 1) := by decide +kernel
theorem dX8_readDoor_35 : decode cX8_readDoor 35 = .ok (.aload_n 0, 1) := by decide +kernel
theorem dX8_readDoor_36 : decode cX8_readDoor 36 = .ok (.invokevirtual 152, 3) := by decide +kernel
theorem dX8_readDoor_39 : decode cX8_readDoor 39 = .ok (.lastore, 1) := by decide +kernel
theorem dX8_readDoor_40 : decode cX8_readDoor 40 = .ok (.aload_n 0, 1) := by decide +kernel
theorem dX8_readDoor_41 : decode cX8_readDoor 41 = .ok (.invokevirtual 56, 3) := by decide +kernel
theorem dX8_readDoor_44 : decode cX8_readDoor 44 = .ok (.aload_n 0, 1) := by decide +kernel
theorem dX8_readDoor_45 : decode cX8_readDoor 45 = .ok (.ldc 201, 2) := by decide +kernel
theorem dX8_readDoor_47 : decode cX8_readDoor 47 = .ok (.invokevirtual 125, 3) := by decide +kernel
theorem dX8_readDoor_50 : decode cX8_readDoor 50 = .ok (.ifCond .eq 13, 3) := by decide +kernel
theorem dX8_readDoor_53 : decode cX8_readDoor 53 = .ok (.aload_n 0, 1) := by decide +kernel
theorem dX8_readDoor_54 : decode cX8_readDoor 54 = .ok (.iconst 0, 1) := by decide +kernel
theorem dX8_readDoor_55 : decode cX8_readDoor 55 = .ok (.bipush 40, 2) := by decide +kernel
theorem dX8_readDoor_57 : decode cX8_readDoor 57 = .ok (.invokevirtual 128, 3) := by decide +kernel
theorem dX8_readDoor_60 : decode cX8_readDoor 60 = .ok (.ifCond .ne 5, 3) := by decide +kernel
theorem dX8_readDoor_63 : decode cX8_readDoor 63 = .ok (.iconst 0, 1) := by decide +kernel
theorem dX8_readDoor_64 : decode cX8_readDoor 64 = .ok (.ireturn, 1) := by decide +kernel
theorem dX8_readDoor_65 : decode cX8_readDoor 65 = .ok (.aload_n 1, 1) := by decide +kernel
theorem dX8_readDoor_66 : decode cX8_readDoor 66 = .ok (.getfield 203, 3) := by decide +kernel
theorem dX8_readDoor_69 : decode cX8_readDoor 69 = .ok (.iload_n 2, 1) := by decide +kernel
theorem dX8_readDoor_70 : decode cX8_readDoor 70 = .ok (.aload_n 0, 1) := by decide +kernel
theorem dX8_readDoor_71 : decode cX8_readDoor 71 = .ok (.getfield 132, 3) := by decide +kernel
theorem dX8_readDoor_74 : decode cX8_readDoor 74 = .ok (.iastore, 1) := by decide +kernel
theorem dX8_readDoor_75 : decode cX8_readDoor 75 = .ok (.aload_n 1, 1) := by decide +kernel
theorem dX8_readDoor_76 : decode cX8_readDoor 76 = .ok (.iload_n 2, 1) := by decide +kernel
theorem dX8_readDoor_77 : decode cX8_readDoor 77 = .ok (.iconst 1, 1) := by decide +kernel
theorem dX8_readDoor_78 : decode cX8_readDoor 78 = .ok (.iadd, 1) := by decide +kernel
theorem dX8_readDoor_79 : decode cX8_readDoor 79 = .ok (.putfield 198, 3) := by decide +kernel
theorem dX8_readDoor_82 : decode cX8_readDoor 82 = .ok (.iconst 1, 1) := by decide +kernel
theorem dX8_readDoor_83 : decode cX8_readDoor 83 = .ok (.ireturn, 1) := by decide +kernel
theorem dX8_readInvited_0 : decode cX8_readInvited 0 = .ok (.aload_n 0, 1) := by decide +kernel
theorem dX8_readInvited_1 : decode cX8_readInvited 1 = .ok (.invokevirtual 56, 3) := by decide +kernel
theorem dX8_readInvited_4 : decode cX8_readInvited 4 = .ok (.aload_n 0, 1) := by decide +kernel
theorem dX8_readInvited_5 : decode cX8_readInvited 5 = .ok (.aload_n 1, 1) := by decide +kernel
theorem dX8_readInvited_6 : decode cX8_readInvited 6 = .ok (.invokevirtual 180, 3) := by decide +kernel
theorem dX8_readInvited_9 : decode cX8_readInvited 9 = .ok (.istore_n 2, 1) := by decide +kernel
theorem dX8_readInvited_10 : decode cX8_readInvited 10 = .ok (.iload_n 2, 1) := by decide +kernel
theorem dX8_readInvited_11 : decode cX8_readInvited 11 = .ok (.iconst (-1), 1) := by decide +kernel
theorem dX8_readInvited_12 : decode cX8_readInvited 12 = .ok (.if_icmp .ne 5, 3) := by decide +kernel
theorem dX8_readInvited_15 : decode cX8_readInvited 15 = .ok (.iconst 0, 1) := by decide +kernel
theorem dX8_readInvited_16 : decode cX8_readInvited 16 = .ok (.ireturn, 1) := by decide +kernel
theorem dX8_readInvited_17 : decode cX8_readInvited 17 = .ok (.aload_n 1, 1) := by decide +kernel
theorem dX8_readInvited_18 : decode cX8_readInvited 18 = .ok (.getfield 172, 3) := by decide +kernel
theorem dX8_readInvited_21 : decode cX8_readInvited 21 = .ok (.iload_n 2, 1) := by decide +kernel
theorem dX8_readInvited_22 : decode cX8_readInvited 22 = .ok (.iaload, 1) := by decide +kernel
theorem dX8_readInvited_23 : decode cX8_readInvited 23 = .ok (.iconst (-1), 1) := by decide +kernel
theorem dX8_readInvited_24 : decode cX8_readInvited 24 = .ok (.if_icmp .eq 9, 3) := by decide +kernel
theorem dX8_readInvited_27 : decode cX8_readInvited 27 = .ok (.aload_n 0, 1) := by decide +kernel
theorem dX8_readInvited_28 : decode cX8_readInvited 28 = .ok (.iconst 3, 1) := by decide +kernel
theorem dX8_readInvited_29 : decode cX8_readInvited 29 = .ok (.invokevirtual 77, 3) := by decide +kernel
theorem dX8_readInvited_32 : decode cX8_readInvited 32 = .ok (.ireturn, 1) := by decide +kernel
theorem dX8_readInvited_33 : decode cX8_readInvited 33 = .ok (.aload_n 0, 1) := by decide +kernel
theorem dX8_readInvited_34 : decode cX8_readInvited 34 = .ok (.invokevirtual 56, 3) := by decide +kernel
theorem dX8_readInvited_37 : decode cX8_readInvited 37 = .ok (.aload_n 0, 1) := by decide +kernel
theorem dX8_readInvited_38 : decode cX8_readInvited 38 = .ok (.getfield 63, 3) := by decide +kernel
theorem dX8_readInvited_41 : decode cX8_readInvited 41 = .ok (.iconst 1, 1) := by decide +kernel
theorem dX8_readInvited_42 : decode cX8_readInvited 42 = .ok (.if_icmp .ne 10, 3) := by decide +kernel
theorem dX8_readInvited_45 : decode cX8_readInvited 45 = .ok (.aload_n 0, 1) := by decide +kernel
theorem dX8_readInvited_46 : decode cX8_readInvited 46 = .ok (.invokevirtual 73, 3) := by decide +kernel
theorem dX8_readInvited_49 : decode cX8_readInvited 49 = .ok (.ifCond .eq 9, 3) := by decide +kernel
theorem dX8_readInvited_52 : decode cX8_readInvited 52 = .ok (.aload_n 0, 1) := by decide +kernel
theorem dX8_readInvited_53 : decode cX8_readInvited 53 = .ok (.iconst 1, 1) := by decide +kernel
theorem dX8_readInvited_54 : decode cX8_readInvited 54 = .ok (.invokevirtual 77, 3) := by decide +kernel
theorem dX8_readInvited_57 : decode cX8_readInvited 57 = .ok (.ireturn, 1) := by decide +kernel
theorem dX8_readInvited_58 : decode cX8_readInvited 58 = .ok (.aload_n 0, 1) := by decide +kernel
theorem dX8_readInvited_59 : decode cX8_readInvited 59 = .ok (.getfield 19, 3) := by decide +kernel
theorem dX8_readInvited_62 : decode cX8_readInvited 62 = .ok (.aload_n 1, 1) := by decide +kernel
theorem dX8_readInvited_63 : decode cX8_readInvited 63 = .ok (.getfield 198, 3) := by decide +kernel
theorem dX8_readInvited_66 : decode cX8_readInvited 66 = .ok (.aload_n 0, 1) := by decide +kernel
theorem dX8_readInvited_67 : decode cX8_readInvited 67 = .ok (.invokevirtual 152, 3) := by decide +kernel
theorem dX8_readInvited_70 : decode cX8_readInvited 70 = .ok (.invokestatic 205, 3) := by decide +kernel
theorem dX8_readInvited_73 : decode cX8_readInvited 73 = .ok (.istore_n 3, 1) := by decide +kernel
theorem dX8_readInvited_74 : decode cX8_readInvited 74 = .ok (.iload_n 3, 1) := by decide +kernel
theorem dX8_readInvited_75 : decode cX8_readInvited 75 = .ok (.iconst (-1), 1) := by decide +kernel
theorem dX8_readInvited_76 : decode cX8_readInvited 76 = .ok (.if_icmp .ne 9, 3) := by decide +kernel
theorem dX8_readInvited_79 : decode cX8_readInvited 79 = .ok (.aload_n 0, 1) := by decide +kernel
theorem dX8_readInvited_80 : decode cX8_readInvited 80 = .ok (.iconst 2, 1) := by decide +kernel
theorem dX8_readInvited_81 : decode cX8_readInvited 81 = .ok (.invokevirtual 77, 3) := by decide +kernel
theorem dX8_readInvited_84 : decode cX8_readInvited 84 = .ok (.ireturn, 1) := by decide +kernel
theorem dX8_readInvited_85 : decode cX8_readInvited 85 = .ok (.aload_n 1, 1) := by decide +kernel
theorem dX8_readInvited_86 : decode cX8_readInvited 86 = .ok (.getfield 172, 3) := by decide +kernel
theorem dX8_readInvited_89 : decode cX8_readInvited 89 = .ok (.iload_n 2, 1) := by decide +kernel
theorem dX8_readInvited_90 : decode cX8_readInvited 90 = .ok (.iload_n 3, 1) := by decide +kernel
theorem dX8_readInvited_91 : decode cX8_readInvited 91 = .ok (.iastore, 1) := by decide +kernel
theorem dX8_readInvited_92 : decode cX8_readInvited 92 = .ok (.aload_n 0, 1) := by decide +kernel
theorem dX8_readInvited_93 : decode cX8_readInvited 93 = .ok (.invokevirtual 56, 3) := by decide +kernel
theorem dX8_readInvited_96 : decode cX8_readInvited 96 = .ok (.iconst 1, 1) := by decide +kernel
theorem dX8_readInvited_97 : decode cX8_readInvited 97 = .ok (.ireturn, 1) := by decide +kernel
theorem dX8_readReading_0 : decode cX8_readReading 0 = .ok (.aload_n 1, 1) := by decide +kernel
theorem dX8_readReading_1 : decode cX8_readReading 1 = .ok (.getfield 209, 3) := by decide +kernel
theorem dX8_readReading_4 : decode cX8_readReading 4 = .ok (.istore_n 2, 1) := by decide +kernel
theorem dX8_readReading_5 : decode cX8_readReading 5 = .ok (.iload_n 2, 1) := by decide +kernel
theorem dX8_readReading_6 : decode cX8_readReading 6 = .ok (.iconst 4, 1) := by decide +kernel
theorem dX8_readReading_7 : decode cX8_readReading 7 = .ok (.if_icmp .lt 9, 3) := by decide +kernel
theorem dX8_readReading_10 : decode cX8_readReading 10 = .ok (.aload_n 0, 1) := by decide +kernel
theorem dX8_readReading_11 : decode cX8_readReading 11 = .ok (.iconst 5, 1) := by decide +kernel
theorem dX8_readReading_12 : decode cX8_readReading 12 = .ok (.invokevirtual 77, 3) := by decide +kernel
theorem dX8_readReading_15 : decode cX8_readReading 15 = .ok (.ireturn, 1) := by decide +kernel
theorem dX8_readReading_16 : decode cX8_readReading 16 = .ok (.aload_n 0, 1) := by decide +kernel
theorem dX8_readReading_17 : decode cX8_readReading 17 = .ok (.invokevirtual 56, 3) := by decide +kernel
theorem dX8_readReading_20 : decode cX8_readReading 20 = .ok (.aload_n 0, 1) := by decide +kernel
theorem dX8_readReading_21 : decode cX8_readReading 21 = .ok (.aload_n 1, 1) := by decide +kernel
theorem dX8_readReading_22 : decode cX8_readReading 22 = .ok (.invokevirtual 180, 3) := by decide +kernel
theorem dX8_readReading_25 : decode cX8_readReading 25 = .ok (.istore_n 3, 1) := by decide +kernel
theorem dX8_readReading_26 : decode cX8_readReading 26 = .ok (.iload_n 3, 1) := by decide +kernel
theorem dX8_readReading_27 : decode cX8_readReading 27 = .ok (.iconst (-1), 1) := by decide +kernel
theorem dX8_readReading_28 : decode cX8_readReading 28 = .ok (.if_icmp .ne 5, 3) := by decide +kernel
theorem dX8_readReading_31 : decode cX8_readReading 31 = .ok (.iconst 0, 1) := by decide +kernel
theorem dX8_readReading_32 : decode cX8_readReading 32 = .ok (.ireturn, 1) := by decide +kernel
theorem dX8_readReading_33 : decode cX8_readReading 33 = .ok (.aload_n 0, 1) := by decide +kernel
theorem dX8_readReading_34 : decode cX8_readReading 34 = .ok (.invokevirtual 56, 3) := by decide +kernel
theorem dX8_readReading_37 : decode cX8_readReading 37 = .ok (.aload_n 0, 1) := by decide +kernel
theorem dX8_readReading_38 : decode cX8_readReading 38 = .ok (.iconst 0, 1) := by decide +kernel
theorem dX8_readReading_39 : decode cX8_readReading 39 = .ok (.bipush 40, 2) := by decide +kernel
theorem dX8_readReading_41 : decode cX8_readReading 41 = .ok (.invokevirtual 128, 3) := by decide +kernel
theorem dX8_readReading_44 : decode cX8_readReading 44 = .ok (.ifCond .ne 5, 3) := by decide +kernel
theorem dX8_readReading_47 : decode cX8_readReading 47 = .ok (.iconst 0, 1) := by decide +kernel
theorem dX8_readReading_48 : decode cX8_readReading 48 = .ok (.ireturn, 1) := by decide +kernel
theorem dX8_readReading_49 : decode cX8_readReading 49 = .ok (.aload_n 1, 1) := by decide +kernel
theorem dX8_readReading_50 : decode cX8_readReading 50 = .ok (.getfield 212, 3) := by decide +kernel
theorem dX8_readReading_53 : decode cX8_readReading 53 = .ok (.iload_n 2, 1) := by decide +kernel
theorem dX8_readReading_54 : decode cX8_readReading 54 = .ok (.iload_n 3, 1) := by decide +kernel
theorem dX8_readReading_55 : decode cX8_readReading 55 = .ok (.iastore, 1) := by decide +kernel
theorem dX8_readReading_56 : decode cX8_readReading 56 = .ok (.aload_n 1, 1) := by decide +kernel
theorem dX8_readReading_57 : decode cX8_readReading 57 = .ok (.getfield 214, 3) := by decide +kernel
theorem dX8_readReading_60 : decode cX8_readReading 60 = .ok (.iload_n 2, 1) := by decide +kernel
theorem dX8_readReading_61 : decode cX8_readReading 61 = .ok (.aload_n 0, 1) := by decide +kernel
theorem dX8_readReading_62 : decode cX8_readReading 62 = .ok (.getfield 132, 3) := by decide +kernel
theorem dX8_readReading_65 : decode cX8_readReading 65 = .ok (.iastore, 1) := by decide +kernel
theorem dX8_readReading_66 : decode cX8_readReading 66 = .ok (.aload_n 1, 1) := by decide +kernel
theorem dX8_readReading_67 : decode cX8_readReading 67 = .ok (.iload_n 2, 1) := by decide +kernel
theorem dX8_readReading_68 : decode cX8_readReading 68 = .ok (.iconst 1, 1) := by decide +kernel
theorem dX8_readReading_69 : decode cX8_readReading 69 = .ok (.iadd, 1) := by decide +kernel
theorem dX8_readReading_70 : decode cX8_readReading 70 = .ok (.putfield 209, 3) := by decide +kernel
theorem dX8_readReading_73 : decode cX8_readReading 73 = .ok (.iconst 1, 1) := by decide +kernel
theorem dX8_readReading_74 : decode cX8_readReading 74 = .ok (.ireturn, 1) := by decide +kernel
theorem dX8_blame_0 : decode cX8_blame 0 = .ok (.aload_n 0, 1) := by decide +kernel
theorem dX8_blame_1 : decode cX8_blame 1 = .ok (.iload_n 1, 1) := by decide +kernel
theorem dX8_blame_2 : decode cX8_blame 2 = .ok (.putfield 35, 3) := by decide +kernel
theorem dX8_blame_5 : decode cX8_blame 5 = .ok (.aload_n 0, 1) := by decide +kernel
theorem dX8_blame_6 : decode cX8_blame 6 = .ok (.aload_n 0, 1) := by decide +kernel
theorem dX8_blame_7 : decode cX8_blame 7 = .ok (.getfield 217, 3) := by decide +kernel
theorem dX8_blame_10 : decode cX8_blame 10 = .ok (.putfield 38, 3) := by decide +kernel
theorem dX8_blame_13 : decode cX8_blame 13 = .ok (.iconst 0, 1) := by decide +kernel
theorem dX8_blame_14 : decode cX8_blame 14 = .ok (.ireturn, 1) := by decide +kernel
theorem dX8_blamed_0 : decode cX8_blamed 0 = .ok (.aload_n 0, 1) := by decide +kernel
theorem dX8_blamed_1 : decode cX8_blamed 1 = .ok (.iload_n 1, 1) := by decide +kernel
theorem dX8_blamed_2 : decode cX8_blamed 2 = .ok (.invokevirtual 77, 3) := by decide +kernel
theorem dX8_blamed_5 : decode cX8_blamed 5 = .ok (.pop, 1) := by decide +kernel
theorem dX8_blamed_6 : decode cX8_blamed 6 = .ok (.iload_n 1, 1) := by decide +kernel
theorem dX8_blamed_7 : decode cX8_blamed 7 = .ok (.ireturn, 1) := by decide +kernel
theorem dX8_expect_0 : decode cX8_expect 0 = .ok (.aload_n 0, 1) := by decide +kernel
theorem dX8_expect_1 : decode cX8_expect 1 = .ok (.aload_n 1, 1) := by decide +kernel
theorem dX8_expect_2 : decode cX8_expect 2 = .ok (.invokevirtual 83, 3) := by decide +kernel
theorem dX8_expect_5 : decode cX8_expect 5 = .ok (.ifCond .ne 9, 3) := by decide +kernel
theorem dX8_expect_8 : decode cX8_expect 8 = .ok (.aload_n 0, 1) := by decide +kernel
theorem dX8_expect_9 : decode cX8_expect 9 = .ok (.iconst 1, 1) := by decide +kernel
theorem dX8_expect_10 : decode cX8_expect 10 = .ok (.invokevirtual 77, 3) := by decide +kernel
theorem dX8_expect_13 : decode cX8_expect 13 = .ok (.ireturn, 1) := by decide +kernel
theorem dX8_expect_14 : decode cX8_expect 14 = .ok (.aload_n 0, 1) := by decide +kernel
theorem dX8_expect_15 : decode cX8_expect 15 = .ok (.invokevirtual 56, 3) := by decide +kernel
theorem dX8_expect_18 : decode cX8_expect 18 = .ok (.iconst 1, 1) := by decide +kernel
theorem dX8_expect_19 : decode cX8_expect 19 = .ok (.ireturn, 1) := by decide +kernel
theorem dX8_wholeWithin_0 : decode cX8_wholeWithin 0 = .ok (.aload_n 0, 1) := by decide +kernel
theorem dX8_wholeWithin_1 : decode cX8_wholeWithin 1 = .ok (.getfield 63, 3) := by decide +kernel
theorem dX8_wholeWithin_4 : decode cX8_wholeWithin 4 = .ok (.iconst 2, 1) := by decide +kernel
theorem dX8_wholeWithin_5 : decode cX8_wholeWithin 5 = .ok (.if_icmp .eq 9, 3) := by decide +kernel
theorem dX8_wholeWithin_8 : decode cX8_wholeWithin 8 = .ok (.aload_n 0, 1) := by decide +kernel
theorem dX8_wholeWithin_9 : decode cX8_wholeWithin 9 = .ok (.iconst 1, 1) := by decide +kernel
theorem dX8_wholeWithin_10 : decode cX8_wholeWithin 10 = .ok (.invokevirtual 77, 3) := by decide +kernel
theorem dX8_wholeWithin_13 : decode cX8_wholeWithin 13 = .ok (.ireturn, 1) := by decide +kernel
theorem dX8_wholeWithin_14 : decode cX8_wholeWithin 14 = .ok (.iconst 0, 1) := by decide +kernel
theorem dX8_wholeWithin_15 : decode cX8_wholeWithin 15 = .ok (.istore_n 3, 1) := by decide +kernel
theorem dX8_wholeWithin_16 : decode cX8_wholeWithin 16 = .ok (.aload_n 0, 1) := by decide +kernel
theorem dX8_wholeWithin_17 : decode cX8_wholeWithin 17 = .ok (.getfield 217, 3) := by decide +kernel
theorem dX8_wholeWithin_20 : decode cX8_wholeWithin 20 = .ok (.istore 4, 2) := by decide +kernel
theorem dX8_wholeWithin_22 : decode cX8_wholeWithin 22 = .ok (.iload 4, 2) := by decide +kernel
theorem dX8_wholeWithin_24 : decode cX8_wholeWithin 24 = .ok (.aload_n 0, 1) := by decide +kernel
theorem dX8_wholeWithin_25 : decode cX8_wholeWithin 25 = .ok (.getfield 53, 3) := by decide +kernel
theorem dX8_wholeWithin_28 : decode cX8_wholeWithin 28 = .ok (.if_icmp .ge 25, 3) := by decide +kernel
theorem dX8_wholeWithin_31 : decode cX8_wholeWithin 31 = .ok (.iload_n 3, 1) := by decide +kernel
theorem dX8_wholeWithin_32 : decode cX8_wholeWithin 32 = .ok (.bipush 10, 2) := by decide +kernel
theorem dX8_wholeWithin_34 : decode cX8_wholeWithin 34 = .ok (.imul, 1) := by decide +kernel
theorem dX8_wholeWithin_35 : decode cX8_wholeWithin 35 = .ok (.aload_n 0, 1) := by decide +kernel
theorem dX8_wholeWithin_36 : decode cX8_wholeWithin 36 = .ok (.getfield 9, 3) := by decide +kernel
theorem dX8_wholeWithin_39 : decode cX8_wholeWithin 39 = .ok (.iload 4, 2) := by decide +kernel
theorem dX8_wholeWithin_41 : decode cX8_wholeWithin 41 = .ok (.baload, 1) := by decide +kernel
theorem dX8_wholeWithin_42 : decode cX8_wholeWithin 42 = .ok (.bipush 48, 2) := by decide +kernel
theorem dX8_wholeWithin_44 : decode cX8_wholeWithin 44 = .ok (.isub, 1) := by decide +kernel
theorem dX8_wholeWithin_45 : decode cX8_wholeWithin 45 = .ok (.iadd, 1) := by decide +kernel
theorem dX8_wholeWithin_46 : decode cX8_wholeWithin 46 = .ok (.istore_n 3, 1) := by decide +kernel
theorem dX8_wholeWithin_47 : decode cX8_wholeWithin 47 = .ok (.iinc 4 1, 3) := by decide +kernel
theorem dX8_wholeWithin_50 : decode cX8_wholeWithin 50 = .ok (.goto (-28), 3) := by decide +kernel
theorem dX8_wholeWithin_53 : decode cX8_wholeWithin 53 = .ok (.iload_n 3, 1) := by decide +kernel
theorem dX8_wholeWithin_54 : decode cX8_wholeWithin 54 = .ok (.iload_n 1, 1) := by decide +kernel
theorem dX8_wholeWithin_55 : decode cX8_wholeWithin 55 = .ok (.if_icmp .lt 8, 3) := by decide +kernel
theorem dX8_wholeWithin_58 : decode cX8_wholeWithin 58 = .ok (.iload_n 3, 1) := by decide +kernel
theorem dX8_wholeWithin_59 : decode cX8_wholeWithin 59 = .ok (.iload_n 2, 1) := by decide +kernel
theorem dX8_wholeWithin_60 : decode cX8_wholeWithin 60 = .ok (.if_icmp .le 9, 3) := by decide +kernel
theorem dX8_wholeWithin_63 : decode cX8_wholeWithin 63 = .ok (.aload_n 0, 1) := by decide +kernel
theorem dX8_wholeWithin_64 : decode cX8_wholeWithin 64 = .ok (.iconst 4, 1) := by decide +kernel
theorem dX8_wholeWithin_65 : decode cX8_wholeWithin 65 = .ok (.invokevirtual 77, 3) := by decide +kernel
theorem dX8_wholeWithin_68 : decode cX8_wholeWithin 68 = .ok (.ireturn, 1) := by decide +kernel
theorem dX8_wholeWithin_69 : decode cX8_wholeWithin 69 = .ok (.aload_n 0, 1) := by decide +kernel
theorem dX8_wholeWithin_70 : decode cX8_wholeWithin 70 = .ok (.iload_n 3, 1) := by decide +kernel
theorem dX8_wholeWithin_71 : decode cX8_wholeWithin 71 = .ok (.putfield 132, 3) := by decide +kernel
theorem dX8_wholeWithin_74 : decode cX8_wholeWithin 74 = .ok (.aload_n 0, 1) := by decide +kernel
theorem dX8_wholeWithin_75 : decode cX8_wholeWithin 75 = .ok (.invokevirtual 56, 3) := by decide +kernel
theorem dX8_wholeWithin_78 : decode cX8_wholeWithin 78 = .ok (.iconst 1, 1) := by decide +kernel
theorem dX8_wholeWithin_79 : decode cX8_wholeWithin 79 = .ok (.ireturn, 1) := by decide +kernel
theorem dX8_isNewName_0 : decode cX8_isNewName 0 = .ok (.aload_n 0, 1) := by decide +kernel
theorem dX8_isNewName_1 : decode cX8_isNewName 1 = .ok (.getfield 63, 3) := by decide +kernel
theorem dX8_isNewName_4 : decode cX8_isNewName 4 = .ok (.iconst 1, 1) := by decide +kernel
theorem dX8_isNewName_5 : decode cX8_isNewName 5 = .ok (.if_icmp .ne 10, 3) := by decide +kernel
theorem dX8_isNewName_8 : decode cX8_isNewName 8 = .ok (.aload_n 0, 1) := by decide +kernel
theorem dX8_isNewName_9 : decode cX8_isNewName 9 = .ok (.invokevirtual 73, 3) := by decide +kernel
theorem dX8_isNewName_12 : decode cX8_isNewName 12 = .ok (.ifCond .eq 9, 3) := by decide +kernel
theorem dX8_isNewName_15 : decode cX8_isNewName 15 = .ok (.aload_n 0, 1) := by decide +kernel
theorem dX8_isNewName_16 : decode cX8_isNewName 16 = .ok (.iconst 1, 1) := by decide +kernel
theorem dX8_isNewName_17 : decode cX8_isNewName 17 = .ok (.invokevirtual 77, 3) := by decide +kernel
theorem dX8_isNewName_20 : decode cX8_isNewName 20 = .ok (.ireturn, 1) := by decide +kernel
theorem dX8_isNewName_21 : decode cX8_isNewName 21 = .ok (.aload_n 0, 1) := by decide +kernel
theorem dX8_isNewName_22 : decode cX8_isNewName 22 = .ok (.invokevirtual 152, 3) := by decide +kernel
theorem dX8_isNewName_25 : decode cX8_isNewName 25 = .ok (.lstore_n 2, 1) := by decide +kernel
theorem dX8_isNewName_26 : decode cX8_isNewName 26 = .ok (.aload_n 0, 1) := by decide +kernel
theorem dX8_isNewName_27 : decode cX8_isNewName 27 = .ok (.getfield 15, 3) := by decide +kernel
theorem dX8_isNewName_30 : decode cX8_isNewName 30 = .ok (.aload_n 1, 1) := by decide +kernel
theorem dX8_isNewName_31 : decode cX8_isNewName 31 = .ok (.getfield 66, 3) := by decide +kernel
theorem dX8_isNewName_34 : decode cX8_isNewName 34 = .ok (.lload_n 2, 1) := by decide +kernel
theorem dX8_isNewName_35 : decode cX8_isNewName 35 = .ok (.invokestatic 205, 3) := by decide +kernel
theorem dX8_isNewName_38 : decode cX8_isNewName 38 = .ok (.iconst (-1), 1) := by decide +kernel
theorem dX8_isNewName_39 : decode cX8_isNewName 39 = .ok (.if_icmp .ne 19, 3) := by decide +kernel
theorem dX8_isNewName_42 : decode cX8_isNewName 42 = .ok (.aload_n 0, 1) := by decide +kernel
theorem dX8_isNewName_43 : decode cX8_isNewName 43 = .ok (.getfield 19, 3) := by decide +kernel
theorem dX8_isNewName_46 : decode cX8_isNewName 46 = .ok (.aload_n 1, 1) := by decide +kernel
theorem dX8_isNewName_47 : decode cX8_isNewName 47 = .ok (.getfield 198, 3) := by decide +kernel
theorem dX8_isNewName_50 : decode cX8_isNewName 50 = .ok (.lload_n 2, 1) := by decide +kernel
theorem dX8_isNewName_51 : decode cX8_isNewName 51 = .ok (.invokestatic 205, 3) := by decide +kernel
theorem dX8_isNewName_54 : decode cX8_isNewName 54 = .ok (.iconst (-1), 1) := by decide +kernel
theorem dX8_isNewName_55 : decode cX8_isNewName 55 = .ok (.if_icmp .eq 9, 3) := by decide +kernel
theorem dX8_isNewName_58 : decode cX8_isNewName 58 = .ok (.aload_n 0, 1) := by decide +kernel
theorem dX8_isNewName_59 : decode cX8_isNewName 59 = .ok (.iconst 3, 1) := by decide +kernel
theorem dX8_isNewName_60 : decode cX8_isNewName 60 = .ok (.invokevirtual 77, 3) := by decide +kernel
theorem dX8_isNewName_63 : decode cX8_isNewName 63 = .ok (.ireturn, 1) := by decide +kernel
theorem dX8_isNewName_64 : decode cX8_isNewName 64 = .ok (.iconst 1, 1) := by decide +kernel
theorem dX8_isNewName_65 : decode cX8_isNewName 65 = .ok (.ireturn, 1) := by decide +kernel
theorem dX8_manHere_0 : decode cX8_manHere 0 = .ok (.aload_n 0, 1) := by decide +kernel
theorem dX8_manHere_1 : decode cX8_manHere 1 = .ok (.getfield 63, 3) := by decide +kernel
theorem dX8_manHere_4 : decode cX8_manHere 4 = .ok (.iconst 1, 1) := by decide +kernel
theorem dX8_manHere_5 : decode cX8_manHere 5 = .ok (.if_icmp .ne 10, 3) := by decide +kernel
theorem dX8_manHere_8 : decode cX8_manHere 8 = .ok (.aload_n 0, 1) := by decide +kernel
theorem dX8_manHere_9 : decode cX8_manHere 9 = .ok (.invokevirtual 73, 3) := by decide +kernel
theorem dX8_manHere_12 : decode cX8_manHere 12 = .ok (.ifCond .eq 11, 3) := by decide +kernel
theorem dX8_manHere_15 : decode cX8_manHere 15 = .ok (.aload_n 0, 1) := by decide +kernel
theorem dX8_manHere_16 : decode cX8_manHere 16 = .ok (.iconst 1, 1) := by decide +kernel
theorem dX8_manHere_17 : decode cX8_manHere 17 = .ok (.invokevirtual 77, 3) := by decide +kernel
theorem dX8_manHere_20 : decode cX8_manHere 20 = .ok (.pop, 1) := by decide +kernel
theorem dX8_manHere_21 : decode cX8_manHere 21 = .ok (.iconst (-1), 1) := by decide +kernel
theorem dX8_manHere_22 : decode cX8_manHere 22 = .ok (.ireturn, 1) := by decide +kernel
theorem dX8_manHere_23 : decode cX8_manHere 23 = .ok (.aload_n 0, 1) := by decide +kernel
theorem dX8_manHere_24 : decode cX8_manHere 24 = .ok (.getfield 15, 3) := by decide +kernel
theorem dX8_manHere_27 : decode cX8_manHere 27 = .ok (.aload_n 1, 1) := by decide +kernel
theorem dX8_manHere_28 : decode cX8_manHere 28 = .ok (.getfield 66, 3) := by decide +kernel
theorem dX8_manHere_31 : decode cX8_manHere 31 = .ok (.aload_n 0, 1) := by decide +kernel
theorem dX8_manHere_32 : decode cX8_manHere 32 = .ok (.invokevirtual 152, 3) := by decide +kernel
theorem dX8_manHere_35 : decode cX8_manHere 35 = .ok (.invokestatic 205, 3) := by decide +kernel
theorem dX8_manHere_38 : decode cX8_manHere 38 = .ok (.istore_n 2, 1) := by decide +kernel
theorem dX8_manHere_39 : decode cX8_manHere 39 = .ok (.iload_n 2, 1) := by decide +kernel
theorem dX8_manHere_40 : decode cX8_manHere 40 = .ok (.iconst (-1), 1) := by decide +kernel
theorem dX8_manHere_41 : decode cX8_manHere 41 = .ok (.if_icmp .ne 9, 3) := by decide +kernel
theorem dX8_manHere_44 : decode cX8_manHere 44 = .ok (.aload_n 0, 1) := by decide +kernel
theorem dX8_manHere_45 : decode cX8_manHere 45 = .ok (.iconst 2, 1) := by decide +kernel
theorem dX8_manHere_46 : decode cX8_manHere 46 = .ok (.invokevirtual 77, 3) := by decide +kernel
theorem dX8_manHere_49 : decode cX8_manHere 49 = .ok (.pop, 1) := by decide +kernel
theorem dX8_manHere_50 : decode cX8_manHere 50 = .ok (.iload_n 2, 1) := by decide +kernel
theorem dX8_manHere_51 : decode cX8_manHere 51 = .ok (.ireturn, 1) := by decide +kernel
theorem dX8_kindHere_0 : decode cX8_kindHere 0 = .ok (.aload_n 0, 1) := by decide +kernel
theorem dX8_kindHere_1 : decode cX8_kindHere 1 = .ok (.ldc 220, 2) := by decide +kernel
theorem dX8_kindHere_3 : decode cX8_kindHere 3 = .ok (.invokevirtual 83, 3) := by decide +kernel
theorem dX8_kindHere_6 : decode cX8_kindHere 6 = .ok (.ifCond .eq 5, 3) := by decide +kernel
theorem dX8_kindHere_9 : decode cX8_kindHere 9 = .ok (.iconst 0, 1) := by decide +kernel
theorem dX8_kindHere_10 : decode cX8_kindHere 10 = .ok (.ireturn, 1) := by decide +kernel
theorem dX8_kindHere_11 : decode cX8_kindHere 11 = .ok (.aload_n 0, 1) := by decide +kernel
theorem dX8_kindHere_12 : decode cX8_kindHere 12 = .ok (.ldc 222, 2) := by decide +kernel
theorem dX8_kindHere_14 : decode cX8_kindHere 14 = .ok (.invokevirtual 83, 3) := by decide +kernel
theorem dX8_kindHere_17 : decode cX8_kindHere 17 = .ok (.ifCond .eq 5, 3) := by decide +kernel
theorem dX8_kindHere_20 : decode cX8_kindHere 20 = .ok (.iconst 1, 1) := by decide +kernel
theorem dX8_kindHere_21 : decode cX8_kindHere 21 = .ok (.ireturn, 1) := by decide +kernel
theorem dX8_kindHere_22 : decode cX8_kindHere 22 = .ok (.aload_n 0, 1) := by decide +kernel
theorem dX8_kindHere_23 : decode cX8_kindHere 23 = .ok (.ldc 224, 2) := by decide +kernel
theorem dX8_kindHere_25 : decode cX8_kindHere 25 = .ok (.invokevirtual 83, 3) := by decide +kernel
theorem dX8_kindHere_28 : decode cX8_kindHere 28 = .ok (.ifCond .eq 5, 3) := by decide +kernel
theorem dX8_kindHere_31 : decode cX8_kindHere 31 = .ok (.iconst 2, 1) := by decide +kernel
theorem dX8_kindHere_32 : decode cX8_kindHere 32 = .ok (.ireturn, 1) := by decide +kernel
theorem dX8_kindHere_33 : decode cX8_kindHere 33 = .ok (.aload_n 0, 1) := by decide +kernel
theorem dX8_kindHere_34 : decode cX8_kindHere 34 = .ok (.ldc 226, 2) := by decide +kernel
theorem dX8_kindHere_36 : decode cX8_kindHere 36 = .ok (.invokevirtual 83, 3) := by decide +kernel
theorem dX8_kindHere_39 : decode cX8_kindHere 39 = .ok (.ifCond .eq 7, 3) := by decide +kernel
theorem dX8_kindHere_42 : decode cX8_kindHere 42 = .ok (.iconst 3, 1) := by decide +kernel
theorem dX8_kindHere_43 : decode cX8_kindHere 43 = .ok (.goto 4, 3) := by decide +kernel
theorem dX8_kindHere_46 : decode cX8_kindHere 46 = .ok (.iconst (-1), 1) := by decide +kernel
theorem dX8_kindHere_47 : decode cX8_kindHere 47 = .ok (.ireturn, 1) := by decide +kernel
theorem dX8_isLineWord_0 : decode cX8_isLineWord 0 = .ok (.aload_n 0, 1) := by decide +kernel
theorem dX8_isLineWord_1 : decode cX8_isLineWord 1 = .ok (.ldc 81, 2) := by decide +kernel
theorem dX8_isLineWord_3 : decode cX8_isLineWord 3 = .ok (.invokevirtual 83, 3) := by decide +kernel
theorem dX8_isLineWord_6 : decode cX8_isLineWord 6 = .ok (.ifCond .ne 57, 3) := by decide +kernel
theorem dX8_isLineWord_9 : decode cX8_isLineWord 9 = .ok (.aload_n 0, 1) := by decide +kernel
theorem dX8_isLineWord_10 : decode cX8_isLineWord 10 = .ok (.ldc 90, 2) := by decide +kernel
theorem dX8_isLineWord_12 : decode cX8_isLineWord 12 = .ok (.invokevirtual 83, 3) := by decide +kernel
theorem dX8_isLineWord_15 : decode cX8_isLineWord 15 = .ok (.ifCond .ne 48, 3) := by decide +kernel
theorem dX8_isLineWord_18 : decode cX8_isLineWord 18 = .ok (.aload_n 0, 1) := by decide +kernel
theorem dX8_isLineWord_19 : decode cX8_isLineWord 19 = .ok (.ldc 95, 2) := by decide +kernel
theorem dX8_isLineWord_21 : decode cX8_isLineWord 21 = .ok (.invokevirtual 83, 3) := by decide +kernel
theorem dX8_isLineWord_24 : decode cX8_isLineWord 24 = .ok (.ifCond .ne 39, 3) := by decide +kernel
theorem dX8_isLineWord_27 : decode cX8_isLineWord 27 = .ok (.aload_n 0, 1) := by decide +kernel
theorem dX8_isLineWord_28 : decode cX8_isLineWord 28 = .ok (.ldc 105, 2) := by decide +kernel
theorem dX8_isLineWord_30 : decode cX8_isLineWord 30 = .ok (.invokevirtual 83, 3) := by decide +kernel
theorem dX8_isLineWord_33 : decode cX8_isLineWord 33 = .ok (.ifCond .ne 30, 3) := by decide +kernel
theorem dX8_isLineWord_36 : decode cX8_isLineWord 36 = .ok (.aload_n 0, 1) := by decide +kernel
theorem dX8_isLineWord_37 : decode cX8_isLineWord 37 = .ok (.ldc 110, 2) := by decide +kernel
theorem dX8_isLineWord_39 : decode cX8_isLineWord 39 = .ok (.invokevirtual 83, 3) := by decide +kernel
theorem dX8_isLineWord_42 : decode cX8_isLineWord 42 = .ok (.ifCond .ne 21, 3) := by decide +kernel
theorem dX8_isLineWord_45 : decode cX8_isLineWord 45 = .ok (.aload_n 0, 1) := by decide +kernel
theorem dX8_isLineWord_46 : decode cX8_isLineWord 46 = .ok (.ldc 115, 2) := by decide +kernel
theorem dX8_isLineWord_48 : decode cX8_isLineWord 48 = .ok (.invokevirtual 83, 3) := by decide +kernel
theorem dX8_isLineWord_51 : decode cX8_isLineWord 51 = .ok (.ifCond .ne 12, 3) := by decide +kernel
theorem dX8_isLineWord_54 : decode cX8_isLineWord 54 = .ok (.aload_n 0, 1) := by decide +kernel
theorem dX8_isLineWord_55 : decode cX8_isLineWord 55 = .ok (.ldc 228, 2) := by decide +kernel
theorem dX8_isLineWord_57 : decode cX8_isLineWord 57 = .ok (.invokevirtual 83, 3) := by decide +kernel
theorem dX8_isLineWord_60 : decode cX8_isLineWord 60 = .ok (.ifCond .eq 7, 3) := by decide +kernel
theorem dX8_isLineWord_63 : decode cX8_isLineWord 63 = .ok (.iconst 1, 1) := by decide +kernel
theorem dX8_isLineWord_64 : decode cX8_isLineWord 64 = .ok (.goto 4, 3) := by decide +kernel
theorem dX8_isLineWord_67 : decode cX8_isLineWord 67 = .ok (.iconst 0, 1) := by decide +kernel
theorem dX8_isLineWord_68 : decode cX8_isLineWord 68 = .ok (.ireturn, 1) := by decide +kernel
theorem dX8_is_0 : decode cX8_is 0 = .ok (.aload_n 0, 1) := by decide +kernel
theorem dX8_is_1 : decode cX8_is 1 = .ok (.getfield 63, 3) := by decide +kernel
theorem dX8_is_4 : decode cX8_is 4 = .ok (.iconst 1, 1) := by decide +kernel
theorem dX8_is_5 : decode cX8_is 5 = .ok (.if_icmp .ne 19, 3) := by decide +kernel
theorem dX8_is_8 : decode cX8_is 8 = .ok (.aload_n 0, 1) := by decide +kernel
theorem dX8_is_9 : decode cX8_is 9 = .ok (.getfield 53, 3) := by decide +kernel
theorem dX8_is_12 : decode cX8_is 12 = .ok (.aload_n 0, 1) := by decide +kernel
theorem dX8_is_13 : decode cX8_is 13 = .ok (.getfield 217, 3) := by decide +kernel
theorem dX8_is_16 : decode cX8_is 16 = .ok (.isub, 1) := by decide +kernel
theorem dX8_is_17 : decode cX8_is 17 = .ok (.aload_n 1, 1) := by decide +kernel
theorem dX8_is_18 : decode cX8_is 18 = .ok (.invokevirtual 230, 3) := by decide +kernel
theorem dX8_is_21 : decode cX8_is 21 = .ok (.if_icmp .eq 5, 3) := by decide +kernel
theorem dX8_is_24 : decode cX8_is 24 = .ok (.iconst 0, 1) := by decide +kernel
theorem dX8_is_25 : decode cX8_is 25 = .ok (.ireturn, 1) := by decide +kernel
theorem dX8_is_26 : decode cX8_is 26 = .ok (.iconst 0, 1) := by decide +kernel
theorem dX8_is_27 : decode cX8_is 27 = .ok (.istore_n 2, 1) := by decide +kernel
theorem dX8_is_28 : decode cX8_is 28 = .ok (.iload_n 2, 1) := by decide +kernel
theorem dX8_is_29 : decode cX8_is 29 = .ok (.aload_n 1, 1) := by decide +kernel
theorem dX8_is_30 : decode cX8_is 30 = .ok (.invokevirtual 230, 3) := by decide +kernel
theorem dX8_is_33 : decode cX8_is 33 = .ok (.if_icmp .ge 30, 3) := by decide +kernel
theorem dX8_is_36 : decode cX8_is 36 = .ok (.aload_n 0, 1) := by decide +kernel
theorem dX8_is_37 : decode cX8_is 37 = .ok (.getfield 9, 3) := by decide +kernel
theorem dX8_is_40 : decode cX8_is 40 = .ok (.aload_n 0, 1) := by decide +kernel
theorem dX8_is_41 : decode cX8_is 41 = .ok (.getfield 217, 3) := by decide +kernel
theorem dX8_is_44 : decode cX8_is 44 = .ok (.iload_n 2, 1) := by decide +kernel
theorem dX8_is_45 : decode cX8_is 45 = .ok (.iadd, 1) := by decide +kernel
theorem dX8_is_46 : decode cX8_is 46 = .ok (.baload, 1) := by decide +kernel
theorem dX8_is_47 : decode cX8_is 47 = .ok (.aload_n 1, 1) := by decide +kernel
theorem dX8_is_48 : decode cX8_is 48 = .ok (.iload_n 2, 1) := by decide +kernel
theorem dX8_is_49 : decode cX8_is 49 = .ok (.invokevirtual 235, 3) := by decide +kernel
theorem dX8_is_52 : decode cX8_is 52 = .ok (.if_icmp .eq 5, 3) := by decide +kernel
theorem dX8_is_55 : decode cX8_is 55 = .ok (.iconst 0, 1) := by decide +kernel
theorem dX8_is_56 : decode cX8_is 56 = .ok (.ireturn, 1) := by decide +kernel
theorem dX8_is_57 : decode cX8_is 57 = .ok (.iinc 2 1, 3) := by decide +kernel
theorem dX8_is_60 : decode cX8_is 60 = .ok (.goto (-32), 3) := by decide +kernel
theorem dX8_is_63 : decode cX8_is 63 = .ok (.iconst 1, 1) := by decide +kernel
theorem dX8_is_64 : decode cX8_is 64 = .ok (.ireturn, 1) := by decide +kernel
theorem dX8_code_0 : decode cX8_code 0 = .ok (.lconst 0, 1) := by decide +kernel
theorem dX8_code_1 : decode cX8_code 1 = .ok (.lstore_n 1, 1) := by decide +kernel
theorem dX8_code_2 : decode cX8_code 2 = .ok (.aload_n 0, 1) := by decide +kernel
theorem dX8_code_3 : decode cX8_code 3 = .ok (.getfield 217, 3) := by decide +kernel
theorem dX8_code_6 : decode cX8_code 6 = .ok (.istore_n 3, 1) := by decide +kernel
theorem dX8_code_7 : decode cX8_code 7 = .ok (.iload_n 3, 1) := by decide +kernel
theorem dX8_code_8 : decode cX8_code 8 = .ok (.aload_n 0, 1) := by decide +kernel
theorem dX8_code_9 : decode cX8_code 9 = .ok (.getfield 53, 3) := by decide +kernel
theorem dX8_code_12 : decode cX8_code 12 = .ok (.if_icmp .ge 28, 3) := by decide +kernel
theorem dX8_code_15 : decode cX8_code 15 = .ok (.lload_n 1, 1) := by decide +kernel
theorem dX8_code_16 : decode cX8_code 16 = .ok (.ldc2_w 239, 3) := by decide +kernel
theorem dX8_code_19 : decode cX8_code 19 = .ok (.lmul, 1) := by decide +kernel
theorem dX8_code_20 : decode cX8_code 20 = .ok (.aload_n 0, 1) := by decide +kernel
theorem dX8_code_21 : decode cX8_code 21 = .ok (.getfield 9, 3) := by decide +kernel
theorem dX8_code_24 : decode cX8_code 24 = .ok (.iload_n 3, 1) := by decide +kernel
theorem dX8_code_25 : decode cX8_code 25 = .ok (.baload, 1) := by decide +kernel
theorem dX8_code_26 : decode cX8_code 26 = .ok (.bipush 97, 2) := by decide +kernel
theorem dX8_code_28 : decode cX8_code 28 = .ok (.isub, 1) := by decide +kernel
theorem dX8_code_29 : decode cX8_code 29 = .ok (.iconst 1, 1) := by decide +kernel
theorem dX8_code_30 : decode cX8_code 30 = .ok (.iadd, 1) := by decide +kernel
theorem dX8_code_31 : decode cX8_code 31 = .ok (.i2l, 1) := by decide +kernel
theorem dX8_code_32 : decode cX8_code 32 = .ok (.ladd, 1) := by decide +kernel
theorem dX8_code_33 : decode cX8_code 33 = .ok (.lstore_n 1, 1) := by decide +kernel
theorem dX8_code_34 : decode cX8_code 34 = .ok (.iinc 3 1, 3) := by decide +kernel
theorem dX8_code_37 : decode cX8_code 37 = .ok (.goto (-30), 3) := by decide +kernel
theorem dX8_code_40 : decode cX8_code 40 = .ok (.lload_n 1, 1) := by decide +kernel
theorem dX8_code_41 : decode cX8_code 41 = .ok (.lreturn, 1) := by decide +kernel
theorem dX8_indexOf_0 : decode cX8_indexOf 0 = .ok (.iconst 0, 1) := by decide +kernel
theorem dX8_indexOf_1 : decode cX8_indexOf 1 = .ok (.istore 4, 2) := by decide +kernel
theorem dX8_indexOf_3 : decode cX8_indexOf 3 = .ok (.iload 4, 2) := by decide +kernel
theorem dX8_indexOf_5 : decode cX8_indexOf 5 = .ok (.iload_n 1, 1) := by decide +kernel
theorem dX8_indexOf_6 : decode cX8_indexOf 6 = .ok (.if_icmp .ge 28, 3) := by decide +kernel
theorem dX8_indexOf_9 : decode cX8_indexOf 9 = .ok (.iload 4, 2) := by decide +kernel
theorem dX8_indexOf_11 : decode cX8_indexOf 11 = .ok (.aload_n 0, 1) := by decide +kernel
theorem dX8_indexOf_12 : decode cX8_indexOf 12 = .ok (.arraylength, 1) := by decide +kernel
theorem dX8_indexOf_13 : decode cX8_indexOf 13 = .ok (.if_icmp .ge 21, 3) := by decide +kernel
theorem dX8_indexOf_16 : decode cX8_indexOf 16 = .ok (.aload_n 0, 1) := by decide +kernel
theorem dX8_indexOf_17 : decode cX8_indexOf 17 = .ok (.iload 4, 2) := by decide +kernel
theorem dX8_indexOf_19 : decode cX8_indexOf 19 = .ok (.laload, 1) := by decide +kernel
theorem dX8_indexOf_20 : decode cX8_indexOf 20 = .ok (.lload_n 2, 1) := by decide +kernel
theorem dX8_indexOf_21 : decode cX8_indexOf 21 = .ok (.lcmp, 1) := by decide +kernel
theorem dX8_indexOf_22 : decode cX8_indexOf 22 = .ok (.ifCond .ne 6, 3) := by decide +kernel
theorem dX8_indexOf_25 : decode cX8_indexOf 25 = .ok (.iload 4, 2) := by decide +kernel
theorem dX8_indexOf_27 : decode cX8_indexOf 27 = .ok (.ireturn, 1) := by decide +kernel
theorem dX8_indexOf_28 : decode cX8_indexOf 28 = .ok (.iinc 4 1, 3) := by decide +kernel
theorem dX8_indexOf_31 : decode cX8_indexOf 31 = .ok (.goto (-28), 3) := by decide +kernel
theorem dX8_indexOf_34 : decode cX8_indexOf 34 = .ok (.iconst (-1), 1) := by decide +kernel
theorem dX8_indexOf_35 : decode cX8_indexOf 35 = .ok (.ireturn, 1) := by decide +kernel
theorem dX8_advance_0 : decode cX8_advance 0 = .ok (.aload_n 0, 1) := by decide +kernel
theorem dX8_advance_1 : decode cX8_advance 1 = .ok (.aload_n 0, 1) := by decide +kernel
theorem dX8_advance_2 : decode cX8_advance 2 = .ok (.getfield 53, 3) := by decide +kernel
theorem dX8_advance_5 : decode cX8_advance 5 = .ok (.putfield 217, 3) := by decide +kernel
theorem dX8_advance_8 : decode cX8_advance 8 = .ok (.aload_n 0, 1) := by decide +kernel
theorem dX8_advance_9 : decode cX8_advance 9 = .ok (.getfield 217, 3) := by decide +kernel
theorem dX8_advance_12 : decode cX8_advance 12 = .ok (.aload_n 0, 1) := by decide +kernel
theorem dX8_advance_13 : decode cX8_advance 13 = .ok (.getfield 50, 3) := by decide +kernel
theorem dX8_advance_16 : decode cX8_advance 16 = .ok (.if_icmp .ge 30, 3) := by decide +kernel
theorem dX8_advance_19 : decode cX8_advance 19 = .ok (.aload_n 0, 1) := by decide +kernel
theorem dX8_advance_20 : decode cX8_advance 20 = .ok (.getfield 9, 3) := by decide +kernel
theorem dX8_advance_23 : decode cX8_advance 23 = .ok (.aload_n 0, 1) := by decide +kernel
theorem dX8_advance_24 : decode cX8_advance 24 = .ok (.getfield 217, 3) := by decide +kernel
theorem dX8_advance_27 : decode cX8_advance 27 = .ok (.baload, 1) := by decide +kernel
theorem dX8_advance_28 : decode cX8_advance 28 = .ok (.bipush 32, 2) := by decide +kernel
theorem dX8_advance_30 : decode cX8_advance 30 = .ok (.if_icmp .ne 16, 3) := by decide +kernel
theorem dX8_advance_33 : decode cX8_advance 33 = .ok (.aload_n 0, 1) := by decide +kernel
theorem dX8_advance_34 : decode cX8_advance 34 = .ok (.dup, 1) := by decide +kernel
theorem dX8_advance_35 : decode cX8_advance 35 = .ok (.getfield 217, 3) := by decide +kernel
theorem dX8_advance_38 : decode cX8_advance 38 = .ok (.iconst 1, 1) := by decide +kernel
theorem dX8_advance_39 : decode cX8_advance 39 = .ok (.iadd, 1) := by decide +kernel
theorem dX8_advance_40 : decode cX8_advance 40 = .ok (.putfield 217, 3) := by decide +kernel
theorem dX8_advance_43 : decode cX8_advance 43 = .ok (.goto (-35), 3) := by decide +kernel
theorem dX8_advance_46 : decode cX8_advance 46 = .ok (.aload_n 0, 1) := by decide +kernel
theorem dX8_advance_47 : decode cX8_advance 47 = .ok (.getfield 217, 3) := by decide +kernel
theorem dX8_advance_50 : decode cX8_advance 50 = .ok (.aload_n 0, 1) := by decide +kernel
theorem dX8_advance_51 : decode cX8_advance 51 = .ok (.getfield 50, 3) := by decide +kernel
theorem dX8_advance_54 : decode cX8_advance 54 = .ok (.if_icmp .lt 17, 3) := by decide +kernel
theorem dX8_advance_57 : decode cX8_advance 57 = .ok (.aload_n 0, 1) := by decide +kernel
theorem dX8_advance_58 : decode cX8_advance 58 = .ok (.aload_n 0, 1) := by decide +kernel
theorem dX8_advance_59 : decode cX8_advance 59 = .ok (.getfield 50, 3) := by decide +kernel
theorem dX8_advance_62 : decode cX8_advance 62 = .ok (.putfield 53, 3) := by decide +kernel
theorem dX8_advance_65 : decode cX8_advance 65 = .ok (.aload_n 0, 1) := by decide +kernel
theorem dX8_advance_66 : decode cX8_advance 66 = .ok (.iconst 0, 1) := by decide +kernel
theorem dX8_advance_67 : decode cX8_advance 67 = .ok (.putfield 63, 3) := by decide +kernel
theorem dX8_advance_70 : decode cX8_advance 70 = .ok (.return_, 1) := by decide +kernel
theorem dX8_advance_71 : decode cX8_advance 71 = .ok (.aload_n 0, 1) := by decide +kernel
theorem dX8_advance_72 : decode cX8_advance 72 = .ok (.getfield 9, 3) := by decide +kernel
theorem dX8_advance_75 : decode cX8_advance 75 = .ok (.aload_n 0, 1) := by decide +kernel
theorem dX8_advance_76 : decode cX8_advance 76 = .ok (.getfield 217, 3) := by decide +kernel
theorem dX8_advance_79 : decode cX8_advance 79 = .ok (.baload, 1) := by decide +kernel
theorem dX8_advance_80 : decode cX8_advance 80 = .ok (.istore_n 1, 1) := by decide +kernel
theorem dX8_advance_81 : decode cX8_advance 81 = .ok (.iload_n 1, 1) := by decide +kernel
theorem dX8_advance_82 : decode cX8_advance 82 = .ok (.bipush 97, 2) := by decide +kernel
theorem dX8_advance_84 : decode cX8_advance 84 = .ok (.if_icmp .lt 47, 3) := by decide +kernel
theorem dX8_advance_87 : decode cX8_advance 87 = .ok (.iload_n 1, 1) := by decide +kernel
theorem dX8_advance_88 : decode cX8_advance 88 = .ok (.bipush 122, 2) := by decide +kernel
theorem dX8_advance_90 : decode cX8_advance 90 = .ok (.if_icmp .gt 41, 3) := by decide +kernel
theorem dX8_advance_93 : decode cX8_advance 93 = .ok (.aload_n 0, 1) := by decide +kernel
theorem dX8_advance_94 : decode cX8_advance 94 = .ok (.aload_n 0, 1) := by decide +kernel
theorem dX8_advance_95 : decode cX8_advance 95 = .ok (.bipush 97, 2) := by decide +kernel
theorem dX8_advance_97 : decode cX8_advance 97 = .ok (.bipush 122, 2) := by decide +kernel
theorem dX8_advance_99 : decode cX8_advance 99 = .ok (.invokevirtual 241, 3) := by decide +kernel
theorem dX8_advance_102 : decode cX8_advance 102 = .ok (.putfield 53, 3) := by decide +kernel
theorem dX8_advance_105 : decode cX8_advance 105 = .ok (.aload_n 0, 1) := by decide +kernel
theorem dX8_advance_106 : decode cX8_advance 106 = .ok (.aload_n 0, 1) := by decide +kernel
theorem dX8_advance_107 : decode cX8_advance 107 = .ok (.getfield 53, 3) := by decide +kernel
theorem dX8_advance_110 : decode cX8_advance 110 = .ok (.aload_n 0, 1) := by decide +kernel
theorem dX8_advance_111 : decode cX8_advance 111 = .ok (.getfield 217, 3) := by decide +kernel
theorem dX8_advance_114 : decode cX8_advance 114 = .ok (.isub, 1) := by decide +kernel
theorem dX8_advance_115 : decode cX8_advance 115 = .ok (.bipush 8, 2) := by decide +kernel
theorem dX8_advance_117 : decode cX8_advance 117 = .ok (.if_icmp .gt 7, 3) := by decide +kernel
theorem dX8_advance_120 : decode cX8_advance 120 = .ok (.iconst 1, 1) := by decide +kernel
theorem dX8_advance_121 : decode cX8_advance 121 = .ok (.goto 4, 3) := by decide +kernel
theorem dX8_advance_124 : decode cX8_advance 124 = .ok (.iconst 4, 1) := by decide +kernel
theorem dX8_advance_125 : decode cX8_advance 125 = .ok (.putfield 63, 3) := by decide +kernel
theorem dX8_advance_128 : decode cX8_advance 128 = .ok (.goto 77, 3) := by decide +kernel
theorem dX8_advance_131 : decode cX8_advance 131 = .ok (.iload_n 1, 1) := by decide +kernel
theorem dX8_advance_132 : decode cX8_advance 132 = .ok (.bipush 48, 2) := by decide +kernel
theorem dX8_advance_134 : decode cX8_advance 134 = .ok (.if_icmp .lt 46, 3) := by decide +kernel
theorem dX8_advance_137 : decode cX8_advance 137 = .ok (.iload_n 1, 1) := by decide +kernel
theorem dX8_advance_138 : decode cX8_advance 138 = .ok (.bipush 57, 2) := by decide +kernel
theorem dX8_advance_140 : decode cX8_advance 140 = .ok (.if_icmp .gt 40, 3) := by decide +kernel
theorem dX8_advance_143 : decode cX8_advance 143 = .ok (.aload_n 0, 1) := by decide +kernel
theorem dX8_advance_144 : decode cX8_advance 144 = .ok (.aload_n 0, 1) := by decide +kernel
theorem dX8_advance_145 : decode cX8_advance 145 = .ok (.bipush 48, 2) := by decide +kernel
theorem dX8_advance_147 : decode cX8_advance 147 = .ok (.bipush 57, 2) := by decide +kernel
theorem dX8_advance_149 : decode cX8_advance 149 = .ok (.invokevirtual 241, 3) := by decide +kernel
theorem dX8_advance_152 : decode cX8_advance 152 = .ok (.putfield 53, 3) := by decide +kernel
theorem dX8_advance_155 : decode cX8_advance 155 = .ok (.aload_n 0, 1) := by decide +kernel
theorem dX8_advance_156 : decode cX8_advance 156 = .ok (.aload_n 0, 1) := by decide +kernel
theorem dX8_advance_157 : decode cX8_advance 157 = .ok (.getfield 53, 3) := by decide +kernel
theorem dX8_advance_160 : decode cX8_advance 160 = .ok (.aload_n 0, 1) := by decide +kernel
theorem dX8_advance_161 : decode cX8_advance 161 = .ok (.getfield 217, 3) := by decide +kernel
theorem dX8_advance_164 : decode cX8_advance 164 = .ok (.isub, 1) := by decide +kernel
theorem dX8_advance_165 : decode cX8_advance 165 = .ok (.iconst 3, 1) := by decide +kernel
theorem dX8_advance_166 : decode cX8_advance 166 = .ok (.if_icmp .gt 7, 3) := by decide +kernel
theorem dX8_advance_169 : decode cX8_advance 169 = .ok (.iconst 2, 1) := by decide +kernel
theorem dX8_advance_170 : decode cX8_advance 170 = .ok (.goto 4, 3) := by decide +kernel
theorem dX8_advance_173 : decode cX8_advance 173 = .ok (.iconst 4, 1) := by decide +kernel
theorem dX8_advance_174 : decode cX8_advance 174 = .ok (.putfield 63, 3) := by decide +kernel
theorem dX8_advance_177 : decode cX8_advance 177 = .ok (.goto 28, 3) := by decide +kernel
theorem dX8_advance_180 : decode cX8_advance 180 = .ok (.aload_n 0, 1) := by decide +kernel
theorem dX8_advance_181 : decode cX8_advance 181 = .ok (.aload_n 0, 1) := by decide +kernel
theorem dX8_advance_182 : decode cX8_advance 182 = .ok (.getfield 217, 3) := by decide +kernel
theorem dX8_advance_185 : decode cX8_advance 185 = .ok (.iconst 1, 1) := by decide +kernel
theorem dX8_advance_186 : decode cX8_advance 186 = .ok (.iadd, 1) := by decide +kernel
theorem dX8_advance_187 : decode cX8_advance 187 = .ok (.putfield 53, 3) := by decide +kernel
theorem dX8_advance_190 : decode cX8_advance 190 = .ok (.aload_n 0, 1) := by decide +kernel
theorem dX8_advance_191 : decode cX8_advance 191 = .ok (.iload_n 1, 1) := by decide +kernel
theorem dX8_advance_192 : decode cX8_advance 192 = .ok (.bipush 59, 2) := by decide +kernel
theorem dX8_advance_194 : decode cX8_advance 194 = .ok (.if_icmp .ne 7, 3) := by decide +kernel
theorem dX8_advance_197 : decode cX8_advance 197 = .ok (.iconst 3, 1) := by decide +kernel
theorem dX8_advance_198 : decode cX8_advance 198 = .ok (.goto 4, 3) := by decide +kernel
theorem dX8_advance_201 : decode cX8_advance 201 = .ok (.iconst 4, 1) := by decide +kernel
theorem dX8_advance_202 : decode cX8_advance 202 = .ok (.putfield 63, 3) := by decide +kernel
theorem dX8_advance_205 : decode cX8_advance 205 = .ok (.return_, 1) := by decide +kernel
theorem dX8_runEnd_0 : decode cX8_runEnd 0 = .ok (.aload_n 0, 1) := by decide +kernel
theorem dX8_runEnd_1 : decode cX8_runEnd 1 = .ok (.getfield 217, 3) := by decide +kernel
theorem dX8_runEnd_4 : decode cX8_runEnd 4 = .ok (.istore_n 3, 1) := by decide +kernel
theorem dX8_runEnd_5 : decode cX8_runEnd 5 = .ok (.iload_n 3, 1) := by decide +kernel
theorem dX8_runEnd_6 : decode cX8_runEnd 6 = .ok (.aload_n 0, 1) := by decide +kernel
theorem dX8_runEnd_7 : decode cX8_runEnd 7 = .ok (.getfield 50, 3) := by decide +kernel
theorem dX8_runEnd_10 : decode cX8_runEnd 10 = .ok (.if_icmp .ge 29, 3) := by decide +kernel
theorem dX8_runEnd_13 : decode cX8_runEnd 13 = .ok (.aload_n 0, 1) := by decide +kernel
theorem dX8_runEnd_14 : decode cX8_runEnd 14 = .ok (.getfield 9, 3) := by decide +kernel
theorem dX8_runEnd_17 : decode cX8_runEnd 17 = .ok (.iload_n 3, 1) := by decide +kernel
theorem dX8_runEnd_18 : decode cX8_runEnd 18 = .ok (.baload, 1) := by decide +kernel
theorem dX8_runEnd_19 : decode cX8_runEnd 19 = .ok (.iload_n 1, 1) := by decide +kernel
theorem dX8_runEnd_20 : decode cX8_runEnd 20 = .ok (.if_icmp .lt 19, 3) := by decide +kernel
theorem dX8_runEnd_23 : decode cX8_runEnd 23 = .ok (.aload_n 0, 1) := by decide +kernel
theorem dX8_runEnd_24 : decode cX8_runEnd 24 = .ok (.getfield 9, 3) := by decide +kernel
theorem dX8_runEnd_27 : decode cX8_runEnd 27 = .ok (.iload_n 3, 1) := by decide +kernel
theorem dX8_runEnd_28 : decode cX8_runEnd 28 = .ok (.baload, 1) := by decide +kernel
theorem dX8_runEnd_29 : decode cX8_runEnd 29 = .ok (.iload_n 2, 1) := by decide +kernel
theorem dX8_runEnd_30 : decode cX8_runEnd 30 = .ok (.if_icmp .gt 9, 3) := by decide +kernel
theorem dX8_runEnd_33 : decode cX8_runEnd 33 = .ok (.iinc 3 1, 3) := by decide +kernel
theorem dX8_runEnd_36 : decode cX8_runEnd 36 = .ok (.goto (-31), 3) := by decide +kernel
theorem dX8_runEnd_39 : decode cX8_runEnd 39 = .ok (.iload_n 3, 1) := by decide +kernel
theorem dX8_runEnd_40 : decode cX8_runEnd 40 = .ok (.ireturn, 1) := by decide +kernel
theorem dX9_init_0 : decode cX9_init 0 = .ok (.aload_n 0, 1) := by decide +kernel
theorem dX9_init_1 : decode cX9_init 1 = .ok (.invokespecial 1, 3) := by decide +kernel
theorem dX9_init_4 : decode cX9_init 4 = .ok (.aload_n 0, 1) := by decide +kernel
theorem dX9_init_5 : decode cX9_init 5 = .ok (.new 7, 3) := by decide +kernel
theorem dX9_init_8 : decode cX9_init 8 = .ok (.dup, 1) := by decide +kernel
theorem dX9_init_9 : decode cX9_init 9 = .ok (.invokespecial 9, 3) := by decide +kernel
theorem dX9_init_12 : decode cX9_init 12 = .ok (.putfield 10, 3) := by decide +kernel
theorem dX9_init_15 : decode cX9_init 15 = .ok (.aload_n 0, 1) := by decide +kernel
theorem dX9_init_16 : decode cX9_init 16 = .ok (.new 16, 3) := by decide +kernel
theorem dX9_init_19 : decode cX9_init 19 = .ok (.dup, 1) := by decide +kernel
theorem dX9_init_20 : decode cX9_init 20 = .ok (.invokespecial 18, 3) := by decide +kernel
theorem dX9_init_23 : decode cX9_init 23 = .ok (.putfield 19, 3) := by decide +kernel
theorem dX9_init_26 : decode cX9_init 26 = .ok (.aload_n 0, 1) := by decide +kernel
theorem dX9_init_27 : decode cX9_init 27 = .ok (.new 23, 3) := by decide +kernel
theorem dX9_init_30 : decode cX9_init 30 = .ok (.dup, 1) := by decide +kernel
theorem dX9_init_31 : decode cX9_init 31 = .ok (.invokespecial 25, 3) := by decide +kernel
theorem dX9_init_34 : decode cX9_init 34 = .ok (.putfield 26, 3) := by decide +kernel
theorem dX9_init_37 : decode cX9_init 37 = .ok (.aload_n 0, 1) := by decide +kernel
theorem dX9_init_38 : decode cX9_init 38 = .ok (.new 30, 3) := by decide +kernel
theorem dX9_init_41 : decode cX9_init 41 = .ok (.dup, 1) := by decide +kernel
theorem dX9_init_42 : decode cX9_init 42 = .ok (.invokespecial 32, 3) := by decide +kernel
theorem dX9_init_45 : decode cX9_init 45 = .ok (.putfield 33, 3) := by decide +kernel
theorem dX9_init_48 : decode cX9_init 48 = .ok (.aload_n 0, 1) := by decide +kernel
theorem dX9_init_49 : decode cX9_init 49 = .ok (.new 37, 3) := by decide +kernel
theorem dX9_init_52 : decode cX9_init 52 = .ok (.dup, 1) := by decide +kernel
theorem dX9_init_53 : decode cX9_init 53 = .ok (.invokespecial 39, 3) := by decide +kernel
theorem dX9_init_56 : decode cX9_init 56 = .ok (.putfield 40, 3) := by decide +kernel
theorem dX9_init_59 : decode cX9_init 59 = .ok (.aload_n 0, 1) := by decide +kernel
theorem dX9_init_60 : decode cX9_init 60 = .ok (.new 44, 3) := by decide +kernel
theorem dX9_init_63 : decode cX9_init 63 = .ok (.dup, 1) := by decide +kernel
theorem dX9_init_64 : decode cX9_init 64 = .ok (.invokespecial 46, 3) := by decide +kernel
theorem dX9_init_67 : decode cX9_init 67 = .ok (.putfield 47, 3) := by decide +kernel
theorem dX9_init_70 : decode cX9_init 70 = .ok (.aload_n 0, 1) := by decide +kernel
theorem dX9_init_71 : decode cX9_init 71 = .ok (.new 51, 3) := by decide +kernel
theorem dX9_init_74 : decode cX9_init 74 = .ok (.dup, 1) := by decide +kernel
theorem dX9_init_75 : decode cX9_init 75 = .ok (.invokespecial 53, 3) := by decide +kernel
theorem dX9_init_78 : decode cX9_init 78 = .ok (.putfield 54, 3) := by decide +kernel
theorem dX9_init_81 : decode cX9_init 81 = .ok (.aload_n 0, 1) := by decide +kernel
theorem dX9_init_82 : decode cX9_init 82 = .ok (.new 58, 3) := by decide +kernel
theorem dX9_init_85 : decode cX9_init 85 = .ok (.dup, 1) := by decide +kernel
theorem dX9_init_86 : decode cX9_init 86 = .ok (.invokespecial 60, 3) := by decide +kernel
theorem dX9_init_89 : decode cX9_init 89 = .ok (.putfield 61, 3) := by decide +kernel
theorem dX9_init_92 : decode cX9_init 92 = .ok (.aload_n 0, 1) := by decide +kernel
theorem dX9_init_93 : decode cX9_init 93 = .ok (.new 58, 3) := by decide +kernel
theorem dX9_init_96 : decode cX9_init 96 = .ok (.dup, 1) := by decide +kernel
theorem dX9_init_97 : decode cX9_init 97 = .ok (.invokespecial 60, 3) := by decide +kernel
theorem dX9_init_100 : decode cX9_init 100 = .ok (.putfield 65, 3) := by decide +kernel
theorem dX9_init_103 : decode cX9_init 103 = .ok (.aload_n 0, 1) := by decide +kernel
theorem dX9_init_104 : decode cX9_init 104 = .ok (.iconst 0, 1) := by decide +kernel
theorem dX9_init_105 : decode cX9_init 105 = .ok (.putfield 68, 3) := by decide +kernel
theorem dX9_init_108 : decode cX9_init 108 = .ok (.aload_n 0, 1) := by decide +kernel
theorem dX9_init_109 : decode cX9_init 109 = .ok (.iconst 0, 1) := by decide +kernel
theorem dX9_init_110 : decode cX9_init 110 = .ok (.putfield 72, 3) := by decide +kernel
theorem dX9_init_113 : decode cX9_init 113 = .ok (.return_, 1) := by decide +kernel
theorem dX9_feed_0 : decode cX9_feed 0 = .ok (.aload_n 0, 1) := by decide +kernel
theorem dX9_feed_1 : decode cX9_feed 1 = .ok (.getfield 10, 3) := by decide +kernel
theorem dX9_feed_4 : decode cX9_feed 4 = .ok (.getfield 75, 3) := by decide +kernel
theorem dX9_feed_7 : decode cX9_feed 7 = .ok (.bipush 20, 2) := by decide +kernel
theorem dX9_feed_9 : decode cX9_feed 9 = .ok (.iadd, 1) := by decide +kernel
theorem dX9_feed_10 : decode cX9_feed 10 = .ok (.sipush 900, 3) := by decide +kernel
theorem dX9_feed_13 : decode cX9_feed 13 = .ok (.if_icmp .le 5, 3) := by decide +kernel
theorem dX9_feed_16 : decode cX9_feed 16 = .ok (.iconst (-1), 1) := by decide +kernel
theorem dX9_feed_17 : decode cX9_feed 17 = .ok (.ireturn, 1) := by decide +kernel
theorem dX9_feed_18 : decode cX9_feed 18 = .ok (.aload_n 0, 1) := by decide +kernel
theorem dX9_feed_19 : decode cX9_feed 19 = .ok (.getfield 10, 3) := by decide +kernel
theorem dX9_feed_22 : decode cX9_feed 22 = .ok (.iload_n 1, 1) := by decide +kernel
theorem dX9_feed_23 : decode cX9_feed 23 = .ok (.invokevirtual 78, 3) := by decide +kernel
theorem dX9_feed_26 : decode cX9_feed 26 = .ok (.aload_n 0, 1) := by decide +kernel
theorem dX9_feed_27 : decode cX9_feed 27 = .ok (.getfield 10, 3) := by decide +kernel
theorem dX9_feed_30 : decode cX9_feed 30 = .ok (.iload_n 2, 1) := by decide +kernel
theorem dX9_feed_31 : decode cX9_feed 31 = .ok (.invokevirtual 78, 3) := by decide +kernel
theorem dX9_feed_34 : decode cX9_feed 34 = .ok (.aload_n 0, 1) := by decide +kernel
theorem dX9_feed_35 : decode cX9_feed 35 = .ok (.getfield 10, 3) := by decide +kernel
theorem dX9_feed_38 : decode cX9_feed 38 = .ok (.iload_n 3, 1) := by decide +kernel
theorem dX9_feed_39 : decode cX9_feed 39 = .ok (.invokevirtual 78, 3) := by decide +kernel
theorem dX9_feed_42 : decode cX9_feed 42 = .ok (.aload_n 0, 1) := by decide +kernel
theorem dX9_feed_43 : decode cX9_feed 43 = .ok (.getfield 10, 3) := by decide +kernel
theorem dX9_feed_46 : decode cX9_feed 46 = .ok (.iload 4, 2) := by decide +kernel
theorem dX9_feed_48 : decode cX9_feed 48 = .ok (.invokevirtual 78, 3) := by decide +kernel
theorem dX9_feed_51 : decode cX9_feed 51 = .ok (.aload_n 0, 1) := by decide +kernel
theorem dX9_feed_52 : decode cX9_feed 52 = .ok (.getfield 10, 3) := by decide +kernel
theorem dX9_feed_55 : decode cX9_feed 55 = .ok (.iload 5, 2) := by decide +kernel
theorem dX9_feed_57 : decode cX9_feed 57 = .ok (.invokevirtual 78, 3) := by decide +kernel
theorem dX9_feed_60 : decode cX9_feed 60 = .ok (.aload_n 0, 1) := by decide +kernel
theorem dX9_feed_61 : decode cX9_feed 61 = .ok (.getfield 10, 3) := by decide +kernel
theorem dX9_feed_64 : decode cX9_feed 64 = .ok (.getfield 75, 3) := by decide +kernel
theorem dX9_feed_67 : decode cX9_feed 67 = .ok (.ireturn, 1) := by decide +kernel
theorem dX9_duchy_0 : decode cX9_duchy 0 = .ok (.iload_n 1, 1) := by decide +kernel
theorem dX9_duchy_1 : decode cX9_duchy 1 = .ok (.ifCond .lt 14, 3) := by decide +kernel
theorem dX9_duchy_4 : decode cX9_duchy 4 = .ok (.iload_n 1, 1) := by decide +kernel
theorem dX9_duchy_5 : decode cX9_duchy 5 = .ok (.aload_n 0, 1) := by decide +kernel
theorem dX9_duchy_6 : decode cX9_duchy 6 = .ok (.getfield 10, 3) := by decide +kernel
theorem dX9_duchy_9 : decode cX9_duchy 9 = .ok (.getfield 75, 3) := by decide +kernel
theorem dX9_duchy_12 : decode cX9_duchy 12 = .ok (.if_icmp .le 9, 3) := by decide +kernel
theorem dX9_duchy_15 : decode cX9_duchy 15 = .ok (.aload_n 0, 1) := by decide +kernel
theorem dX9_duchy_16 : decode cX9_duchy 16 = .ok (.iconst 2, 1) := by decide +kernel
theorem dX9_duchy_17 : decode cX9_duchy 17 = .ok (.invokevirtual 82, 3) := by decide +kernel
theorem dX9_duchy_20 : decode cX9_duchy 20 = .ok (.ireturn, 1) := by decide +kernel
theorem dX9_duchy_21 : decode cX9_duchy 21 = .ok (.aload_n 0, 1) := by decide +kernel
theorem dX9_duchy_22 : decode cX9_duchy 22 = .ok (.aload_n 0, 1) := by decide +kernel
theorem dX9_duchy_23 : decode cX9_duchy 23 = .ok (.getfield 10, 3) := by decide +kernel
theorem dX9_duchy_26 : decode cX9_duchy 26 = .ok (.aload_n 0, 1) := by decide +kernel
theorem dX9_duchy_27 : decode cX9_duchy 27 = .ok (.getfield 65, 3) := by decide +kernel
theorem dX9_duchy_30 : decode cX9_duchy 30 = .ok (.iload_n 1, 1) := by decide +kernel
theorem dX9_duchy_31 : decode cX9_duchy 31 = .ok (.invokevirtual 86, 3) := by decide +kernel
theorem dX9_duchy_34 : decode cX9_duchy 34 = .ok (.putfield 68, 3) := by decide +kernel
theorem dX9_duchy_37 : decode cX9_duchy 37 = .ok (.aload_n 0, 1) := by decide +kernel
theorem dX9_duchy_38 : decode cX9_duchy 38 = .ok (.getfield 10, 3) := by decide +kernel
theorem dX9_duchy_41 : decode cX9_duchy 41 = .ok (.iconst 0, 1) := by decide +kernel
theorem dX9_duchy_42 : decode cX9_duchy 42 = .ok (.putfield 75, 3) := by decide +kernel
theorem dX9_duchy_45 : decode cX9_duchy 45 = .ok (.aload_n 0, 1) := by decide +kernel
theorem dX9_duchy_46 : decode cX9_duchy 46 = .ok (.getfield 68, 3) := by decide +kernel
theorem dX9_duchy_49 : decode cX9_duchy 49 = .ok (.ifCond .eq 9, 3) := by decide +kernel
theorem dX9_duchy_52 : decode cX9_duchy 52 = .ok (.aload_n 0, 1) := by decide +kernel
theorem dX9_duchy_53 : decode cX9_duchy 53 = .ok (.iconst 4, 1) := by decide +kernel
theorem dX9_duchy_54 : decode cX9_duchy 54 = .ok (.invokevirtual 82, 3) := by decide +kernel
theorem dX9_duchy_57 : decode cX9_duchy 57 = .ok (.ireturn, 1) := by decide +kernel
theorem dX9_duchy_58 : decode cX9_duchy 58 = .ok (.aload_n 0, 1) := by decide +kernel
theorem dX9_duchy_59 : decode cX9_duchy 59 = .ok (.getfield 61, 3) := by decide +kernel
theorem dX9_duchy_62 : decode cX9_duchy 62 = .ok (.astore_n 2, 1) := by decide +kernel
theorem dX9_duchy_63 : decode cX9_duchy 63 = .ok (.aload_n 0, 1) := by decide +kernel
theorem dX9_duchy_64 : decode cX9_duchy 64 = .ok (.aload_n 0, 1) := by decide +kernel
theorem dX9_duchy_65 : decode cX9_duchy 65 = .ok (.getfield 65, 3) := by decide +kernel
theorem dX9_duchy_68 : decode cX9_duchy 68 = .ok (.putfield 61, 3) := by decide +kernel
theorem dX9_duchy_71 : decode cX9_duchy 71 = .ok (.aload_n 0, 1) := by decide +kernel
theorem dX9_duchy_72 : decode cX9_duchy 72 = .ok (.aload_n 2, 1) := by decide +kernel
theorem dX9_duchy_73 : decode cX9_duchy 73 = .ok (.putfield 65, 3) := by decide +kernel
theorem dX9_duchy_76 : decode cX9_duchy 76 = .ok (.aload_n 0, 1) := by decide +kernel
theorem dX9_duchy_77 : decode cX9_duchy 77 = .ok (.getfield 19, 3) := by decide +kernel
theorem dX9_duchy_80 : decode cX9_duchy 80 = .ok (.aload_n 0, 1) := by decide +kernel
theorem dX9_duchy_81 : decode cX9_duchy 81 = .ok (.getfield 61, 3) := by decide +kernel
theorem dX9_duchy_84 : decode cX9_duchy 84 = .ok (.invokevirtual 90, 3) := by decide +kernel
theorem dX9_duchy_87 : decode cX9_duchy 87 = .ok (.aload_n 0, 1) := by decide +kernel
theorem dX9_duchy_88 : decode cX9_duchy 88 = .ok (.getfield 26, 3) := by decide +kernel
theorem dX9_duchy_91 : decode cX9_duchy 91 = .ok (.invokevirtual 94, 3) := by decide +kernel
theorem dX9_duchy_94 : decode cX9_duchy 94 = .ok (.aload_n 0, 1) := by decide +kernel
theorem dX9_duchy_95 : decode cX9_duchy 95 = .ok (.aload_n 0, 1) := by decide +kernel
theorem dX9_duchy_96 : decode cX9_duchy 96 = .ok (.getfield 61, 3) := by decide +kernel
theorem dX9_duchy_99 : decode cX9_duchy 99 = .ok (.getfield 97, 3) := by decide +kernel
theorem dX9_duchy_102 : decode cX9_duchy 102 = .ok (.invokevirtual 100, 3) := by decide +kernel
theorem dX9_duchy_105 : decode cX9_duchy 105 = .ok (.ireturn, 1) := by decide +kernel
theorem dX9_fault_0 : decode cX9_fault 0 = .ok (.aload_n 0, 1) := by decide +kernel
theorem dX9_fault_1 : decode cX9_fault 1 = .ok (.getfield 68, 3) := by decide +kernel
theorem dX9_fault_4 : decode cX9_fault 4 = .ok (.ireturn, 1) := by decide +kernel
theorem dX9_where_0 : decode cX9_where 0 = .ok (.aload_n 0, 1) := by decide +kernel
theorem dX9_where_1 : decode cX9_where 1 = .ok (.getfield 72, 3) := by decide +kernel
theorem dX9_where_4 : decode cX9_where 4 = .ok (.iconst 4, 1) := by decide +kernel
theorem dX9_where_5 : decode cX9_where 5 = .ok (.if_icmp .ne 13, 3) := by decide +kernel
theorem dX9_where_8 : decode cX9_where 8 = .ok (.aload_n 0, 1) := by decide +kernel
theorem dX9_where_9 : decode cX9_where 9 = .ok (.getfield 10, 3) := by decide +kernel
theorem dX9_where_12 : decode cX9_where 12 = .ok (.getfield 103, 3) := by decide +kernel
theorem dX9_where_15 : decode cX9_where 15 = .ok (.goto 4, 3) := by decide +kernel
theorem dX9_where_18 : decode cX9_where 18 = .ok (.iconst (-1), 1) := by decide +kernel
theorem dX9_where_19 : decode cX9_where 19 = .ok (.ireturn, 1) := by decide +kernel
theorem dX9_man_0 : decode cX9_man 0 = .ok (.aload_n 0, 1) := by decide +kernel
theorem dX9_man_1 : decode cX9_man 1 = .ok (.iload_n 1, 1) := by decide +kernel
theorem dX9_man_2 : decode cX9_man 2 = .ok (.invokevirtual 106, 3) := by decide +kernel
theorem dX9_man_5 : decode cX9_man 5 = .ok (.ifCond .eq 13, 3) := by decide +kernel
theorem dX9_man_8 : decode cX9_man 8 = .ok (.iload_n 2, 1) := by decide +kernel
theorem dX9_man_9 : decode cX9_man 9 = .ok (.ifCond .lt 9, 3) := by decide +kernel
theorem dX9_man_12 : decode cX9_man 12 = .ok (.iload_n 2, 1) := by decide +kernel
theorem dX9_man_13 : decode cX9_man 13 = .ok (.bipush 7, 2) := by decide +kernel
theorem dX9_man_15 : decode cX9_man 15 = .ok (.if_icmp .le 9, 3) := by decide +kernel
theorem dX9_man_18 : decode cX9_man 18 = .ok (.aload_n 0, 1) := by decide +kernel
theorem dX9_man_19 : decode cX9_man 19 = .ok (.iconst 1, 1) := by decide +kernel
theorem dX9_man_20 : decode cX9_man 20 = .ok (.invokevirtual 82, 3) := by decide +kernel
theorem dX9_man_23 : decode cX9_man 23 = .ok (.ireturn, 1) := by decide +kernel
theorem dX9_man_24 : decode cX9_man 24 = .ok (.aload_n 0, 1) := by decide +kernel
theorem dX9_man_25 : decode cX9_man 25 = .ok (.aload_n 0, 1) := by decide +kernel
theorem dX9_man_26 : decode cX9_man 26 = .ok (.iload_n 1, 1) := by decide +kernel
theorem dX9_man_27 : decode cX9_man 27 = .ok (.iload_n 2, 1) := by decide +kernel
theorem dX9_man_28 : decode cX9_man 28 = .ok (.invokevirtual 110, 3) := by decide +kernel
theorem dX9_man_31 : decode cX9_man 31 = .ok (.invokevirtual 100, 3) := by decide +kernel
theorem dX9_man_34 : decode cX9_man 34 = .ok (.ireturn, 1) := by decide +kernel
theorem dX9_debt_0 : decode cX9_debt 0 = .ok (.aload_n 0, 1) := by decide +kernel
theorem dX9_debt_1 : decode cX9_debt 1 = .ok (.iload_n 1, 1) := by decide +kernel
theorem dX9_debt_2 : decode cX9_debt 2 = .ok (.invokevirtual 114, 3) := by decide +kernel
theorem dX9_debt_5 : decode cX9_debt 5 = .ok (.ifCond .eq 12, 3) := by decide +kernel
theorem dX9_debt_8 : decode cX9_debt 8 = .ok (.iload_n 2, 1) := by decide +kernel
theorem dX9_debt_9 : decode cX9_debt 9 = .ok (.ifCond .lt 8, 3) := by decide +kernel
theorem dX9_debt_12 : decode cX9_debt 12 = .ok (.iload_n 2, 1) := by decide +kernel
theorem dX9_debt_13 : decode cX9_debt 13 = .ok (.iconst 5, 1) := by decide +kernel
theorem dX9_debt_14 : decode cX9_debt 14 = .ok (.if_icmp .le 9, 3) := by decide +kernel
theorem dX9_debt_17 : decode cX9_debt 17 = .ok (.aload_n 0, 1) := by decide +kernel
theorem dX9_debt_18 : decode cX9_debt 18 = .ok (.iconst 1, 1) := by decide +kernel
theorem dX9_debt_19 : decode cX9_debt 19 = .ok (.invokevirtual 82, 3) := by decide +kernel
theorem dX9_debt_22 : decode cX9_debt 22 = .ok (.ireturn, 1) := by decide +kernel
theorem dX9_debt_23 : decode cX9_debt 23 = .ok (.aload_n 0, 1) := by decide +kernel
theorem dX9_debt_24 : decode cX9_debt 24 = .ok (.aload_n 0, 1) := by decide +kernel
theorem dX9_debt_25 : decode cX9_debt 25 = .ok (.iload_n 1, 1) := by decide +kernel
theorem dX9_debt_26 : decode cX9_debt 26 = .ok (.iload_n 2, 1) := by decide +kernel
theorem dX9_debt_27 : decode cX9_debt 27 = .ok (.invokevirtual 117, 3) := by decide +kernel
theorem dX9_debt_30 : decode cX9_debt 30 = .ok (.invokevirtual 100, 3) := by decide +kernel
theorem dX9_debt_33 : decode cX9_debt 33 = .ok (.ireturn, 1) := by decide +kernel
theorem dX9_door_0 : decode cX9_door 0 = .ok (.aload_n 0, 1) := by decide +kernel
theorem dX9_door_1 : decode cX9_door 1 = .ok (.iload_n 1, 1) := by decide +kernel
theorem dX9_door_2 : decode cX9_door 2 = .ok (.invokevirtual 120, 3) := by decide +kernel
theorem dX9_door_5 : decode cX9_door 5 = .ok (.ifCond .eq 12, 3) := by decide +kernel
theorem dX9_door_8 : decode cX9_door 8 = .ok (.iload_n 2, 1) := by decide +kernel
theorem dX9_door_9 : decode cX9_door 9 = .ok (.ifCond .lt 8, 3) := by decide +kernel
theorem dX9_door_12 : decode cX9_door 12 = .ok (.iload_n 2, 1) := by decide +kernel
theorem dX9_door_13 : decode cX9_door 13 = .ok (.iconst 2, 1) := by decide +kernel
theorem dX9_door_14 : decode cX9_door 14 = .ok (.if_icmp .le 9, 3) := by decide +kernel
theorem dX9_door_17 : decode cX9_door 17 = .ok (.aload_n 0, 1) := by decide +kernel
theorem dX9_door_18 : decode cX9_door 18 = .ok (.iconst 1, 1) := by decide +kernel
theorem dX9_door_19 : decode cX9_door 19 = .ok (.invokevirtual 82, 3) := by decide +kernel
theorem dX9_door_22 : decode cX9_door 22 = .ok (.ireturn, 1) := by decide +kernel
theorem dX9_door_23 : decode cX9_door 23 = .ok (.iload_n 2, 1) := by decide +kernel
theorem dX9_door_24 : decode cX9_door 24 = .ok (.ifCond .ne 17, 3) := by decide +kernel
theorem dX9_door_27 : decode cX9_door 27 = .ok (.aload_n 0, 1) := by decide +kernel
theorem dX9_door_28 : decode cX9_door 28 = .ok (.aload_n 0, 1) := by decide +kernel
theorem dX9_door_29 : decode cX9_door 29 = .ok (.getfield 61, 3) := by decide +kernel
theorem dX9_door_32 : decode cX9_door 32 = .ok (.getfield 123, 3) := by decide +kernel
theorem dX9_door_35 : decode cX9_door 35 = .ok (.iload_n 1, 1) := by decide +kernel
theorem dX9_door_36 : decode cX9_door 36 = .ok (.iaload, 1) := by decide +kernel
theorem dX9_door_37 : decode cX9_door 37 = .ok (.invokevirtual 100, 3) := by decide +kernel
theorem dX9_door_40 : decode cX9_door 40 = .ok (.ireturn, 1) := by decide +kernel
theorem dX9_door_41 : decode cX9_door 41 = .ok (.aload_n 0, 1) := by decide +kernel
theorem dX9_door_42 : decode cX9_door 42 = .ok (.iload_n 2, 1) := by decide +kernel
theorem dX9_door_43 : decode cX9_door 43 = .ok (.iconst 1, 1) := by decide +kernel
theorem dX9_door_44 : decode cX9_door 44 = .ok (.if_icmp .ne 18, 3) := by decide +kernel
theorem dX9_door_47 : decode cX9_door 47 = .ok (.aload_n 0, 1) := by decide +kernel
theorem dX9_door_48 : decode cX9_door 48 = .ok (.getfield 61, 3) := by decide +kernel
theorem dX9_door_51 : decode cX9_door 51 = .ok (.aload_n 0, 1) := by decide +kernel
theorem dX9_door_52 : decode cX9_door 52 = .ok (.getfield 19, 3) := by decide +kernel
theorem dX9_door_55 : decode cX9_door 55 = .ok (.iload_n 1, 1) := by decide +kernel
theorem dX9_door_56 : decode cX9_door 56 = .ok (.invokevirtual 127, 3) := by decide +kernel
theorem dX9_door_59 : decode cX9_door 59 = .ok (.goto 11, 3) := by decide +kernel
theorem dX9_door_62 : decode cX9_door 62 = .ok (.aload_n 0, 1) := by decide +kernel
theorem dX9_door_63 : decode cX9_door 63 = .ok (.getfield 61, 3) := by decide +kernel
theorem dX9_door_66 : decode cX9_door 66 = .ok (.iload_n 1, 1) := by decide +kernel
theorem dX9_door_67 : decode cX9_door 67 = .ok (.invokevirtual 131, 3) := by decide +kernel
theorem dX9_door_70 : decode cX9_door 70 = .ok (.invokevirtual 100, 3) := by decide +kernel
theorem dX9_door_73 : decode cX9_door 73 = .ok (.ireturn, 1) := by decide +kernel
theorem dX9_heads_0 : decode cX9_heads 0 = .ok (.aload_n 0, 1) := by decide +kernel
theorem dX9_heads_1 : decode cX9_heads 1 = .ok (.invokevirtual 134, 3) := by decide +kernel
theorem dX9_heads_4 : decode cX9_heads 4 = .ok (.ifCond .eq 11, 3) := by decide +kernel
theorem dX9_heads_7 : decode cX9_heads 7 = .ok (.aload_n 0, 1) := by decide +kernel
theorem dX9_heads_8 : decode cX9_heads 8 = .ok (.iconst 1, 1) := by decide +kernel
theorem dX9_heads_9 : decode cX9_heads 9 = .ok (.invokevirtual 82, 3) := by decide +kernel
theorem dX9_heads_12 : decode cX9_heads 12 = .ok (.goto 25, 3) := by decide +kernel
theorem dX9_heads_15 : decode cX9_heads 15 = .ok (.aload_n 0, 1) := by decide +kernel
theorem dX9_heads_16 : decode cX9_heads 16 = .ok (.aload_n 0, 1) := by decide +kernel
theorem dX9_heads_17 : decode cX9_heads 17 = .ok (.getfield 61, 3) := by decide +kernel
theorem dX9_heads_20 : decode cX9_heads 20 = .ok (.aload_n 0, 1) := by decide +kernel
theorem dX9_heads_21 : decode cX9_heads 21 = .ok (.getfield 19, 3) := by decide +kernel
theorem dX9_heads_24 : decode cX9_heads 24 = .ok (.aload_n 0, 1) := by decide +kernel
theorem dX9_heads_25 : decode cX9_heads 25 = .ok (.getfield 19, 3) := by decide +kernel
theorem dX9_heads_28 : decode cX9_heads 28 = .ok (.getfield 138, 3) := by decide +kernel
theorem dX9_heads_31 : decode cX9_heads 31 = .ok (.invokevirtual 141, 3) := by decide +kernel
theorem dX9_heads_34 : decode cX9_heads 34 = .ok (.invokevirtual 100, 3) := by decide +kernel
theorem dX9_heads_37 : decode cX9_heads 37 = .ok (.ireturn, 1) := by decide +kernel
theorem dX9_greatest_0 : decode cX9_greatest 0 = .ok (.aload_n 0, 1) := by decide +kernel
theorem dX9_greatest_1 : decode cX9_greatest 1 = .ok (.invokevirtual 134, 3) := by decide +kernel
theorem dX9_greatest_4 : decode cX9_greatest 4 = .ok (.ifCond .eq 9, 3) := by decide +kernel
theorem dX9_greatest_7 : decode cX9_greatest 7 = .ok (.aload_n 0, 1) := by decide +kernel
theorem dX9_greatest_8 : decode cX9_greatest 8 = .ok (.iconst 1, 1) := by decide +kernel
theorem dX9_greatest_9 : decode cX9_greatest 9 = .ok (.invokevirtual 82, 3) := by decide +kernel
theorem dX9_greatest_12 : decode cX9_greatest 12 = .ok (.ireturn, 1) := by decide +kernel
theorem dX9_greatest_13 : decode cX9_greatest 13 = .ok (.iconst 0, 1) := by decide +kernel
theorem dX9_greatest_14 : decode cX9_greatest 14 = .ok (.istore_n 1, 1) := by decide +kernel
theorem dX9_greatest_15 : decode cX9_greatest 15 = .ok (.iconst 1, 1) := by decide +kernel
theorem dX9_greatest_16 : decode cX9_greatest 16 = .ok (.istore_n 2, 1) := by decide +kernel
theorem dX9_greatest_17 : decode cX9_greatest 17 = .ok (.iload_n 2, 1) := by decide +kernel
theorem dX9_greatest_18 : decode cX9_greatest 18 = .ok (.aload_n 0, 1) := by decide +kernel
theorem dX9_greatest_19 : decode cX9_greatest 19 = .ok (.getfield 61, 3) := by decide +kernel
theorem dX9_greatest_22 : decode cX9_greatest 22 = .ok (.getfield 97, 3) := by decide +kernel
theorem dX9_greatest_25 : decode cX9_greatest 25 = .ok (.if_icmp .ge 24, 3) := by decide +kernel
theorem dX9_greatest_28 : decode cX9_greatest 28 = .ok (.aload_n 0, 1) := by decide +kernel
theorem dX9_greatest_29 : decode cX9_greatest 29 = .ok (.iload_n 2, 1) := by decide +kernel
theorem dX9_greatest_30 : decode cX9_greatest 30 = .ok (.invokevirtual 144, 3) := by decide +kernel
theorem dX9_greatest_33 : decode cX9_greatest 33 = .ok (.aload_n 0, 1) := by decide +kernel
theorem dX9_greatest_34 : decode cX9_greatest 34 = .ok (.iload_n 1, 1) := by decide +kernel
theorem dX9_greatest_35 : decode cX9_greatest 35 = .ok (.invokevirtual 144, 3) := by decide +kernel
theorem dX9_greatest_38 : decode cX9_greatest 38 = .ok (.if_icmp .le 5, 3) := by decide +kernel
theorem dX9_greatest_41 : decode cX9_greatest 41 = .ok (.iload_n 2, 1) := by decide +kernel
theorem dX9_greatest_42 : decode cX9_greatest 42 = .ok (.istore_n 1, 1) := by decide +kernel
theorem dX9_greatest_43 : decode cX9_greatest 43 = .ok (.iinc 2 1, 3) := by decide +kernel
theorem dX9_greatest_46 : decode cX9_greatest 46 = .ok (.goto (-29), 3) := by decide +kernel
theorem dX9_greatest_49 : decode cX9_greatest 49 = .ok (.aload_n 0, 1) := by decide +kernel
theorem dX9_greatest_50 : decode cX9_greatest 50 = .ok (.iload_n 1, 1) := by decide +kernel
theorem dX9_greatest_51 : decode cX9_greatest 51 = .ok (.invokevirtual 100, 3) := by decide +kernel
theorem dX9_greatest_54 : decode cX9_greatest 54 = .ok (.ireturn, 1) := by decide +kernel
theorem dX9_bald_0 : decode cX9_bald 0 = .ok (.aload_n 0, 1) := by decide +kernel
theorem dX9_bald_1 : decode cX9_bald 1 = .ok (.invokevirtual 134, 3) := by decide +kernel
theorem dX9_bald_4 : decode cX9_bald 4 = .ok (.ifCond .eq 9, 3) := by decide +kernel
theorem dX9_bald_7 : decode cX9_bald 7 = .ok (.aload_n 0, 1) := by decide +kernel
theorem dX9_bald_8 : decode cX9_bald 8 = .ok (.iconst 1, 1) := by decide +kernel
theorem dX9_bald_9 : decode cX9_bald 9 = .ok (.invokevirtual 82, 3) := by decide +kernel
theorem dX9_bald_12 : decode cX9_bald 12 = .ok (.ireturn, 1) := by decide +kernel
theorem dX9_bald_13 : decode cX9_bald 13 = .ok (.iconst 0, 1) := by decide +kernel
theorem dX9_bald_14 : decode cX9_bald 14 = .ok (.istore_n 1, 1) := by decide +kernel
theorem dX9_bald_15 : decode cX9_bald 15 = .ok (.iconst 0, 1) := by decide +kernel
theorem dX9_bald_16 : decode cX9_bald 16 = .ok (.istore_n 2, 1) := by decide +kernel
theorem dX9_bald_17 : decode cX9_bald 17 = .ok (.iload_n 2, 1) := by decide +kernel
theorem dX9_bald_18 : decode cX9_bald 18 = .ok (.aload_n 0, 1) := by decide +kernel
theorem dX9_bald_19 : decode cX9_bald 19 = .ok (.getfield 61, 3) := by decide +kernel
theorem dX9_bald_22 : decode cX9_bald 22 = .ok (.getfield 97, 3) := by decide +kernel
theorem dX9_bald_25 : decode cX9_bald 25 = .ok (.if_icmp .ge 23, 3) := by decide +kernel
theorem dX9_bald_28 : decode cX9_bald 28 = .ok (.aload_n 0, 1) := by decide +kernel
theorem dX9_bald_29 : decode cX9_bald 29 = .ok (.iload_n 2, 1) := by decide +kernel
theorem dX9_bald_30 : decode cX9_bald 30 = .ok (.invokevirtual 144, 3) := by decide +kernel
theorem dX9_bald_33 : decode cX9_bald 33 = .ok (.ifCond .ne 9, 3) := by decide +kernel
theorem dX9_bald_36 : decode cX9_bald 36 = .ok (.iload_n 1, 1) := by decide +kernel
theorem dX9_bald_37 : decode cX9_bald 37 = .ok (.iconst 1, 1) := by decide +kernel
theorem dX9_bald_38 : decode cX9_bald 38 = .ok (.iload_n 2, 1) := by decide +kernel
theorem dX9_bald_39 : decode cX9_bald 39 = .ok (.ishl, 1) := by decide +kernel
theorem dX9_bald_40 : decode cX9_bald 40 = .ok (.ior, 1) := by decide +kernel
theorem dX9_bald_41 : decode cX9_bald 41 = .ok (.istore_n 1, 1) := by decide +kernel
theorem dX9_bald_42 : decode cX9_bald 42 = .ok (.iinc 2 1, 3) := by decide +kernel
theorem dX9_bald_45 : decode cX9_bald 45 = .ok (.goto (-28), 3) := by decide +kernel
theorem dX9_bald_48 : decode cX9_bald 48 = .ok (.aload_n 0, 1) := by decide +kernel
theorem dX9_bald_49 : decode cX9_bald 49 = .ok (.iload_n 1, 1) := by decide +kernel
theorem dX9_bald_50 : decode cX9_bald 50 = .ok (.invokevirtual 100, 3) := by decide +kernel
theorem dX9_bald_53 : decode cX9_bald 53 = .ok (.ireturn, 1) := by decide +kernel
theorem dX9_headIn_0 : decode cX9_headIn 0 = .ok (.aload_n 0, 1) := by decide +kernel
theorem dX9_headIn_1 : decode cX9_headIn 1 = .ok (.iload_n 1, 1) := by decide +kernel
theorem dX9_headIn_2 : decode cX9_headIn 2 = .ok (.invokevirtual 106, 3) := by decide +kernel
theorem dX9_headIn_5 : decode cX9_headIn 5 = .ok (.ifCond .ne 9, 3) := by decide +kernel
theorem dX9_headIn_8 : decode cX9_headIn 8 = .ok (.aload_n 0, 1) := by decide +kernel
theorem dX9_headIn_9 : decode cX9_headIn 9 = .ok (.iconst 1, 1) := by decide +kernel
theorem dX9_headIn_10 : decode cX9_headIn 10 = .ok (.invokevirtual 82, 3) := by decide +kernel
theorem dX9_headIn_13 : decode cX9_headIn 13 = .ok (.ireturn, 1) := by decide +kernel
theorem dX9_headIn_14 : decode cX9_headIn 14 = .ok (.iload_n 2, 1) := by decide +kernel
theorem dX9_headIn_15 : decode cX9_headIn 15 = .ok (.ifCond .lt 9, 3) := by decide +kernel
theorem dX9_headIn_18 : decode cX9_headIn 18 = .ok (.iload_n 2, 1) := by decide +kernel
theorem dX9_headIn_19 : decode cX9_headIn 19 = .ok (.bipush 20, 2) := by decide +kernel
theorem dX9_headIn_21 : decode cX9_headIn 21 = .ok (.if_icmp .le 9, 3) := by decide +kernel
theorem dX9_headIn_24 : decode cX9_headIn 24 = .ok (.aload_n 0, 1) := by decide +kernel
theorem dX9_headIn_25 : decode cX9_headIn 25 = .ok (.iconst 2, 1) := by decide +kernel
theorem dX9_headIn_26 : decode cX9_headIn 26 = .ok (.invokevirtual 82, 3) := by decide +kernel
theorem dX9_headIn_29 : decode cX9_headIn 29 = .ok (.ireturn, 1) := by decide +kernel
theorem dX9_headIn_30 : decode cX9_headIn 30 = .ok (.aload_n 0, 1) := by decide +kernel
theorem dX9_headIn_31 : decode cX9_headIn 31 = .ok (.aload_n 0, 1) := by decide +kernel
theorem dX9_headIn_32 : decode cX9_headIn 32 = .ok (.getfield 61, 3) := by decide +kernel
theorem dX9_headIn_35 : decode cX9_headIn 35 = .ok (.aload_n 0, 1) := by decide +kernel
theorem dX9_headIn_36 : decode cX9_headIn 36 = .ok (.getfield 19, 3) := by decide +kernel
theorem dX9_headIn_39 : decode cX9_headIn 39 = .ok (.iload_n 1, 1) := by decide +kernel
theorem dX9_headIn_40 : decode cX9_headIn 40 = .ok (.aload_n 0, 1) := by decide +kernel
theorem dX9_headIn_41 : decode cX9_headIn 41 = .ok (.getfield 19, 3) := by decide +kernel
theorem dX9_headIn_44 : decode cX9_headIn 44 = .ok (.getfield 138, 3) := by decide +kernel
theorem dX9_headIn_47 : decode cX9_headIn 47 = .ok (.iload_n 2, 1) := by decide +kernel
theorem dX9_headIn_48 : decode cX9_headIn 48 = .ok (.iadd, 1) := by decide +kernel
theorem dX9_headIn_49 : decode cX9_headIn 49 = .ok (.invokevirtual 147, 3) := by decide +kernel
theorem dX9_headIn_52 : decode cX9_headIn 52 = .ok (.invokevirtual 100, 3) := by decide +kernel
theorem dX9_headIn_55 : decode cX9_headIn 55 = .ok (.ireturn, 1) := by decide +kernel
theorem dX9_when_0 : decode cX9_when 0 = .ok (.aload_n 0, 1) := by decide +kernel
theorem dX9_when_1 : decode cX9_when 1 = .ok (.iload_n 1, 1) := by decide +kernel
theorem dX9_when_2 : decode cX9_when 2 = .ok (.invokevirtual 106, 3) := by decide +kernel
theorem dX9_when_5 : decode cX9_when 5 = .ok (.ifCond .ne 9, 3) := by decide +kernel
theorem dX9_when_8 : decode cX9_when 8 = .ok (.aload_n 0, 1) := by decide +kernel
theorem dX9_when_9 : decode cX9_when 9 = .ok (.iconst 1, 1) := by decide +kernel
theorem dX9_when_10 : decode cX9_when 10 = .ok (.invokevirtual 82, 3) := by decide +kernel
theorem dX9_when_13 : decode cX9_when 13 = .ok (.ireturn, 1) := by decide +kernel
theorem dX9_when_14 : decode cX9_when 14 = .ok (.iload_n 2, 1) := by decide +kernel
theorem dX9_when_15 : decode cX9_when 15 = .ok (.ifCond .lt 9, 3) := by decide +kernel
theorem dX9_when_18 : decode cX9_when 18 = .ok (.iload_n 2, 1) := by decide +kernel
theorem dX9_when_19 : decode cX9_when 19 = .ok (.bipush 99, 2) := by decide +kernel
theorem dX9_when_21 : decode cX9_when 21 = .ok (.if_icmp .le 9, 3) := by decide +kernel
theorem dX9_when_24 : decode cX9_when 24 = .ok (.aload_n 0, 1) := by decide +kernel
theorem dX9_when_25 : decode cX9_when 25 = .ok (.iconst 2, 1) := by decide +kernel
theorem dX9_when_26 : decode cX9_when 26 = .ok (.invokevirtual 82, 3) := by decide +kernel
theorem dX9_when_29 : decode cX9_when 29 = .ok (.ireturn, 1) := by decide +kernel
theorem dX9_when_30 : decode cX9_when 30 = .ok (.aload_n 0, 1) := by decide +kernel
theorem dX9_when_31 : decode cX9_when 31 = .ok (.aload_n 0, 1) := by decide +kernel
theorem dX9_when_32 : decode cX9_when 32 = .ok (.iload_n 1, 1) := by decide +kernel
theorem dX9_when_33 : decode cX9_when 33 = .ok (.iload_n 2, 1) := by decide +kernel
theorem dX9_when_34 : decode cX9_when 34 = .ok (.invokevirtual 151, 3) := by decide +kernel
theorem dX9_when_37 : decode cX9_when 37 = .ok (.invokevirtual 100, 3) := by decide +kernel
theorem dX9_when_40 : decode cX9_when 40 = .ok (.ireturn, 1) := by decide +kernel
theorem dX9_worstSpring_0 : decode cX9_worstSpring 0 = .ok (.aload_n 0, 1) := by decide +kernel
theorem dX9_worstSpring_1 : decode cX9_worstSpring 1 = .ok (.invokevirtual 134, 3) := by decide +kernel
theorem dX9_worstSpring_4 : decode cX9_worstSpring 4 = .ok (.ifCond .eq 9, 3) := by decide +kernel
theorem dX9_worstSpring_7 : decode cX9_worstSpring 7 = .ok (.aload_n 0, 1) := by decide +kernel
theorem dX9_worstSpring_8 : decode cX9_worstSpring 8 = .ok (.iconst 1, 1) := by decide +kernel
theorem dX9_worstSpring_9 : decode cX9_worstSpring 9 = .ok (.invokevirtual 82, 3) := by decide +kernel
theorem dX9_worstSpring_12 : decode cX9_worstSpring 12 = .ok (.ireturn, 1) := by decide +kernel
theorem dX9_worstSpring_13 : decode cX9_worstSpring 13 = .ok (.iconst 0, 1) := by decide +kernel
theorem dX9_worstSpring_14 : decode cX9_worstSpring 14 = .ok (.istore_n 1, 1) := by decide +kernel
theorem dX9_worstSpring_15 : decode cX9_worstSpring 15 = .ok (.aload_n 0, 1) := by decide +kernel
theorem dX9_worstSpring_16 : decode cX9_worstSpring 16 = .ok (.getfield 61, 3) := by decide +kernel
theorem dX9_worstSpring_19 : decode cX9_worstSpring 19 = .ok (.aload_n 0, 1) := by decide +kernel
theorem dX9_worstSpring_20 : decode cX9_worstSpring 20 = .ok (.getfield 19, 3) := by decide +kernel
theorem dX9_worstSpring_23 : decode cX9_worstSpring 23 = .ok (.aload_n 0, 1) := by decide +kernel
theorem dX9_worstSpring_24 : decode cX9_worstSpring 24 = .ok (.getfield 19, 3) := by decide +kernel
theorem dX9_worstSpring_27 : decode cX9_worstSpring 27 = .ok (.getfield 138, 3) := by decide +kernel
theorem dX9_worstSpring_30 : decode cX9_worstSpring 30 = .ok (.invokevirtual 141, 3) := by decide +kernel
theorem dX9_worstSpring_33 : decode cX9_worstSpring 33 = .ok (.istore_n 2, 1) := by decide +kernel
theorem dX9_worstSpring_34 : decode cX9_worstSpring 34 = .ok (.iconst 1, 1) := by decide +kernel
theorem dX9_worstSpring_35 : decode cX9_worstSpring 35 = .ok (.istore_n 3, 1) := by decide +kernel
theorem dX9_worstSpring_36 : decode cX9_worstSpring 36 = .ok (.iload_n 3, 1) := by decide +kernel
theorem dX9_worstSpring_37 : decode cX9_worstSpring 37 = .ok (.bipush 20, 2) := by decide +kernel
theorem dX9_worstSpring_39 : decode cX9_worstSpring 39 = .ok (.if_icmp .gt 42, 3) := by decide +kernel
theorem dX9_worstSpring_42 : decode cX9_worstSpring 42 = .ok (.aload_n 0, 1) := by decide +kernel
theorem dX9_worstSpring_43 : decode cX9_worstSpring 43 = .ok (.getfield 61, 3) := by decide +kernel
theorem dX9_worstSpring_46 : decode cX9_worstSpring 46 = .ok (.aload_n 0, 1) := by decide +kernel
theorem dX9_worstSpring_47 : decode cX9_worstSpring 47 = .ok (.getfield 19, 3) := by decide +kernel
theorem dX9_worstSpring_50 : decode cX9_worstSpring 50 = .ok (.aload_n 0, 1) := by decide +kernel
theorem dX9_worstSpring_51 : decode cX9_worstSpring 51 = .ok (.getfield 19, 3) := by decide +kernel
theorem dX9_worstSpring_54 : decode cX9_worstSpring 54 = .ok (.getfield 138, 3) := by decide +kernel
theorem dX9_worstSpring_57 : decode cX9_worstSpring 57 = .ok (.iload_n 3, 1) := by decide +kernel
theorem dX9_worstSpring_58 : decode cX9_worstSpring 58 = .ok (.iadd, 1) := by decide +kernel
theorem dX9_worstSpring_59 : decode cX9_worstSpring 59 = .ok (.invokevirtual 141, 3) := by decide +kernel
theorem dX9_worstSpring_62 : decode cX9_worstSpring 62 = .ok (.istore 4, 2) := by decide +kernel
theorem dX9_worstSpring_64 : decode cX9_worstSpring 64 = .ok (.iload 4, 2) := by decide +kernel
theorem dX9_worstSpring_66 : decode cX9_worstSpring 66 = .ok (.iload_n 2, 1) := by decide +kernel
theorem dX9_worstSpring_67 : decode cX9_worstSpring 67 = .ok (.if_icmp .le 8, 3) := by decide +kernel
theorem dX9_worstSpring_70 : decode cX9_worstSpring 70 = .ok (.iload 4, 2) := by decide +kernel
theorem dX9_worstSpring_72 : decode cX9_worstSpring 72 = .ok (.istore_n 2, 1) := by decide +kernel
theorem dX9_worstSpring_73 : decode cX9_worstSpring 73 = .ok (.iload_n 3, 1) := by decide +kernel
theorem dX9_worstSpring_74 : decode cX9_worstSpring 74 = .ok (.istore_n 1, 1) := by decide +kernel
theorem dX9_worstSpring_75 : decode cX9_worstSpring 75 = .ok (.iinc 3 1, 3) := by decide +kernel
theorem dX9_worstSpring_78 : decode cX9_worstSpring 78 = .ok (.goto (-42), 3) := by decide +kernel
theorem dX9_worstSpring_81 : decode cX9_worstSpring 81 = .ok (.aload_n 0, 1) := by decide +kernel
theorem dX9_worstSpring_82 : decode cX9_worstSpring 82 = .ok (.iload_n 1, 1) := by decide +kernel
theorem dX9_worstSpring_83 : decode cX9_worstSpring 83 = .ok (.invokevirtual 100, 3) := by decide +kernel
theorem dX9_worstSpring_86 : decode cX9_worstSpring 86 = .ok (.ireturn, 1) := by decide +kernel
theorem dX9_shutIn_0 : decode cX9_shutIn 0 = .ok (.aload_n 0, 1) := by decide +kernel
theorem dX9_shutIn_1 : decode cX9_shutIn 1 = .ok (.iload_n 1, 1) := by decide +kernel
theorem dX9_shutIn_2 : decode cX9_shutIn 2 = .ok (.invokevirtual 106, 3) := by decide +kernel
theorem dX9_shutIn_5 : decode cX9_shutIn 5 = .ok (.ifCond .eq 11, 3) := by decide +kernel
theorem dX9_shutIn_8 : decode cX9_shutIn 8 = .ok (.aload_n 0, 1) := by decide +kernel
theorem dX9_shutIn_9 : decode cX9_shutIn 9 = .ok (.iload_n 2, 1) := by decide +kernel
theorem dX9_shutIn_10 : decode cX9_shutIn 10 = .ok (.invokevirtual 120, 3) := by decide +kernel
theorem dX9_shutIn_13 : decode cX9_shutIn 13 = .ok (.ifCond .ne 9, 3) := by decide +kernel
theorem dX9_shutIn_16 : decode cX9_shutIn 16 = .ok (.aload_n 0, 1) := by decide +kernel
theorem dX9_shutIn_17 : decode cX9_shutIn 17 = .ok (.iconst 1, 1) := by decide +kernel
theorem dX9_shutIn_18 : decode cX9_shutIn 18 = .ok (.invokevirtual 82, 3) := by decide +kernel
theorem dX9_shutIn_21 : decode cX9_shutIn 21 = .ok (.ireturn, 1) := by decide +kernel
theorem dX9_shutIn_22 : decode cX9_shutIn 22 = .ok (.aload_n 0, 1) := by decide +kernel
theorem dX9_shutIn_23 : decode cX9_shutIn 23 = .ok (.aload_n 0, 1) := by decide +kernel
theorem dX9_shutIn_24 : decode cX9_shutIn 24 = .ok (.iload_n 1, 1) := by decide +kernel
theorem dX9_shutIn_25 : decode cX9_shutIn 25 = .ok (.aload_n 0, 1) := by decide +kernel
theorem dX9_shutIn_26 : decode cX9_shutIn 26 = .ok (.getfield 61, 3) := by decide +kernel
theorem dX9_shutIn_29 : decode cX9_shutIn 29 = .ok (.getfield 123, 3) := by decide +kernel
theorem dX9_shutIn_32 : decode cX9_shutIn 32 = .ok (.iload_n 2, 1) := by decide +kernel
theorem dX9_shutIn_33 : decode cX9_shutIn 33 = .ok (.iaload, 1) := by decide +kernel
theorem dX9_shutIn_34 : decode cX9_shutIn 34 = .ok (.iconst 1, 1) := by decide +kernel
theorem dX9_shutIn_35 : decode cX9_shutIn 35 = .ok (.iadd, 1) := by decide +kernel
theorem dX9_shutIn_36 : decode cX9_shutIn 36 = .ok (.invokevirtual 151, 3) := by decide +kernel
theorem dX9_shutIn_39 : decode cX9_shutIn 39 = .ok (.invokevirtual 100, 3) := by decide +kernel
theorem dX9_shutIn_42 : decode cX9_shutIn 42 = .ok (.ireturn, 1) := by decide +kernel
theorem dX9_payFor_0 : decode cX9_payFor 0 = .ok (.aload_n 0, 1) := by decide +kernel
theorem dX9_payFor_1 : decode cX9_payFor 1 = .ok (.iload_n 1, 1) := by decide +kernel
theorem dX9_payFor_2 : decode cX9_payFor 2 = .ok (.invokevirtual 106, 3) := by decide +kernel
theorem dX9_payFor_5 : decode cX9_payFor 5 = .ok (.ifCond .eq 11, 3) := by decide +kernel
theorem dX9_payFor_8 : decode cX9_payFor 8 = .ok (.aload_n 0, 1) := by decide +kernel
theorem dX9_payFor_9 : decode cX9_payFor 9 = .ok (.iload_n 2, 1) := by decide +kernel
theorem dX9_payFor_10 : decode cX9_payFor 10 = .ok (.invokevirtual 120, 3) := by decide +kernel
theorem dX9_payFor_13 : decode cX9_payFor 13 = .ok (.ifCond .ne 9, 3) := by decide +kernel
theorem dX9_payFor_16 : decode cX9_payFor 16 = .ok (.aload_n 0, 1) := by decide +kernel
theorem dX9_payFor_17 : decode cX9_payFor 17 = .ok (.iconst 1, 1) := by decide +kernel
theorem dX9_payFor_18 : decode cX9_payFor 18 = .ok (.invokevirtual 82, 3) := by decide +kernel
theorem dX9_payFor_21 : decode cX9_payFor 21 = .ok (.ireturn, 1) := by decide +kernel
theorem dX9_payFor_22 : decode cX9_payFor 22 = .ok (.aload_n 0, 1) := by decide +kernel
theorem dX9_payFor_23 : decode cX9_payFor 23 = .ok (.aload_n 0, 1) := by decide +kernel
theorem dX9_payFor_24 : decode cX9_payFor 24 = .ok (.iload_n 1, 1) := by decide +kernel
theorem dX9_payFor_25 : decode cX9_payFor 25 = .ok (.iload_n 2, 1) := by decide +kernel
theorem dX9_payFor_26 : decode cX9_payFor 26 = .ok (.invokevirtual 154, 3) := by decide +kernel
theorem dX9_payFor_29 : decode cX9_payFor 29 = .ok (.invokevirtual 100, 3) := by decide +kernel
theorem dX9_payFor_32 : decode cX9_payFor 32 = .ok (.ireturn, 1) := by decide +kernel
theorem dX9_payAll_0 : decode cX9_payAll 0 = .ok (.aload_n 0, 1) := by decide +kernel
theorem dX9_payAll_1 : decode cX9_payAll 1 = .ok (.invokevirtual 134, 3) := by decide +kernel
theorem dX9_payAll_4 : decode cX9_payAll 4 = .ok (.ifCond .eq 9, 3) := by decide +kernel
theorem dX9_payAll_7 : decode cX9_payAll 7 = .ok (.aload_n 0, 1) := by decide +kernel
theorem dX9_payAll_8 : decode cX9_payAll 8 = .ok (.iconst 1, 1) := by decide +kernel
theorem dX9_payAll_9 : decode cX9_payAll 9 = .ok (.invokevirtual 82, 3) := by decide +kernel
theorem dX9_payAll_12 : decode cX9_payAll 12 = .ok (.ireturn, 1) := by decide +kernel
theorem dX9_payAll_13 : decode cX9_payAll 13 = .ok (.iconst 0, 1) := by decide +kernel
theorem dX9_payAll_14 : decode cX9_payAll 14 = .ok (.istore_n 1, 1) := by decide +kernel
theorem dX9_payAll_15 : decode cX9_payAll 15 = .ok (.iconst 0, 1) := by decide +kernel
theorem dX9_payAll_16 : decode cX9_payAll 16 = .ok (.istore_n 2, 1) := by decide +kernel
theorem dX9_payAll_17 : decode cX9_payAll 17 = .ok (.iload_n 2, 1) := by decide +kernel
theorem dX9_payAll_18 : decode cX9_payAll 18 = .ok (.aload_n 0, 1) := by decide +kernel
theorem dX9_payAll_19 : decode cX9_payAll 19 = .ok (.getfield 61, 3) := by decide +kernel
theorem dX9_payAll_22 : decode cX9_payAll 22 = .ok (.getfield 97, 3) := by decide +kernel
theorem dX9_payAll_25 : decode cX9_payAll 25 = .ok (.if_icmp .ge 58, 3) := by decide +kernel
theorem dX9_payAll_28 : decode cX9_payAll 28 = .ok (.aload_n 0, 1) := by decide +kernel
theorem dX9_payAll_29 : decode cX9_payAll 29 = .ok (.getfield 61, 3) := by decide +kernel
theorem dX9_payAll_32 : decode cX9_payAll 32 = .ok (.getfield 157, 3) := by decide +kernel
theorem dX9_payAll_35 : decode cX9_payAll 35 = .ok (.iload_n 2, 1) := by decide +kernel
theorem dX9_payAll_36 : decode cX9_payAll 36 = .ok (.iaload, 1) := by decide +kernel
theorem dX9_payAll_37 : decode cX9_payAll 37 = .ok (.istore_n 3, 1) := by decide +kernel
theorem dX9_payAll_38 : decode cX9_payAll 38 = .ok (.aload_n 0, 1) := by decide +kernel
theorem dX9_payAll_39 : decode cX9_payAll 39 = .ok (.iload_n 3, 1) := by decide +kernel
theorem dX9_payAll_40 : decode cX9_payAll 40 = .ok (.invokevirtual 120, 3) := by decide +kernel
theorem dX9_payAll_43 : decode cX9_payAll 43 = .ok (.ifCond .eq 12, 3) := by decide +kernel
theorem dX9_payAll_46 : decode cX9_payAll 46 = .ok (.aload_n 0, 1) := by decide +kernel
theorem dX9_payAll_47 : decode cX9_payAll 47 = .ok (.iload_n 2, 1) := by decide +kernel
theorem dX9_payAll_48 : decode cX9_payAll 48 = .ok (.iload_n 3, 1) := by decide +kernel
theorem dX9_payAll_49 : decode cX9_payAll 49 = .ok (.invokevirtual 154, 3) := by decide +kernel
theorem dX9_payAll_52 : decode cX9_payAll 52 = .ok (.goto 4, 3) := by decide +kernel
theorem dX9_payAll_55 : decode cX9_payAll 55 = .ok (.iconst 0, 1) := by decide +kernel
theorem dX9_payAll_56 : decode cX9_payAll 56 = .ok (.istore 4, 2) := by decide +kernel
theorem dX9_payAll_58 : decode cX9_payAll 58 = .ok (.iload 4, 2) := by decide +kernel
theorem dX9_payAll_60 : decode cX9_payAll 60 = .ok (.bipush (-2), 2) := by decide +kernel
theorem dX9_payAll_62 : decode cX9_payAll 62 = .ok (.if_icmp .ne 10, 3) := by decide +kernel
theorem dX9_payAll_65 : decode cX9_payAll 65 = .ok (.aload_n 0, 1) := by decide +kernel
theorem dX9_payAll_66 : decode cX9_payAll 66 = .ok (.bipush (-2), 2) := by decide +kernel
theorem dX9_payAll_68 : decode cX9_payAll 68 = .ok (.invokevirtual 100, 3) := by decide +kernel
theorem dX9_payAll_71 : decode cX9_payAll 71 = .ok (.ireturn, 1) := by decide +kernel
theorem dX9_payAll_72 : decode cX9_payAll 72 = .ok (.iload_n 1, 1) := by decide +kernel
theorem dX9_payAll_73 : decode cX9_payAll 73 = .ok (.iload 4, 2) := by decide +kernel
theorem dX9_payAll_75 : decode cX9_payAll 75 = .ok (.iadd, 1) := by decide +kernel
theorem dX9_payAll_76 : decode cX9_payAll 76 = .ok (.istore_n 1, 1) := by decide +kernel
theorem dX9_payAll_77 : decode cX9_payAll 77 = .ok (.iinc 2 1, 3) := by decide +kernel
theorem dX9_payAll_80 : decode cX9_payAll 80 = .ok (.goto (-63), 3) := by decide +kernel
theorem dX9_payAll_83 : decode cX9_payAll 83 = .ok (.aload_n 0, 1) := by decide +kernel
theorem dX9_payAll_84 : decode cX9_payAll 84 = .ok (.iload_n 1, 1) := by decide +kernel
theorem dX9_payAll_85 : decode cX9_payAll 85 = .ok (.invokevirtual 100, 3) := by decide +kernel
theorem dX9_payAll_88 : decode cX9_payAll 88 = .ok (.ireturn, 1) := by decide +kernel
theorem dX9_passers_0 : decode cX9_passers 0 = .ok (.aload_n 0, 1) := by decide +kernel
theorem dX9_passers_1 : decode cX9_passers 1 = .ok (.invokevirtual 134, 3) := by decide +kernel
theorem dX9_passers_4 : decode cX9_passers 4 = .ok (.ifCond .eq 9, 3) := by decide +kernel
theorem dX9_passers_7 : decode cX9_passers 7 = .ok (.aload_n 0, 1) := by decide +kernel
theorem dX9_passers_8 : decode cX9_passers 8 = .ok (.iconst 1, 1) := by decide +kernel
theorem dX9_passers_9 : decode cX9_passers 9 = .ok (.invokevirtual 82, 3) := by decide +kernel
theorem dX9_passers_12 : decode cX9_passers 12 = .ok (.ireturn, 1) := by decide +kernel
theorem dX9_passers_13 : decode cX9_passers 13 = .ok (.iconst 0, 1) := by decide +kernel
theorem dX9_passers_14 : decode cX9_passers 14 = .ok (.istore_n 1, 1) := by decide +kernel
theorem dX9_passers_15 : decode cX9_passers 15 = .ok (.iconst 0, 1) := by decide +kernel
theorem dX9_passers_16 : decode cX9_passers 16 = .ok (.istore_n 2, 1) := by decide +kernel
theorem dX9_passers_17 : decode cX9_passers 17 = .ok (.iload_n 2, 1) := by decide +kernel
theorem dX9_passers_18 : decode cX9_passers 18 = .ok (.aload_n 0, 1) := by decide +kernel
theorem dX9_passers_19 : decode cX9_passers 19 = .ok (.getfield 61, 3) := by decide +kernel
theorem dX9_passers_22 : decode cX9_passers 22 = .ok (.getfield 97, 3) := by decide +kernel
theorem dX9_passers_25 : decode cX9_passers 25 = .ok (.if_icmp .ge 49, 3) := by decide +kernel
theorem dX9_passers_28 : decode cX9_passers 28 = .ok (.aload_n 0, 1) := by decide +kernel
theorem dX9_passers_29 : decode cX9_passers 29 = .ok (.getfield 61, 3) := by decide +kernel
theorem dX9_passers_32 : decode cX9_passers 32 = .ok (.getfield 157, 3) := by decide +kernel
theorem dX9_passers_35 : decode cX9_passers 35 = .ok (.iload_n 2, 1) := by decide +kernel
theorem dX9_passers_36 : decode cX9_passers 36 = .ok (.iaload, 1) := by decide +kernel
theorem dX9_passers_37 : decode cX9_passers 37 = .ok (.istore_n 3, 1) := by decide +kernel
theorem dX9_passers_38 : decode cX9_passers 38 = .ok (.aload_n 0, 1) := by decide +kernel
theorem dX9_passers_39 : decode cX9_passers 39 = .ok (.iload_n 3, 1) := by decide +kernel
theorem dX9_passers_40 : decode cX9_passers 40 = .ok (.invokevirtual 120, 3) := by decide +kernel
theorem dX9_passers_43 : decode cX9_passers 43 = .ok (.ifCond .eq 25, 3) := by decide +kernel
theorem dX9_passers_46 : decode cX9_passers 46 = .ok (.aload_n 0, 1) := by decide +kernel
theorem dX9_passers_47 : decode cX9_passers 47 = .ok (.getfield 61, 3) := by decide +kernel
theorem dX9_passers_50 : decode cX9_passers 50 = .ok (.aload_n 0, 1) := by decide +kernel
theorem dX9_passers_51 : decode cX9_passers 51 = .ok (.getfield 19, 3) := by decide +kernel
theorem dX9_passers_54 : decode cX9_passers 54 = .ok (.iload_n 2, 1) := by decide +kernel
theorem dX9_passers_55 : decode cX9_passers 55 = .ok (.iload_n 3, 1) := by decide +kernel
theorem dX9_passers_56 : decode cX9_passers 56 = .ok (.invokevirtual 160, 3) := by decide +kernel
theorem dX9_passers_59 : decode cX9_passers 59 = .ok (.ifCond .eq 9, 3) := by decide +kernel
theorem dX9_passers_62 : decode cX9_passers 62 = .ok (.iload_n 1, 1) := by decide +kernel
theorem dX9_passers_63 : decode cX9_passers 63 = .ok (.iconst 1, 1) := by decide +kernel
theorem dX9_passers_64 : decode cX9_passers 64 = .ok (.iload_n 2, 1) := by decide +kernel
theorem dX9_passers_65 : decode cX9_passers 65 = .ok (.ishl, 1) := by decide +kernel
theorem dX9_passers_66 : decode cX9_passers 66 = .ok (.ior, 1) := by decide +kernel
theorem dX9_passers_67 : decode cX9_passers 67 = .ok (.istore_n 1, 1) := by decide +kernel
theorem dX9_passers_68 : decode cX9_passers 68 = .ok (.iinc 2 1, 3) := by decide +kernel
theorem dX9_passers_71 : decode cX9_passers 71 = .ok (.goto (-54), 3) := by decide +kernel
theorem dX9_passers_74 : decode cX9_passers 74 = .ok (.aload_n 0, 1) := by decide +kernel
theorem dX9_passers_75 : decode cX9_passers 75 = .ok (.iload_n 1, 1) := by decide +kernel
theorem dX9_passers_76 : decode cX9_passers 76 = .ok (.invokevirtual 100, 3) := by decide +kernel
theorem dX9_passers_79 : decode cX9_passers 79 = .ok (.ireturn, 1) := by decide +kernel
theorem dX9_shamed_0 : decode cX9_shamed 0 = .ok (.aload_n 0, 1) := by decide +kernel
theorem dX9_shamed_1 : decode cX9_shamed 1 = .ok (.invokevirtual 134, 3) := by decide +kernel
theorem dX9_shamed_4 : decode cX9_shamed 4 = .ok (.ifCond .eq 9, 3) := by decide +kernel
theorem dX9_shamed_7 : decode cX9_shamed 7 = .ok (.aload_n 0, 1) := by decide +kernel
theorem dX9_shamed_8 : decode cX9_shamed 8 = .ok (.iconst 1, 1) := by decide +kernel
theorem dX9_shamed_9 : decode cX9_shamed 9 = .ok (.invokevirtual 82, 3) := by decide +kernel
theorem dX9_shamed_12 : decode cX9_shamed 12 = .ok (.ireturn, 1) := by decide +kernel
theorem dX9_shamed_13 : decode cX9_shamed 13 = .ok (.iconst 0, 1) := by decide +kernel
theorem dX9_shamed_14 : decode cX9_shamed 14 = .ok (.istore_n 1, 1) := by decide +kernel
theorem dX9_shamed_15 : decode cX9_shamed 15 = .ok (.iconst 0, 1) := by decide +kernel
theorem dX9_shamed_16 : decode cX9_shamed 16 = .ok (.istore_n 2, 1) := by decide +kernel
theorem dX9_shamed_17 : decode cX9_shamed 17 = .ok (.iload_n 2, 1) := by decide +kernel
theorem dX9_shamed_18 : decode cX9_shamed 18 = .ok (.aload_n 0, 1) := by decide +kernel
theorem dX9_shamed_19 : decode cX9_shamed 19 = .ok (.getfield 61, 3) := by decide +kernel
theorem dX9_shamed_22 : decode cX9_shamed 22 = .ok (.getfield 97, 3) := by decide +kernel
theorem dX9_shamed_25 : decode cX9_shamed 25 = .ok (.if_icmp .ge 44, 3) := by decide +kernel
theorem dX9_shamed_28 : decode cX9_shamed 28 = .ok (.aload_n 0, 1) := by decide +kernel
theorem dX9_shamed_29 : decode cX9_shamed 29 = .ok (.getfield 61, 3) := by decide +kernel
theorem dX9_shamed_32 : decode cX9_shamed 32 = .ok (.getfield 157, 3) := by decide +kernel
theorem dX9_shamed_35 : decode cX9_shamed 35 = .ok (.iload_n 2, 1) := by decide +kernel
theorem dX9_shamed_36 : decode cX9_shamed 36 = .ok (.iaload, 1) := by decide +kernel
theorem dX9_shamed_37 : decode cX9_shamed 37 = .ok (.istore_n 3, 1) := by decide +kernel
theorem dX9_shamed_38 : decode cX9_shamed 38 = .ok (.aload_n 0, 1) := by decide +kernel
theorem dX9_shamed_39 : decode cX9_shamed 39 = .ok (.iload_n 3, 1) := by decide +kernel
theorem dX9_shamed_40 : decode cX9_shamed 40 = .ok (.invokevirtual 120, 3) := by decide +kernel
theorem dX9_shamed_43 : decode cX9_shamed 43 = .ok (.ifCond .eq 20, 3) := by decide +kernel
theorem dX9_shamed_46 : decode cX9_shamed 46 = .ok (.aload_n 0, 1) := by decide +kernel
theorem dX9_shamed_47 : decode cX9_shamed 47 = .ok (.iload_n 2, 1) := by decide +kernel
theorem dX9_shamed_48 : decode cX9_shamed 48 = .ok (.iload_n 3, 1) := by decide +kernel
theorem dX9_shamed_49 : decode cX9_shamed 49 = .ok (.invokevirtual 154, 3) := by decide +kernel
theorem dX9_shamed_52 : decode cX9_shamed 52 = .ok (.bipush (-2), 2) := by decide +kernel
theorem dX9_shamed_54 : decode cX9_shamed 54 = .ok (.if_icmp .ne 9, 3) := by decide +kernel
theorem dX9_shamed_57 : decode cX9_shamed 57 = .ok (.iload_n 1, 1) := by decide +kernel
theorem dX9_shamed_58 : decode cX9_shamed 58 = .ok (.iconst 1, 1) := by decide +kernel
theorem dX9_shamed_59 : decode cX9_shamed 59 = .ok (.iload_n 2, 1) := by decide +kernel
theorem dX9_shamed_60 : decode cX9_shamed 60 = .ok (.ishl, 1) := by decide +kernel
theorem dX9_shamed_61 : decode cX9_shamed 61 = .ok (.ior, 1) := by decide +kernel
theorem dX9_shamed_62 : decode cX9_shamed 62 = .ok (.istore_n 1, 1) := by decide +kernel
theorem dX9_shamed_63 : decode cX9_shamed 63 = .ok (.iinc 2 1, 3) := by decide +kernel
theorem dX9_shamed_66 : decode cX9_shamed 66 = .ok (.goto (-49), 3) := by decide +kernel
theorem dX9_shamed_69 : decode cX9_shamed 69 = .ok (.aload_n 0, 1) := by decide +kernel
theorem dX9_shamed_70 : decode cX9_shamed 70 = .ok (.iload_n 1, 1) := by decide +kernel
theorem dX9_shamed_71 : decode cX9_shamed 71 = .ok (.invokevirtual 100, 3) := by decide +kernel
theorem dX9_shamed_74 : decode cX9_shamed 74 = .ok (.ireturn, 1) := by decide +kernel
theorem dX9_cheapest_0 : decode cX9_cheapest 0 = .ok (.aload_n 0, 1) := by decide +kernel
theorem dX9_cheapest_1 : decode cX9_cheapest 1 = .ok (.iload_n 1, 1) := by decide +kernel
theorem dX9_cheapest_2 : decode cX9_cheapest 2 = .ok (.invokevirtual 106, 3) := by decide +kernel
theorem dX9_cheapest_5 : decode cX9_cheapest 5 = .ok (.ifCond .ne 9, 3) := by decide +kernel
theorem dX9_cheapest_8 : decode cX9_cheapest 8 = .ok (.aload_n 0, 1) := by decide +kernel
theorem dX9_cheapest_9 : decode cX9_cheapest 9 = .ok (.iconst 1, 1) := by decide +kernel
theorem dX9_cheapest_10 : decode cX9_cheapest 10 = .ok (.invokevirtual 82, 3) := by decide +kernel
theorem dX9_cheapest_13 : decode cX9_cheapest 13 = .ok (.ireturn, 1) := by decide +kernel
theorem dX9_cheapest_14 : decode cX9_cheapest 14 = .ok (.bipush (-2), 2) := by decide +kernel
theorem dX9_cheapest_16 : decode cX9_cheapest 16 = .ok (.istore_n 2, 1) := by decide +kernel
theorem dX9_cheapest_17 : decode cX9_cheapest 17 = .ok (.iconst 0, 1) := by decide +kernel
theorem dX9_cheapest_18 : decode cX9_cheapest 18 = .ok (.istore_n 3, 1) := by decide +kernel
theorem dX9_cheapest_19 : decode cX9_cheapest 19 = .ok (.iconst 0, 1) := by decide +kernel
theorem dX9_cheapest_20 : decode cX9_cheapest 20 = .ok (.istore 4, 2) := by decide +kernel
theorem dX9_cheapest_22 : decode cX9_cheapest 22 = .ok (.iload 4, 2) := by decide +kernel
theorem dX9_cheapest_24 : decode cX9_cheapest 24 = .ok (.aload_n 0, 1) := by decide +kernel
theorem dX9_cheapest_25 : decode cX9_cheapest 25 = .ok (.getfield 61, 3) := by decide +kernel
theorem dX9_cheapest_28 : decode cX9_cheapest 28 = .ok (.getfield 164, 3) := by decide +kernel
theorem dX9_cheapest_31 : decode cX9_cheapest 31 = .ok (.getfield 168, 3) := by decide +kernel
theorem dX9_cheapest_34 : decode cX9_cheapest 34 = .ok (.if_icmp .ge 86, 3) := by decide +kernel
theorem dX9_cheapest_37 : decode cX9_cheapest 37 = .ok (.aload_n 0, 1) := by decide +kernel
theorem dX9_cheapest_38 : decode cX9_cheapest 38 = .ok (.getfield 61, 3) := by decide +kernel
theorem dX9_cheapest_41 : decode cX9_cheapest 41 = .ok (.getfield 164, 3) := by decide +kernel
theorem dX9_cheapest_44 : decode cX9_cheapest 44 = .ok (.getfield 173, 3) := by decide +kernel
theorem dX9_cheapest_47 : decode cX9_cheapest 47 = .ok (.iload 4, 2) := by decide +kernel
theorem dX9_cheapest_49 : decode cX9_cheapest 49 = .ok (.iaload, 1) := by decide +kernel
theorem dX9_cheapest_50 : decode cX9_cheapest 50 = .ok (.iload_n 1, 1) := by decide +kernel
theorem dX9_cheapest_51 : decode cX9_cheapest 51 = .ok (.if_icmp .ne 63, 3) := by decide +kernel
theorem dX9_cheapest_54 : decode cX9_cheapest 54 = .ok (.aload_n 0, 1) := by decide +kernel
theorem dX9_cheapest_55 : decode cX9_cheapest 55 = .ok (.getfield 61, 3) := by decide +kernel
theorem dX9_cheapest_58 : decode cX9_cheapest 58 = .ok (.aload_n 0, 1) := by decide +kernel
theorem dX9_cheapest_59 : decode cX9_cheapest 59 = .ok (.getfield 19, 3) := by decide +kernel
theorem dX9_cheapest_62 : decode cX9_cheapest 62 = .ok (.iload 4, 2) := by decide +kernel
theorem dX9_cheapest_64 : decode cX9_cheapest 64 = .ok (.aload_n 0, 1) := by decide +kernel
theorem dX9_cheapest_65 : decode cX9_cheapest 65 = .ok (.getfield 19, 3) := by decide +kernel
theorem dX9_cheapest_68 : decode cX9_cheapest 68 = .ok (.getfield 138, 3) := by decide +kernel
theorem dX9_cheapest_71 : decode cX9_cheapest 71 = .ok (.invokevirtual 176, 3) := by decide +kernel
theorem dX9_cheapest_74 : decode cX9_cheapest 74 = .ok (.ifCond .eq 40, 3) := by decide +kernel
theorem dX9_cheapest_77 : decode cX9_cheapest 77 = .ok (.aload_n 0, 1) := by decide +kernel
theorem dX9_cheapest_78 : decode cX9_cheapest 78 = .ok (.getfield 61, 3) := by decide +kernel
theorem dX9_cheapest_81 : decode cX9_cheapest 81 = .ok (.aload_n 0, 1) := by decide +kernel
theorem dX9_cheapest_82 : decode cX9_cheapest 82 = .ok (.getfield 19, 3) := by decide +kernel
theorem dX9_cheapest_85 : decode cX9_cheapest 85 = .ok (.getfield 179, 3) := by decide +kernel
theorem dX9_cheapest_88 : decode cX9_cheapest 88 = .ok (.iload 4, 2) := by decide +kernel
theorem dX9_cheapest_90 : decode cX9_cheapest 90 = .ok (.iaload, 1) := by decide +kernel
theorem dX9_cheapest_91 : decode cX9_cheapest 91 = .ok (.invokevirtual 182, 3) := by decide +kernel
theorem dX9_cheapest_94 : decode cX9_cheapest 94 = .ok (.istore 5, 2) := by decide +kernel
theorem dX9_cheapest_96 : decode cX9_cheapest 96 = .ok (.iload_n 2, 1) := by decide +kernel
theorem dX9_cheapest_97 : decode cX9_cheapest 97 = .ok (.bipush (-2), 2) := by decide +kernel
theorem dX9_cheapest_99 : decode cX9_cheapest 99 = .ok (.if_icmp .eq 9, 3) := by decide +kernel
theorem dX9_cheapest_102 : decode cX9_cheapest 102 = .ok (.iload 5, 2) := by decide +kernel
theorem dX9_cheapest_104 : decode cX9_cheapest 104 = .ok (.iload_n 3, 1) := by decide +kernel
theorem dX9_cheapest_105 : decode cX9_cheapest 105 = .ok (.if_icmp .ge 9, 3) := by decide +kernel
theorem dX9_cheapest_108 : decode cX9_cheapest 108 = .ok (.iload 4, 2) := by decide +kernel
theorem dX9_cheapest_110 : decode cX9_cheapest 110 = .ok (.istore_n 2, 1) := by decide +kernel
theorem dX9_cheapest_111 : decode cX9_cheapest 111 = .ok (.iload 5, 2) := by decide +kernel
theorem dX9_cheapest_113 : decode cX9_cheapest 113 = .ok (.istore_n 3, 1) := by decide +kernel
theorem dX9_cheapest_114 : decode cX9_cheapest 114 = .ok (.iinc 4 1, 3) := by decide +kernel
theorem dX9_cheapest_117 : decode cX9_cheapest 117 = .ok (.goto (-95), 3) := by decide +kernel
theorem dX9_cheapest_120 : decode cX9_cheapest 120 = .ok (.aload_n 0, 1) := by decide +kernel
theorem dX9_cheapest_121 : decode cX9_cheapest 121 = .ok (.iload_n 2, 1) := by decide +kernel
theorem dX9_cheapest_122 : decode cX9_cheapest 122 = .ok (.invokevirtual 100, 3) := by decide +kernel
theorem dX9_cheapest_125 : decode cX9_cheapest 125 = .ok (.ireturn, 1) := by decide +kernel
theorem dX9_widthFor_0 : decode cX9_widthFor 0 = .ok (.aload_n 0, 1) := by decide +kernel
theorem dX9_widthFor_1 : decode cX9_widthFor 1 = .ok (.invokevirtual 134, 3) := by decide +kernel
theorem dX9_widthFor_4 : decode cX9_widthFor 4 = .ok (.ifCond .eq 9, 3) := by decide +kernel
theorem dX9_widthFor_7 : decode cX9_widthFor 7 = .ok (.aload_n 0, 1) := by decide +kernel
theorem dX9_widthFor_8 : decode cX9_widthFor 8 = .ok (.iconst 1, 1) := by decide +kernel
theorem dX9_widthFor_9 : decode cX9_widthFor 9 = .ok (.invokevirtual 82, 3) := by decide +kernel
theorem dX9_widthFor_12 : decode cX9_widthFor 12 = .ok (.ireturn, 1) := by decide +kernel
theorem dX9_widthFor_13 : decode cX9_widthFor 13 = .ok (.iload_n 1, 1) := by decide +kernel
theorem dX9_widthFor_14 : decode cX9_widthFor 14 = .ok (.ifCond .lt 14, 3) := by decide +kernel
theorem dX9_widthFor_17 : decode cX9_widthFor 17 = .ok (.iload_n 1, 1) := by decide +kernel
theorem dX9_widthFor_18 : decode cX9_widthFor 18 = .ok (.aload_n 0, 1) := by decide +kernel
theorem dX9_widthFor_19 : decode cX9_widthFor 19 = .ok (.getfield 61, 3) := by decide +kernel
theorem dX9_widthFor_22 : decode cX9_widthFor 22 = .ok (.getfield 97, 3) := by decide +kernel
theorem dX9_widthFor_25 : decode cX9_widthFor 25 = .ok (.if_icmp .le 9, 3) := by decide +kernel
theorem dX9_widthFor_28 : decode cX9_widthFor 28 = .ok (.aload_n 0, 1) := by decide +kernel
theorem dX9_widthFor_29 : decode cX9_widthFor 29 = .ok (.iconst 2, 1) := by decide +kernel
theorem dX9_widthFor_30 : decode cX9_widthFor 30 = .ok (.invokevirtual 82, 3) := by decide +kernel
theorem dX9_widthFor_33 : decode cX9_widthFor 33 = .ok (.ireturn, 1) := by decide +kernel
theorem dX9_widthFor_34 : decode cX9_widthFor 34 = .ok (.aload_n 0, 1) := by decide +kernel
theorem dX9_widthFor_35 : decode cX9_widthFor 35 = .ok (.aload_n 0, 1) := by decide +kernel
theorem dX9_widthFor_36 : decode cX9_widthFor 36 = .ok (.iload_n 1, 1) := by decide +kernel
theorem dX9_widthFor_37 : decode cX9_widthFor 37 = .ok (.invokevirtual 185, 3) := by decide +kernel
theorem dX9_widthFor_40 : decode cX9_widthFor 40 = .ok (.invokevirtual 100, 3) := by decide +kernel
theorem dX9_widthFor_43 : decode cX9_widthFor 43 = .ok (.ireturn, 1) := by decide +kernel
theorem dX9_guests_0 : decode cX9_guests 0 = .ok (.aload_n 0, 1) := by decide +kernel
theorem dX9_guests_1 : decode cX9_guests 1 = .ok (.invokevirtual 134, 3) := by decide +kernel
theorem dX9_guests_4 : decode cX9_guests 4 = .ok (.ifCond .eq 9, 3) := by decide +kernel
theorem dX9_guests_7 : decode cX9_guests 7 = .ok (.aload_n 0, 1) := by decide +kernel
theorem dX9_guests_8 : decode cX9_guests 8 = .ok (.iconst 1, 1) := by decide +kernel
theorem dX9_guests_9 : decode cX9_guests 9 = .ok (.invokevirtual 82, 3) := by decide +kernel
theorem dX9_guests_12 : decode cX9_guests 12 = .ok (.ireturn, 1) := by decide +kernel
theorem dX9_guests_13 : decode cX9_guests 13 = .ok (.aload_n 0, 1) := by decide +kernel
theorem dX9_guests_14 : decode cX9_guests 14 = .ok (.aload_n 0, 1) := by decide +kernel
theorem dX9_guests_15 : decode cX9_guests 15 = .ok (.getfield 33, 3) := by decide +kernel
theorem dX9_guests_18 : decode cX9_guests 18 = .ok (.aload_n 0, 1) := by decide +kernel
theorem dX9_guests_19 : decode cX9_guests 19 = .ok (.getfield 61, 3) := by decide +kernel
theorem dX9_guests_22 : decode cX9_guests 22 = .ok (.aload_n 0, 1) := by decide +kernel
theorem dX9_guests_23 : decode cX9_guests 23 = .ok (.getfield 19, 3) := by decide +kernel
theorem dX9_guests_26 : decode cX9_guests 26 = .ok (.invokevirtual 188, 3) := by decide +kernel
theorem dX9_guests_29 : decode cX9_guests 29 = .ok (.invokevirtual 100, 3) := by decide +kernel
theorem dX9_guests_32 : decode cX9_guests 32 = .ok (.ireturn, 1) := by decide +kernel
theorem dX9_doorOf_0 : decode cX9_doorOf 0 = .ok (.aload_n 0, 1) := by decide +kernel
theorem dX9_doorOf_1 : decode cX9_doorOf 1 = .ok (.iload_n 1, 1) := by decide +kernel
theorem dX9_doorOf_2 : decode cX9_doorOf 2 = .ok (.invokevirtual 106, 3) := by decide +kernel
theorem dX9_doorOf_5 : decode cX9_doorOf 5 = .ok (.ifCond .ne 9, 3) := by decide +kernel
theorem dX9_doorOf_8 : decode cX9_doorOf 8 = .ok (.aload_n 0, 1) := by decide +kernel
theorem dX9_doorOf_9 : decode cX9_doorOf 9 = .ok (.iconst 1, 1) := by decide +kernel
theorem dX9_doorOf_10 : decode cX9_doorOf 10 = .ok (.invokevirtual 82, 3) := by decide +kernel
theorem dX9_doorOf_13 : decode cX9_doorOf 13 = .ok (.ireturn, 1) := by decide +kernel
theorem dX9_doorOf_14 : decode cX9_doorOf 14 = .ok (.aload_n 0, 1) := by decide +kernel
theorem dX9_doorOf_15 : decode cX9_doorOf 15 = .ok (.getfield 33, 3) := by decide +kernel
theorem dX9_doorOf_18 : decode cX9_doorOf 18 = .ok (.aload_n 0, 1) := by decide +kernel
theorem dX9_doorOf_19 : decode cX9_doorOf 19 = .ok (.getfield 61, 3) := by decide +kernel
theorem dX9_doorOf_22 : decode cX9_doorOf 22 = .ok (.aload_n 0, 1) := by decide +kernel
theorem dX9_doorOf_23 : decode cX9_doorOf 23 = .ok (.getfield 19, 3) := by decide +kernel
theorem dX9_doorOf_26 : decode cX9_doorOf 26 = .ok (.invokevirtual 188, 3) := by decide +kernel
theorem dX9_doorOf_29 : decode cX9_doorOf 29 = .ok (.pop, 1) := by decide +kernel
theorem dX9_doorOf_30 : decode cX9_doorOf 30 = .ok (.aload_n 0, 1) := by decide +kernel
theorem dX9_doorOf_31 : decode cX9_doorOf 31 = .ok (.aload_n 0, 1) := by decide +kernel
theorem dX9_doorOf_32 : decode cX9_doorOf 32 = .ok (.getfield 33, 3) := by decide +kernel
theorem dX9_doorOf_35 : decode cX9_doorOf 35 = .ok (.getfield 192, 3) := by decide +kernel
theorem dX9_doorOf_38 : decode cX9_doorOf 38 = .ok (.iload_n 1, 1) := by decide +kernel
theorem dX9_doorOf_39 : decode cX9_doorOf 39 = .ok (.iaload, 1) := by decide +kernel
theorem dX9_doorOf_40 : decode cX9_doorOf 40 = .ok (.invokevirtual 100, 3) := by decide +kernel
theorem dX9_doorOf_43 : decode cX9_doorOf 43 = .ok (.ireturn, 1) := by decide +kernel
theorem dX9_ring_0 : decode cX9_ring 0 = .ok (.aload_n 0, 1) := by decide +kernel
theorem dX9_ring_1 : decode cX9_ring 1 = .ok (.iload_n 1, 1) := by decide +kernel
theorem dX9_ring_2 : decode cX9_ring 2 = .ok (.invokevirtual 106, 3) := by decide +kernel
theorem dX9_ring_5 : decode cX9_ring 5 = .ok (.ifCond .ne 9, 3) := by decide +kernel
theorem dX9_ring_8 : decode cX9_ring 8 = .ok (.aload_n 0, 1) := by decide +kernel
theorem dX9_ring_9 : decode cX9_ring 9 = .ok (.iconst 1, 1) := by decide +kernel
theorem dX9_ring_10 : decode cX9_ring 10 = .ok (.invokevirtual 82, 3) := by decide +kernel
theorem dX9_ring_13 : decode cX9_ring 13 = .ok (.ireturn, 1) := by decide +kernel
theorem dX9_ring_14 : decode cX9_ring 14 = .ok (.aload_n 0, 1) := by decide +kernel
theorem dX9_ring_15 : decode cX9_ring 15 = .ok (.aload_n 0, 1) := by decide +kernel
theorem dX9_ring_16 : decode cX9_ring 16 = .ok (.getfield 40, 3) := by decide +kernel
theorem dX9_ring_19 : decode cX9_ring 19 = .ok (.aload_n 0, 1) := by decide +kernel
theorem dX9_ring_20 : decode cX9_ring 20 = .ok (.getfield 61, 3) := by decide +kernel
theorem dX9_ring_23 : decode cX9_ring 23 = .ok (.aload_n 0, 1) := by decide +kernel
theorem dX9_ring_24 : decode cX9_ring 24 = .ok (.getfield 19, 3) := by decide +kernel
theorem dX9_ring_27 : decode cX9_ring 27 = .ok (.iload_n 1, 1) := by decide +kernel
theorem dX9_ring_28 : decode cX9_ring 28 = .ok (.invokevirtual 195, 3) := by decide +kernel
theorem dX9_ring_31 : decode cX9_ring 31 = .ok (.ifCond .eq 13, 3) := by decide +kernel
theorem dX9_ring_34 : decode cX9_ring 34 = .ok (.aload_n 0, 1) := by decide +kernel
theorem dX9_ring_35 : decode cX9_ring 35 = .ok (.getfield 40, 3) := by decide +kernel
theorem dX9_ring_38 : decode cX9_ring 38 = .ok (.getfield 199, 3) := by decide +kernel
theorem dX9_ring_41 : decode cX9_ring 41 = .ok (.goto 5, 3) := by decide +kernel
theorem dX9_ring_44 : decode cX9_ring 44 = .ok (.bipush (-2), 2) := by decide +kernel
theorem dX9_ring_46 : decode cX9_ring 46 = .ok (.invokevirtual 100, 3) := by decide +kernel
theorem dX9_ring_49 : decode cX9_ring 49 = .ok (.ireturn, 1) := by decide +kernel
theorem dX9_ringAt_0 : decode cX9_ringAt 0 = .ok (.aload_n 0, 1) := by decide +kernel
theorem dX9_ringAt_1 : decode cX9_ringAt 1 = .ok (.iload_n 1, 1) := by decide +kernel
theorem dX9_ringAt_2 : decode cX9_ringAt 2 = .ok (.invokevirtual 106, 3) := by decide +kernel
theorem dX9_ringAt_5 : decode cX9_ringAt 5 = .ok (.ifCond .eq 37, 3) := by decide +kernel
theorem dX9_ringAt_8 : decode cX9_ringAt 8 = .ok (.aload_n 0, 1) := by decide +kernel
theorem dX9_ringAt_9 : decode cX9_ringAt 9 = .ok (.getfield 40, 3) := by decide +kernel
theorem dX9_ringAt_12 : decode cX9_ringAt 12 = .ok (.aload_n 0, 1) := by decide +kernel
theorem dX9_ringAt_13 : decode cX9_ringAt 13 = .ok (.getfield 61, 3) := by decide +kernel
theorem dX9_ringAt_16 : decode cX9_ringAt 16 = .ok (.aload_n 0, 1) := by decide +kernel
theorem dX9_ringAt_17 : decode cX9_ringAt 17 = .ok (.getfield 19, 3) := by decide +kernel
theorem dX9_ringAt_20 : decode cX9_ringAt 20 = .ok (.iload_n 1, 1) := by decide +kernel
theorem dX9_ringAt_21 : decode cX9_ringAt 21 = .ok (.invokevirtual 195, 3) := by decide +kernel
theorem dX9_ringAt_24 : decode cX9_ringAt 24 = .ok (.ifCond .eq 18, 3) := by decide +kernel
theorem dX9_ringAt_27 : decode cX9_ringAt 27 = .ok (.iload_n 2, 1) := by decide +kernel
theorem dX9_ringAt_28 : decode cX9_ringAt 28 = .ok (.ifCond .lt 14, 3) := by decide +kernel
theorem dX9_ringAt_31 : decode cX9_ringAt 31 = .ok (.iload_n 2, 1) := by decide +kernel
theorem dX9_ringAt_32 : decode cX9_ringAt 32 = .ok (.aload_n 0, 1) := by decide +kernel
theorem dX9_ringAt_33 : decode cX9_ringAt 33 = .ok (.getfield 40, 3) := by decide +kernel
theorem dX9_ringAt_36 : decode cX9_ringAt 36 = .ok (.getfield 199, 3) := by decide +kernel
theorem dX9_ringAt_39 : decode cX9_ringAt 39 = .ok (.if_icmp .lt 9, 3) := by decide +kernel
theorem dX9_ringAt_42 : decode cX9_ringAt 42 = .ok (.aload_n 0, 1) := by decide +kernel
theorem dX9_ringAt_43 : decode cX9_ringAt 43 = .ok (.iconst 1, 1) := by decide +kernel
theorem dX9_ringAt_44 : decode cX9_ringAt 44 = .ok (.invokevirtual 82, 3) := by decide +kernel
theorem dX9_ringAt_47 : decode cX9_ringAt 47 = .ok (.ireturn, 1) := by decide +kernel
theorem dX9_ringAt_48 : decode cX9_ringAt 48 = .ok (.aload_n 0, 1) := by decide +kernel
theorem dX9_ringAt_49 : decode cX9_ringAt 49 = .ok (.aload_n 0, 1) := by decide +kernel
theorem dX9_ringAt_50 : decode cX9_ringAt 50 = .ok (.getfield 40, 3) := by decide +kernel
theorem dX9_ringAt_53 : decode cX9_ringAt 53 = .ok (.getfield 202, 3) := by decide +kernel
theorem dX9_ringAt_56 : decode cX9_ringAt 56 = .ok (.iload_n 2, 1) := by decide +kernel
theorem dX9_ringAt_57 : decode cX9_ringAt 57 = .ok (.iaload, 1) := by decide +kernel
theorem dX9_ringAt_58 : decode cX9_ringAt 58 = .ok (.invokevirtual 100, 3) := by decide +kernel
theorem dX9_ringAt_61 : decode cX9_ringAt 61 = .ok (.ireturn, 1) := by decide +kernel
theorem dX9_ringSum_0 : decode cX9_ringSum 0 = .ok (.aload_n 0, 1) := by decide +kernel
theorem dX9_ringSum_1 : decode cX9_ringSum 1 = .ok (.iload_n 1, 1) := by decide +kernel
theorem dX9_ringSum_2 : decode cX9_ringSum 2 = .ok (.invokevirtual 106, 3) := by decide +kernel
theorem dX9_ringSum_5 : decode cX9_ringSum 5 = .ok (.ifCond .ne 9, 3) := by decide +kernel
theorem dX9_ringSum_8 : decode cX9_ringSum 8 = .ok (.aload_n 0, 1) := by decide +kernel
theorem dX9_ringSum_9 : decode cX9_ringSum 9 = .ok (.iconst 1, 1) := by decide +kernel
theorem dX9_ringSum_10 : decode cX9_ringSum 10 = .ok (.invokevirtual 82, 3) := by decide +kernel
theorem dX9_ringSum_13 : decode cX9_ringSum 13 = .ok (.ireturn, 1) := by decide +kernel
theorem dX9_ringSum_14 : decode cX9_ringSum 14 = .ok (.aload_n 0, 1) := by decide +kernel
theorem dX9_ringSum_15 : decode cX9_ringSum 15 = .ok (.aload_n 0, 1) := by decide +kernel
theorem dX9_ringSum_16 : decode cX9_ringSum 16 = .ok (.getfield 40, 3) := by decide +kernel
theorem dX9_ringSum_19 : decode cX9_ringSum 19 = .ok (.aload_n 0, 1) := by decide +kernel
theorem dX9_ringSum_20 : decode cX9_ringSum 20 = .ok (.getfield 61, 3) := by decide +kernel
theorem dX9_ringSum_23 : decode cX9_ringSum 23 = .ok (.aload_n 0, 1) := by decide +kernel
theorem dX9_ringSum_24 : decode cX9_ringSum 24 = .ok (.getfield 19, 3) := by decide +kernel
theorem dX9_ringSum_27 : decode cX9_ringSum 27 = .ok (.iload_n 1, 1) := by decide +kernel
theorem dX9_ringSum_28 : decode cX9_ringSum 28 = .ok (.invokevirtual 195, 3) := by decide +kernel
theorem dX9_ringSum_31 : decode cX9_ringSum 31 = .ok (.ifCond .eq 21, 3) := by decide +kernel
theorem dX9_ringSum_34 : decode cX9_ringSum 34 = .ok (.aload_n 0, 1) := by decide +kernel
theorem dX9_ringSum_35 : decode cX9_ringSum 35 = .ok (.getfield 40, 3) := by decide +kernel
theorem dX9_ringSum_38 : decode cX9_ringSum 38 = .ok (.aload_n 0, 1) := by decide +kernel
theorem dX9_ringSum_39 : decode cX9_ringSum 39 = .ok (.getfield 61, 3) := by decide +kernel
theorem dX9_ringSum_42 : decode cX9_ringSum 42 = .ok (.aload_n 0, 1) := by decide +kernel
theorem dX9_ringSum_43 : decode cX9_ringSum 43 = .ok (.getfield 19, 3) := by decide +kernel
theorem dX9_ringSum_46 : decode cX9_ringSum 46 = .ok (.invokevirtual 205, 3) := by decide +kernel
theorem dX9_ringSum_49 : decode cX9_ringSum 49 = .ok (.goto 5, 3) := by decide +kernel
theorem dX9_ringSum_52 : decode cX9_ringSum 52 = .ok (.bipush (-2), 2) := by decide +kernel
theorem dX9_ringSum_54 : decode cX9_ringSum 54 = .ok (.invokevirtual 100, 3) := by decide +kernel
theorem dX9_ringSum_57 : decode cX9_ringSum 57 = .ok (.ireturn, 1) := by decide +kernel
theorem dX9_bestRing_0 : decode cX9_bestRing 0 = .ok (.aload_n 0, 1) := by decide +kernel
theorem dX9_bestRing_1 : decode cX9_bestRing 1 = .ok (.invokevirtual 134, 3) := by decide +kernel
theorem dX9_bestRing_4 : decode cX9_bestRing 4 = .ok (.ifCond .eq 9, 3) := by decide +kernel
theorem dX9_bestRing_7 : decode cX9_bestRing 7 = .ok (.aload_n 0, 1) := by decide +kernel
theorem dX9_bestRing_8 : decode cX9_bestRing 8 = .ok (.iconst 1, 1) := by decide +kernel
theorem dX9_bestRing_9 : decode cX9_bestRing 9 = .ok (.invokevirtual 82, 3) := by decide +kernel
theorem dX9_bestRing_12 : decode cX9_bestRing 12 = .ok (.ireturn, 1) := by decide +kernel
theorem dX9_bestRing_13 : decode cX9_bestRing 13 = .ok (.bipush (-2), 2) := by decide +kernel
theorem dX9_bestRing_15 : decode cX9_bestRing 15 = .ok (.istore_n 1, 1) := by decide +kernel
theorem dX9_bestRing_16 : decode cX9_bestRing 16 = .ok (.iconst 0, 1) := by decide +kernel
theorem dX9_bestRing_17 : decode cX9_bestRing 17 = .ok (.istore_n 2, 1) := by decide +kernel
theorem dX9_bestRing_18 : decode cX9_bestRing 18 = .ok (.iconst 0, 1) := by decide +kernel
theorem dX9_bestRing_19 : decode cX9_bestRing 19 = .ok (.istore_n 3, 1) := by decide +kernel
theorem dX9_bestRing_20 : decode cX9_bestRing 20 = .ok (.iload_n 3, 1) := by decide +kernel
theorem dX9_bestRing_21 : decode cX9_bestRing 21 = .ok (.aload_n 0, 1) := by decide +kernel
theorem dX9_bestRing_22 : decode cX9_bestRing 22 = .ok (.getfield 61, 3) := by decide +kernel
theorem dX9_bestRing_25 : decode cX9_bestRing 25 = .ok (.getfield 97, 3) := by decide +kernel
theorem dX9_bestRing_28 : decode cX9_bestRing 28 = .ok (.if_icmp .ge 70, 3) := by decide +kernel
theorem dX9_bestRing_31 : decode cX9_bestRing 31 = .ok (.aload_n 0, 1) := by decide +kernel
theorem dX9_bestRing_32 : decode cX9_bestRing 32 = .ok (.getfield 40, 3) := by decide +kernel
theorem dX9_bestRing_35 : decode cX9_bestRing 35 = .ok (.aload_n 0, 1) := by decide +kernel
theorem dX9_bestRing_36 : decode cX9_bestRing 36 = .ok (.getfield 61, 3) := by decide +kernel
theorem dX9_bestRing_39 : decode cX9_bestRing 39 = .ok (.aload_n 0, 1) := by decide +kernel
theorem dX9_bestRing_40 : decode cX9_bestRing 40 = .ok (.getfield 19, 3) := by decide +kernel
theorem dX9_bestRing_43 : decode cX9_bestRing 43 = .ok (.iload_n 3, 1) := by decide +kernel
theorem dX9_bestRing_44 : decode cX9_bestRing 44 = .ok (.invokevirtual 195, 3) := by decide +kernel
theorem dX9_bestRing_47 : decode cX9_bestRing 47 = .ok (.ifCond .eq 45, 3) := by decide +kernel
theorem dX9_bestRing_50 : decode cX9_bestRing 50 = .ok (.aload_n 0, 1) := by decide +kernel
theorem dX9_bestRing_51 : decode cX9_bestRing 51 = .ok (.getfield 40, 3) := by decide +kernel
theorem dX9_bestRing_54 : decode cX9_bestRing 54 = .ok (.aload_n 0, 1) := by decide +kernel
theorem dX9_bestRing_55 : decode cX9_bestRing 55 = .ok (.getfield 61, 3) := by decide +kernel
theorem dX9_bestRing_58 : decode cX9_bestRing 58 = .ok (.aload_n 0, 1) := by decide +kernel
theorem dX9_bestRing_59 : decode cX9_bestRing 59 = .ok (.getfield 19, 3) := by decide +kernel
theorem dX9_bestRing_62 : decode cX9_bestRing 62 = .ok (.invokevirtual 205, 3) := by decide +kernel
theorem dX9_bestRing_65 : decode cX9_bestRing 65 = .ok (.aload_n 0, 1) := by decide +kernel
theorem dX9_bestRing_66 : decode cX9_bestRing 66 = .ok (.getfield 40, 3) := by decide +kernel
theorem dX9_bestRing_69 : decode cX9_bestRing 69 = .ok (.getfield 199, 3) := by decide +kernel
theorem dX9_bestRing_72 : decode cX9_bestRing 72 = .ok (.imul, 1) := by decide +kernel
theorem dX9_bestRing_73 : decode cX9_bestRing 73 = .ok (.istore 4, 2) := by decide +kernel
theorem dX9_bestRing_75 : decode cX9_bestRing 75 = .ok (.iload_n 1, 1) := by decide +kernel
theorem dX9_bestRing_76 : decode cX9_bestRing 76 = .ok (.bipush (-2), 2) := by decide +kernel
theorem dX9_bestRing_78 : decode cX9_bestRing 78 = .ok (.if_icmp .eq 9, 3) := by decide +kernel
theorem dX9_bestRing_81 : decode cX9_bestRing 81 = .ok (.iload 4, 2) := by decide +kernel
theorem dX9_bestRing_83 : decode cX9_bestRing 83 = .ok (.iload_n 2, 1) := by decide +kernel
theorem dX9_bestRing_84 : decode cX9_bestRing 84 = .ok (.if_icmp .le 8, 3) := by decide +kernel
theorem dX9_bestRing_87 : decode cX9_bestRing 87 = .ok (.iload_n 3, 1) := by decide +kernel
theorem dX9_bestRing_88 : decode cX9_bestRing 88 = .ok (.istore_n 1, 1) := by decide +kernel
theorem dX9_bestRing_89 : decode cX9_bestRing 89 = .ok (.iload 4, 2) := by decide +kernel
theorem dX9_bestRing_91 : decode cX9_bestRing 91 = .ok (.istore_n 2, 1) := by decide +kernel
theorem dX9_bestRing_92 : decode cX9_bestRing 92 = .ok (.iinc 3 1, 3) := by decide +kernel
theorem dX9_bestRing_95 : decode cX9_bestRing 95 = .ok (.goto (-75), 3) := by decide +kernel
theorem dX9_bestRing_98 : decode cX9_bestRing 98 = .ok (.aload_n 0, 1) := by decide +kernel
theorem dX9_bestRing_99 : decode cX9_bestRing 99 = .ok (.iload_n 1, 1) := by decide +kernel
theorem dX9_bestRing_100 : decode cX9_bestRing 100 = .ok (.invokevirtual 100, 3) := by decide +kernel
theorem dX9_bestRing_103 : decode cX9_bestRing 103 = .ok (.ireturn, 1) := by decide +kernel
theorem dX9_reach_0 : decode cX9_reach 0 = .ok (.aload_n 0, 1) := by decide +kernel
theorem dX9_reach_1 : decode cX9_reach 1 = .ok (.iload_n 1, 1) := by decide +kernel
theorem dX9_reach_2 : decode cX9_reach 2 = .ok (.invokevirtual 106, 3) := by decide +kernel
theorem dX9_reach_5 : decode cX9_reach 5 = .ok (.ifCond .ne 9, 3) := by decide +kernel
theorem dX9_reach_8 : decode cX9_reach 8 = .ok (.aload_n 0, 1) := by decide +kernel
theorem dX9_reach_9 : decode cX9_reach 9 = .ok (.iconst 1, 1) := by decide +kernel
theorem dX9_reach_10 : decode cX9_reach 10 = .ok (.invokevirtual 82, 3) := by decide +kernel
theorem dX9_reach_13 : decode cX9_reach 13 = .ok (.ireturn, 1) := by decide +kernel
theorem dX9_reach_14 : decode cX9_reach 14 = .ok (.aload_n 0, 1) := by decide +kernel
theorem dX9_reach_15 : decode cX9_reach 15 = .ok (.getfield 61, 3) := by decide +kernel
theorem dX9_reach_18 : decode cX9_reach 18 = .ok (.aload_n 0, 1) := by decide +kernel
theorem dX9_reach_19 : decode cX9_reach 19 = .ok (.getfield 19, 3) := by decide +kernel
theorem dX9_reach_22 : decode cX9_reach 22 = .ok (.iload_n 1, 1) := by decide +kernel
theorem dX9_reach_23 : decode cX9_reach 23 = .ok (.invokevirtual 208, 3) := by decide +kernel
theorem dX9_reach_26 : decode cX9_reach 26 = .ok (.istore_n 2, 1) := by decide +kernel
theorem dX9_reach_27 : decode cX9_reach 27 = .ok (.iconst 0, 1) := by decide +kernel
theorem dX9_reach_28 : decode cX9_reach 28 = .ok (.istore_n 3, 1) := by decide +kernel
theorem dX9_reach_29 : decode cX9_reach 29 = .ok (.iload_n 3, 1) := by decide +kernel
theorem dX9_reach_30 : decode cX9_reach 30 = .ok (.aload_n 0, 1) := by decide +kernel
theorem dX9_reach_31 : decode cX9_reach 31 = .ok (.getfield 61, 3) := by decide +kernel
theorem dX9_reach_34 : decode cX9_reach 34 = .ok (.getfield 97, 3) := by decide +kernel
theorem dX9_reach_37 : decode cX9_reach 37 = .ok (.if_icmp .ge 55, 3) := by decide +kernel
theorem dX9_reach_40 : decode cX9_reach 40 = .ok (.iconst 0, 1) := by decide +kernel
theorem dX9_reach_41 : decode cX9_reach 41 = .ok (.istore 4, 2) := by decide +kernel
theorem dX9_reach_43 : decode cX9_reach 43 = .ok (.iload 4, 2) := by decide +kernel
theorem dX9_reach_45 : decode cX9_reach 45 = .ok (.aload_n 0, 1) := by decide +kernel
theorem dX9_reach_46 : decode cX9_reach 46 = .ok (.getfield 61, 3) := by decide +kernel
theorem dX9_reach_49 : decode cX9_reach 49 = .ok (.getfield 97, 3) := by decide +kernel
theorem dX9_reach_52 : decode cX9_reach 52 = .ok (.if_icmp .ge 34, 3) := by decide +kernel
theorem dX9_reach_55 : decode cX9_reach 55 = .ok (.iload_n 2, 1) := by decide +kernel
theorem dX9_reach_56 : decode cX9_reach 56 = .ok (.iload 4, 2) := by decide +kernel
theorem dX9_reach_58 : decode cX9_reach 58 = .ok (.ishr, 1) := by decide +kernel
theorem dX9_reach_59 : decode cX9_reach 59 = .ok (.iconst 1, 1) := by decide +kernel
theorem dX9_reach_60 : decode cX9_reach 60 = .ok (.iand, 1) := by decide +kernel
theorem dX9_reach_61 : decode cX9_reach 61 = .ok (.ifCond .eq 19, 3) := by decide +kernel
theorem dX9_reach_64 : decode cX9_reach 64 = .ok (.iload_n 2, 1) := by decide +kernel
theorem dX9_reach_65 : decode cX9_reach 65 = .ok (.aload_n 0, 1) := by decide +kernel
theorem dX9_reach_66 : decode cX9_reach 66 = .ok (.getfield 61, 3) := by decide +kernel
theorem dX9_reach_69 : decode cX9_reach 69 = .ok (.aload_n 0, 1) := by decide +kernel
theorem dX9_reach_70 : decode cX9_reach 70 = .ok (.getfield 19, 3) := by decide +kernel
theorem dX9_reach_73 : decode cX9_reach 73 = .ok (.iload 4, 2) := by decide +kernel
theorem dX9_reach_75 : decode cX9_reach 75 = .ok (.invokevirtual 208, 3) := by decide +kernel
theorem dX9_reach_78 : decode cX9_reach 78 = .ok (.ior, 1) := by decide +kernel
theorem dX9_reach_79 : decode cX9_reach 79 = .ok (.istore_n 2, 1) := by decide +kernel
theorem dX9_reach_80 : decode cX9_reach 80 = .ok (.iinc 4 1, 3) := by decide +kernel
theorem dX9_reach_83 : decode cX9_reach 83 = .ok (.goto (-40), 3) := by decide +kernel
theorem dX9_reach_86 : decode cX9_reach 86 = .ok (.iinc 3 1, 3) := by decide +kernel
theorem dX9_reach_89 : decode cX9_reach 89 = .ok (.goto (-60), 3) := by decide +kernel
theorem dX9_reach_92 : decode cX9_reach 92 = .ok (.aload_n 0, 1) := by decide +kernel
theorem dX9_reach_93 : decode cX9_reach 93 = .ok (.iload_n 2, 1) := by decide +kernel
theorem dX9_reach_94 : decode cX9_reach 94 = .ok (.invokevirtual 100, 3) := by decide +kernel
theorem dX9_reach_97 : decode cX9_reach 97 = .ok (.ireturn, 1) := by decide +kernel
theorem dX9_fits_0 : decode cX9_fits 0 = .ok (.aload_n 0, 1) := by decide +kernel
theorem dX9_fits_1 : decode cX9_fits 1 = .ok (.invokevirtual 134, 3) := by decide +kernel
theorem dX9_fits_4 : decode cX9_fits 4 = .ok (.ifCond .eq 9, 3) := by decide +kernel
theorem dX9_fits_7 : decode cX9_fits 7 = .ok (.aload_n 0, 1) := by decide +kernel
theorem dX9_fits_8 : decode cX9_fits 8 = .ok (.iconst 1, 1) := by decide +kernel
theorem dX9_fits_9 : decode cX9_fits 9 = .ok (.invokevirtual 82, 3) := by decide +kernel
theorem dX9_fits_12 : decode cX9_fits 12 = .ok (.ireturn, 1) := by decide +kernel
theorem dX9_fits_13 : decode cX9_fits 13 = .ok (.aload_n 0, 1) := by decide +kernel
theorem dX9_fits_14 : decode cX9_fits 14 = .ok (.getfield 47, 3) := by decide +kernel
theorem dX9_fits_17 : decode cX9_fits 17 = .ok (.aload_n 0, 1) := by decide +kernel
theorem dX9_fits_18 : decode cX9_fits 18 = .ok (.getfield 61, 3) := by decide +kernel
theorem dX9_fits_21 : decode cX9_fits 21 = .ok (.aload_n 0, 1) := by decide +kernel
theorem dX9_fits_22 : decode cX9_fits 22 = .ok (.getfield 19, 3) := by decide +kernel
theorem dX9_fits_25 : decode cX9_fits 25 = .ok (.invokevirtual 211, 3) := by decide +kernel
theorem dX9_fits_28 : decode cX9_fits 28 = .ok (.aload_n 0, 1) := by decide +kernel
theorem dX9_fits_29 : decode cX9_fits 29 = .ok (.aload_n 0, 1) := by decide +kernel
theorem dX9_fits_30 : decode cX9_fits 30 = .ok (.getfield 47, 3) := by decide +kernel
theorem dX9_fits_33 : decode cX9_fits 33 = .ok (.getfield 215, 3) := by decide +kernel
theorem dX9_fits_36 : decode cX9_fits 36 = .ok (.invokevirtual 100, 3) := by decide +kernel
theorem dX9_fits_39 : decode cX9_fits 39 = .ok (.ireturn, 1) := by decide +kernel
theorem dX9_fitAt_0 : decode cX9_fitAt 0 = .ok (.aload_n 0, 1) := by decide +kernel
theorem dX9_fitAt_1 : decode cX9_fitAt 1 = .ok (.invokevirtual 134, 3) := by decide +kernel
theorem dX9_fitAt_4 : decode cX9_fitAt 4 = .ok (.ifCond .ne 7, 3) := by decide +kernel
theorem dX9_fitAt_7 : decode cX9_fitAt 7 = .ok (.iload_n 1, 1) := by decide +kernel
theorem dX9_fitAt_8 : decode cX9_fitAt 8 = .ok (.ifCond .ge 9, 3) := by decide +kernel
theorem dX9_fitAt_11 : decode cX9_fitAt 11 = .ok (.aload_n 0, 1) := by decide +kernel
theorem dX9_fitAt_12 : decode cX9_fitAt 12 = .ok (.iconst 1, 1) := by decide +kernel
theorem dX9_fitAt_13 : decode cX9_fitAt 13 = .ok (.invokevirtual 82, 3) := by decide +kernel
theorem dX9_fitAt_16 : decode cX9_fitAt 16 = .ok (.ireturn, 1) := by decide +kernel
theorem dX9_fitAt_17 : decode cX9_fitAt 17 = .ok (.aload_n 0, 1) := by decide +kernel
theorem dX9_fitAt_18 : decode cX9_fitAt 18 = .ok (.getfield 47, 3) := by decide +kernel
theorem dX9_fitAt_21 : decode cX9_fitAt 21 = .ok (.aload_n 0, 1) := by decide +kernel
theorem dX9_fitAt_22 : decode cX9_fitAt 22 = .ok (.getfield 61, 3) := by decide +kernel
theorem dX9_fitAt_25 : decode cX9_fitAt 25 = .ok (.aload_n 0, 1) := by decide +kernel
theorem dX9_fitAt_26 : decode cX9_fitAt 26 = .ok (.getfield 19, 3) := by decide +kernel
theorem dX9_fitAt_29 : decode cX9_fitAt 29 = .ok (.invokevirtual 211, 3) := by decide +kernel
theorem dX9_fitAt_32 : decode cX9_fitAt 32 = .ok (.aload_n 0, 1) := by decide +kernel
theorem dX9_fitAt_33 : decode cX9_fitAt 33 = .ok (.getfield 47, 3) := by decide +kernel
theorem dX9_fitAt_36 : decode cX9_fitAt 36 = .ok (.iload_n 1, 1) := by decide +kernel
theorem dX9_fitAt_37 : decode cX9_fitAt 37 = .ok (.invokevirtual 218, 3) := by decide +kernel
theorem dX9_fitAt_40 : decode cX9_fitAt 40 = .ok (.istore_n 2, 1) := by decide +kernel
theorem dX9_fitAt_41 : decode cX9_fitAt 41 = .ok (.iload_n 2, 1) := by decide +kernel
theorem dX9_fitAt_42 : decode cX9_fitAt 42 = .ok (.iconst (-1), 1) := by decide +kernel
theorem dX9_fitAt_43 : decode cX9_fitAt 43 = .ok (.if_icmp .ne 11, 3) := by decide +kernel
theorem dX9_fitAt_46 : decode cX9_fitAt 46 = .ok (.aload_n 0, 1) := by decide +kernel
theorem dX9_fitAt_47 : decode cX9_fitAt 47 = .ok (.iconst 1, 1) := by decide +kernel
theorem dX9_fitAt_48 : decode cX9_fitAt 48 = .ok (.invokevirtual 82, 3) := by decide +kernel
theorem dX9_fitAt_51 : decode cX9_fitAt 51 = .ok (.goto 8, 3) := by decide +kernel
theorem dX9_fitAt_54 : decode cX9_fitAt 54 = .ok (.aload_n 0, 1) := by decide +kernel
theorem dX9_fitAt_55 : decode cX9_fitAt 55 = .ok (.iload_n 2, 1) := by decide +kernel
theorem dX9_fitAt_56 : decode cX9_fitAt 56 = .ok (.invokevirtual 100, 3) := by decide +kernel
theorem dX9_fitAt_59 : decode cX9_fitAt 59 = .ok (.ireturn, 1) := by decide +kernel
theorem dX9_likely_0 : decode cX9_likely 0 = .ok (.iload_n 1, 1) := by decide +kernel
theorem dX9_likely_1 : decode cX9_likely 1 = .ok (.ifCond .lt 17, 3) := by decide +kernel
theorem dX9_likely_4 : decode cX9_likely 4 = .ok (.iload_n 1, 1) := by decide +kernel
theorem dX9_likely_5 : decode cX9_likely 5 = .ok (.aload_n 0, 1) := by decide +kernel
theorem dX9_likely_6 : decode cX9_likely 6 = .ok (.getfield 61, 3) := by decide +kernel
theorem dX9_likely_9 : decode cX9_likely 9 = .ok (.getfield 221, 3) := by decide +kernel
theorem dX9_likely_12 : decode cX9_likely 12 = .ok (.getfield 168, 3) := by decide +kernel
theorem dX9_likely_15 : decode cX9_likely 15 = .ok (.if_icmp .lt 10, 3) := by decide +kernel
theorem dX9_likely_18 : decode cX9_likely 18 = .ok (.aload_n 0, 1) := by decide +kernel
theorem dX9_likely_19 : decode cX9_likely 19 = .ok (.iconst 1, 1) := by decide +kernel
theorem dX9_likely_20 : decode cX9_likely 20 = .ok (.invokevirtual 82, 3) := by decide +kernel
theorem dX9_likely_23 : decode cX9_likely 23 = .ok (.i2l, 1) := by decide +kernel
theorem dX9_likely_24 : decode cX9_likely 24 = .ok (.lreturn, 1) := by decide +kernel
theorem dX9_likely_25 : decode cX9_likely 25 = .ok (.aload_n 0, 1) := by decide +kernel
theorem dX9_likely_26 : decode cX9_likely 26 = .ok (.getfield 47, 3) := by decide +kernel
theorem dX9_likely_29 : decode cX9_likely 29 = .ok (.aload_n 0, 1) := by decide +kernel
theorem dX9_likely_30 : decode cX9_likely 30 = .ok (.getfield 61, 3) := by decide +kernel
theorem dX9_likely_33 : decode cX9_likely 33 = .ok (.aload_n 0, 1) := by decide +kernel
theorem dX9_likely_34 : decode cX9_likely 34 = .ok (.getfield 19, 3) := by decide +kernel
theorem dX9_likely_37 : decode cX9_likely 37 = .ok (.invokevirtual 211, 3) := by decide +kernel
theorem dX9_likely_40 : decode cX9_likely 40 = .ok (.aload_n 0, 1) := by decide +kernel
theorem dX9_likely_41 : decode cX9_likely 41 = .ok (.iconst 0, 1) := by decide +kernel
theorem dX9_likely_42 : decode cX9_likely 42 = .ok (.putfield 72, 3) := by decide +kernel
theorem dX9_likely_45 : decode cX9_likely 45 = .ok (.aload_n 0, 1) := by decide +kernel
theorem dX9_likely_46 : decode cX9_likely 46 = .ok (.getfield 47, 3) := by decide +kernel
theorem dX9_likely_49 : decode cX9_likely 49 = .ok (.iload_n 1, 1) := by decide +kernel
theorem dX9_likely_50 : decode cX9_likely 50 = .ok (.invokevirtual 224, 3) := by decide +kernel
theorem dX9_likely_53 : decode cX9_likely 53 = .ok (.aload_n 0, 1) := by decide +kernel
theorem dX9_likely_54 : decode cX9_likely 54 = .ok (.getfield 47, 3) := by decide +kernel
theorem dX9_likely_57 : decode cX9_likely 57 = .ok (.getfield 228, 3) := by decide +kernel
theorem dX9_likely_60 : decode cX9_likely 60 = .ok (.iload_n 2, 1) := by decide +kernel
theorem dX9_likely_61 : decode cX9_likely 61 = .ok (.invokestatic 232, 3) := by decide +kernel
theorem dX9_likely_64 : decode cX9_likely 64 = .ok (.lreturn, 1) := by decide +kernel
theorem dX9_headIs_0 : decode cX9_headIs 0 = .ok (.aload_n 0, 1) := by decide +kernel
theorem dX9_headIs_1 : decode cX9_headIs 1 = .ok (.iload_n 1, 1) := by decide +kernel
theorem dX9_headIs_2 : decode cX9_headIs 2 = .ok (.invokevirtual 106, 3) := by decide +kernel
theorem dX9_headIs_5 : decode cX9_headIs 5 = .ok (.ifCond .ne 10, 3) := by decide +kernel
theorem dX9_headIs_8 : decode cX9_headIs 8 = .ok (.aload_n 0, 1) := by decide +kernel
theorem dX9_headIs_9 : decode cX9_headIs 9 = .ok (.iconst 1, 1) := by decide +kernel
theorem dX9_headIs_10 : decode cX9_headIs 10 = .ok (.invokevirtual 82, 3) := by decide +kernel
theorem dX9_headIs_13 : decode cX9_headIs 13 = .ok (.i2l, 1) := by decide +kernel
theorem dX9_headIs_14 : decode cX9_headIs 14 = .ok (.lreturn, 1) := by decide +kernel
theorem dX9_headIs_15 : decode cX9_headIs 15 = .ok (.iload_n 2, 1) := by decide +kernel
theorem dX9_headIs_16 : decode cX9_headIs 16 = .ok (.ifCond .lt 9, 3) := by decide +kernel
theorem dX9_headIs_19 : decode cX9_headIs 19 = .ok (.iload_n 2, 1) := by decide +kernel
theorem dX9_headIs_20 : decode cX9_headIs 20 = .ok (.bipush 99, 2) := by decide +kernel
theorem dX9_headIs_22 : decode cX9_headIs 22 = .ok (.if_icmp .le 10, 3) := by decide +kernel
theorem dX9_headIs_25 : decode cX9_headIs 25 = .ok (.aload_n 0, 1) := by decide +kernel
theorem dX9_headIs_26 : decode cX9_headIs 26 = .ok (.iconst 2, 1) := by decide +kernel
theorem dX9_headIs_27 : decode cX9_headIs 27 = .ok (.invokevirtual 82, 3) := by decide +kernel
theorem dX9_headIs_30 : decode cX9_headIs 30 = .ok (.i2l, 1) := by decide +kernel
theorem dX9_headIs_31 : decode cX9_headIs 31 = .ok (.lreturn, 1) := by decide +kernel
theorem dX9_headIs_32 : decode cX9_headIs 32 = .ok (.aload_n 0, 1) := by decide +kernel
theorem dX9_headIs_33 : decode cX9_headIs 33 = .ok (.getfield 47, 3) := by decide +kernel
theorem dX9_headIs_36 : decode cX9_headIs 36 = .ok (.aload_n 0, 1) := by decide +kernel
theorem dX9_headIs_37 : decode cX9_headIs 37 = .ok (.getfield 61, 3) := by decide +kernel
theorem dX9_headIs_40 : decode cX9_headIs 40 = .ok (.aload_n 0, 1) := by decide +kernel
theorem dX9_headIs_41 : decode cX9_headIs 41 = .ok (.getfield 19, 3) := by decide +kernel
theorem dX9_headIs_44 : decode cX9_headIs 44 = .ok (.invokevirtual 211, 3) := by decide +kernel
theorem dX9_headIs_47 : decode cX9_headIs 47 = .ok (.aload_n 0, 1) := by decide +kernel
theorem dX9_headIs_48 : decode cX9_headIs 48 = .ok (.iconst 0, 1) := by decide +kernel
theorem dX9_headIs_49 : decode cX9_headIs 49 = .ok (.putfield 72, 3) := by decide +kernel
theorem dX9_headIs_52 : decode cX9_headIs 52 = .ok (.aload_n 0, 1) := by decide +kernel
theorem dX9_headIs_53 : decode cX9_headIs 53 = .ok (.getfield 47, 3) := by decide +kernel
theorem dX9_headIs_56 : decode cX9_headIs 56 = .ok (.aload_n 0, 1) := by decide +kernel
theorem dX9_headIs_57 : decode cX9_headIs 57 = .ok (.getfield 61, 3) := by decide +kernel
theorem dX9_headIs_60 : decode cX9_headIs 60 = .ok (.aload_n 0, 1) := by decide +kernel
theorem dX9_headIs_61 : decode cX9_headIs 61 = .ok (.getfield 19, 3) := by decide +kernel
theorem dX9_headIs_64 : decode cX9_headIs 64 = .ok (.iload_n 1, 1) := by decide +kernel
theorem dX9_headIs_65 : decode cX9_headIs 65 = .ok (.iload_n 2, 1) := by decide +kernel
theorem dX9_headIs_66 : decode cX9_headIs 66 = .ok (.invokevirtual 236, 3) := by decide +kernel
theorem dX9_headIs_69 : decode cX9_headIs 69 = .ok (.aload_n 0, 1) := by decide +kernel
theorem dX9_headIs_70 : decode cX9_headIs 70 = .ok (.getfield 47, 3) := by decide +kernel
theorem dX9_headIs_73 : decode cX9_headIs 73 = .ok (.getfield 228, 3) := by decide +kernel
theorem dX9_headIs_76 : decode cX9_headIs 76 = .ok (.iload_n 3, 1) := by decide +kernel
theorem dX9_headIs_77 : decode cX9_headIs 77 = .ok (.invokestatic 232, 3) := by decide +kernel
theorem dX9_headIs_80 : decode cX9_headIs 80 = .ok (.lreturn, 1) := by decide +kernel
theorem dX9_likeliest_0 : decode cX9_likeliest 0 = .ok (.aload_n 0, 1) := by decide +kernel
theorem dX9_likeliest_1 : decode cX9_likeliest 1 = .ok (.invokevirtual 134, 3) := by decide +kernel
theorem dX9_likeliest_4 : decode cX9_likeliest 4 = .ok (.ifCond .eq 9, 3) := by decide +kernel
theorem dX9_likeliest_7 : decode cX9_likeliest 7 = .ok (.aload_n 0, 1) := by decide +kernel
theorem dX9_likeliest_8 : decode cX9_likeliest 8 = .ok (.iconst 1, 1) := by decide +kernel
theorem dX9_likeliest_9 : decode cX9_likeliest 9 = .ok (.invokevirtual 82, 3) := by decide +kernel
theorem dX9_likeliest_12 : decode cX9_likeliest 12 = .ok (.ireturn, 1) := by decide +kernel
theorem dX9_likeliest_13 : decode cX9_likeliest 13 = .ok (.aload_n 0, 1) := by decide +kernel
theorem dX9_likeliest_14 : decode cX9_likeliest 14 = .ok (.getfield 47, 3) := by decide +kernel
theorem dX9_likeliest_17 : decode cX9_likeliest 17 = .ok (.aload_n 0, 1) := by decide +kernel
theorem dX9_likeliest_18 : decode cX9_likeliest 18 = .ok (.getfield 61, 3) := by decide +kernel
theorem dX9_likeliest_21 : decode cX9_likeliest 21 = .ok (.aload_n 0, 1) := by decide +kernel
theorem dX9_likeliest_22 : decode cX9_likeliest 22 = .ok (.getfield 19, 3) := by decide +kernel
theorem dX9_likeliest_25 : decode cX9_likeliest 25 = .ok (.invokevirtual 211, 3) := by decide +kernel
theorem dX9_likeliest_28 : decode cX9_likeliest 28 = .ok (.aload_n 0, 1) := by decide +kernel
theorem dX9_likeliest_29 : decode cX9_likeliest 29 = .ok (.aload_n 0, 1) := by decide +kernel
theorem dX9_likeliest_30 : decode cX9_likeliest 30 = .ok (.getfield 47, 3) := by decide +kernel
theorem dX9_likeliest_33 : decode cX9_likeliest 33 = .ok (.invokevirtual 240, 3) := by decide +kernel
theorem dX9_likeliest_36 : decode cX9_likeliest 36 = .ok (.invokevirtual 100, 3) := by decide +kernel
theorem dX9_likeliest_39 : decode cX9_likeliest 39 = .ok (.ireturn, 1) := by decide +kernel
theorem dX9_look_0 : decode cX9_look 0 = .ok (.aload_n 0, 1) := by decide +kernel
theorem dX9_look_1 : decode cX9_look 1 = .ok (.invokevirtual 134, 3) := by decide +kernel
theorem dX9_look_4 : decode cX9_look 4 = .ok (.ifCond .eq 9, 3) := by decide +kernel
theorem dX9_look_7 : decode cX9_look 7 = .ok (.aload_n 0, 1) := by decide +kernel
theorem dX9_look_8 : decode cX9_look 8 = .ok (.iconst 1, 1) := by decide +kernel
theorem dX9_look_9 : decode cX9_look 9 = .ok (.invokevirtual 82, 3) := by decide +kernel
theorem dX9_look_12 : decode cX9_look 12 = .ok (.ireturn, 1) := by decide +kernel
theorem dX9_look_13 : decode cX9_look 13 = .ok (.aload_n 0, 1) := by decide +kernel
theorem dX9_look_14 : decode cX9_look 14 = .ok (.getfield 47, 3) := by decide +kernel
theorem dX9_look_17 : decode cX9_look 17 = .ok (.aload_n 0, 1) := by decide +kernel
theorem dX9_look_18 : decode cX9_look 18 = .ok (.getfield 61, 3) := by decide +kernel
theorem dX9_look_21 : decode cX9_look 21 = .ok (.aload_n 0, 1) := by decide +kernel
theorem dX9_look_22 : decode cX9_look 22 = .ok (.getfield 19, 3) := by decide +kernel
theorem dX9_look_25 : decode cX9_look 25 = .ok (.invokevirtual 211, 3) := by decide +kernel
theorem dX9_look_28 : decode cX9_look 28 = .ok (.aload_n 0, 1) := by decide +kernel
theorem dX9_look_29 : decode cX9_look 29 = .ok (.aload_n 0, 1) := by decide +kernel
theorem dX9_look_30 : decode cX9_look 30 = .ok (.invokevirtual 244, 3) := by decide +kernel
theorem dX9_look_33 : decode cX9_look 33 = .ok (.invokevirtual 100, 3) := by decide +kernel
theorem dX9_look_36 : decode cX9_look 36 = .ok (.ireturn, 1) := by decide +kernel
theorem dX9_lookLeaves_0 : decode cX9_lookLeaves 0 = .ok (.aload_n 0, 1) := by decide +kernel
theorem dX9_lookLeaves_1 : decode cX9_lookLeaves 1 = .ok (.invokevirtual 134, 3) := by decide +kernel
theorem dX9_lookLeaves_4 : decode cX9_lookLeaves 4 = .ok (.ifCond .eq 9, 3) := by decide +kernel
theorem dX9_lookLeaves_7 : decode cX9_lookLeaves 7 = .ok (.aload_n 0, 1) := by decide +kernel
theorem dX9_lookLeaves_8 : decode cX9_lookLeaves 8 = .ok (.iconst 1, 1) := by decide +kernel
theorem dX9_lookLeaves_9 : decode cX9_lookLeaves 9 = .ok (.invokevirtual 82, 3) := by decide +kernel
theorem dX9_lookLeaves_12 : decode cX9_lookLeaves 12 = .ok (.ireturn, 1) := by decide +kernel
theorem dX9_lookLeaves_13 : decode cX9_lookLeaves 13 = .ok (.aload_n 0, 1) := by decide +kernel
theorem dX9_lookLeaves_14 : decode cX9_lookLeaves 14 = .ok (.getfield 47, 3) := by decide +kernel
theorem dX9_lookLeaves_17 : decode cX9_lookLeaves 17 = .ok (.aload_n 0, 1) := by decide +kernel
theorem dX9_lookLeaves_18 : decode cX9_lookLeaves 18 = .ok (.getfield 61, 3) := by decide +kernel
theorem dX9_lookLeaves_21 : decode cX9_lookLeaves 21 = .ok (.aload_n 0, 1) := by decide +kernel
theorem dX9_lookLeaves_22 : decode cX9_lookLeaves 22 = .ok (.getfield 19, 3) := by decide +kernel
theorem dX9_lookLeaves_25 : decode cX9_lookLeaves 25 = .ok (.invokevirtual 211, 3) := by decide +kernel
theorem dX9_lookLeaves_28 : decode cX9_lookLeaves 28 = .ok (.aload_n 0, 1) := by decide +kernel
theorem dX9_lookLeaves_29 : decode cX9_lookLeaves 29 = .ok (.invokevirtual 244, 3) := by decide +kernel
theorem dX9_lookLeaves_32 : decode cX9_lookLeaves 32 = .ok (.istore_n 1, 1) := by decide +kernel
theorem dX9_lookLeaves_33 : decode cX9_lookLeaves 33 = .ok (.aload_n 0, 1) := by decide +kernel
theorem dX9_lookLeaves_34 : decode cX9_lookLeaves 34 = .ok (.iload_n 1, 1) := by decide +kernel
theorem dX9_lookLeaves_35 : decode cX9_lookLeaves 35 = .ok (.bipush (-2), 2) := by decide +kernel
theorem dX9_lookLeaves_37 : decode cX9_lookLeaves 37 = .ok (.if_icmp .ne 8, 3) := by decide +kernel
theorem dX9_lookLeaves_40 : decode cX9_lookLeaves 40 = .ok (.bipush (-2), 2) := by decide +kernel
theorem dX9_lookLeaves_42 : decode cX9_lookLeaves 42 = .ok (.goto 19, 3) := by decide +kernel
theorem dX9_lookLeaves_45 : decode cX9_lookLeaves 45 = .ok (.aload_n 0, 1) := by decide +kernel
theorem dX9_lookLeaves_46 : decode cX9_lookLeaves 46 = .ok (.getfield 47, 3) := by decide +kernel
theorem dX9_lookLeaves_49 : decode cX9_lookLeaves 49 = .ok (.aload_n 0, 1) := by decide +kernel
theorem dX9_lookLeaves_50 : decode cX9_lookLeaves 50 = .ok (.getfield 61, 3) := by decide +kernel
theorem dX9_lookLeaves_53 : decode cX9_lookLeaves 53 = .ok (.aload_n 0, 1) := by decide +kernel
theorem dX9_lookLeaves_54 : decode cX9_lookLeaves 54 = .ok (.getfield 19, 3) := by decide +kernel
theorem dX9_lookLeaves_57 : decode cX9_lookLeaves 57 = .ok (.iload_n 1, 1) := by decide +kernel
theorem dX9_lookLeaves_58 : decode cX9_lookLeaves 58 = .ok (.invokevirtual 247, 3) := by decide +kernel
theorem dX9_lookLeaves_61 : decode cX9_lookLeaves 61 = .ok (.invokevirtual 100, 3) := by decide +kernel
theorem dX9_lookLeaves_64 : decode cX9_lookLeaves 64 = .ok (.ireturn, 1) := by decide +kernel
theorem dX9_judge_0 : decode cX9_judge 0 = .ok (.aload_n 0, 1) := by decide +kernel
theorem dX9_judge_1 : decode cX9_judge 1 = .ok (.invokevirtual 134, 3) := by decide +kernel
theorem dX9_judge_4 : decode cX9_judge 4 = .ok (.ifCond .eq 9, 3) := by decide +kernel
theorem dX9_judge_7 : decode cX9_judge 7 = .ok (.aload_n 0, 1) := by decide +kernel
theorem dX9_judge_8 : decode cX9_judge 8 = .ok (.iconst 1, 1) := by decide +kernel
theorem dX9_judge_9 : decode cX9_judge 9 = .ok (.invokevirtual 82, 3) := by decide +kernel
theorem dX9_judge_12 : decode cX9_judge 12 = .ok (.ireturn, 1) := by decide +kernel
theorem dX9_judge_13 : decode cX9_judge 13 = .ok (.iconst 0, 1) := by decide +kernel
theorem dX9_judge_14 : decode cX9_judge 14 = .ok (.istore_n 1, 1) := by decide +kernel
theorem dX9_judge_15 : decode cX9_judge 15 = .ok (.iload_n 1, 1) := by decide +kernel
theorem dX9_judge_16 : decode cX9_judge 16 = .ok (.aload_n 0, 1) := by decide +kernel
theorem dX9_judge_17 : decode cX9_judge 17 = .ok (.getfield 61, 3) := by decide +kernel
theorem dX9_judge_20 : decode cX9_judge 20 = .ok (.getfield 251, 3) := by decide +kernel
theorem dX9_judge_23 : decode cX9_judge 23 = .ok (.if_icmp .ge 39, 3) := by decide +kernel
theorem dX9_judge_26 : decode cX9_judge 26 = .ok (.aload_n 0, 1) := by decide +kernel
theorem dX9_judge_27 : decode cX9_judge 27 = .ok (.getfield 61, 3) := by decide +kernel
theorem dX9_judge_30 : decode cX9_judge 30 = .ok (.iload_n 1, 1) := by decide +kernel
theorem dX9_judge_31 : decode cX9_judge 31 = .ok (.aload_n 0, 1) := by decide +kernel
theorem dX9_judge_32 : decode cX9_judge 32 = .ok (.aload_n 0, 1) := by decide +kernel
theorem dX9_judge_33 : decode cX9_judge 33 = .ok (.getfield 61, 3) := by decide +kernel
theorem dX9_judge_36 : decode cX9_judge 36 = .ok (.getfield 254, 3) := by decide +kernel
theorem dX9_judge_39 : decode cX9_judge 39 = .ok (.iload_n 1, 1) := by decide +kernel
theorem dX9_judge_40 : decode cX9_judge 40 = .ok (.iaload, 1) := by decide +kernel
theorem dX9_judge_41 : decode cX9_judge 41 = .ok (.invokevirtual 144, 3) := by decide +kernel
theorem dX9_judge_44 : decode cX9_judge 44 = .ok (.invokevirtual 257, 3) := by decide +kernel
theorem dX9_judge_47 : decode cX9_judge 47 = .ok (.ifCond .ne 9, 3) := by decide +kernel
theorem dX9_judge_50 : decode cX9_judge 50 = .ok (.aload_n 0, 1) := by decide +kernel
theorem dX9_judge_51 : decode cX9_judge 51 = .ok (.iload_n 1, 1) := by decide +kernel
theorem dX9_judge_52 : decode cX9_judge 52 = .ok (.invokevirtual 100, 3) := by decide +kernel
theorem dX9_judge_55 : decode cX9_judge 55 = .ok (.ireturn, 1) := by decide +kernel
theorem dX9_judge_56 : decode cX9_judge 56 = .ok (.iinc 1 1, 3) := by decide +kernel
theorem dX9_judge_59 : decode cX9_judge 59 = .ok (.goto (-44), 3) := by decide +kernel
theorem dX9_judge_62 : decode cX9_judge 62 = .ok (.aload_n 0, 1) := by decide +kernel
theorem dX9_judge_63 : decode cX9_judge 63 = .ok (.bipush (-2), 2) := by decide +kernel
theorem dX9_judge_65 : decode cX9_judge 65 = .ok (.invokevirtual 100, 3) := by decide +kernel
theorem dX9_judge_68 : decode cX9_judge 68 = .ok (.ireturn, 1) := by decide +kernel
theorem dX9_duel_0 : decode cX9_duel 0 = .ok (.aload_n 0, 1) := by decide +kernel
theorem dX9_duel_1 : decode cX9_duel 1 = .ok (.iload_n 1, 1) := by decide +kernel
theorem dX9_duel_2 : decode cX9_duel 2 = .ok (.iload_n 2, 1) := by decide +kernel
theorem dX9_duel_3 : decode cX9_duel 3 = .ok (.iload_n 3, 1) := by decide +kernel
theorem dX9_duel_4 : decode cX9_duel 4 = .ok (.invokevirtual 260, 3) := by decide +kernel
theorem dX9_duel_7 : decode cX9_duel 7 = .ok (.istore 7, 2) := by decide +kernel
theorem dX9_duel_9 : decode cX9_duel 9 = .ok (.iload 7, 2) := by decide +kernel
theorem dX9_duel_11 : decode cX9_duel 11 = .ok (.ifCond .eq 13, 3) := by decide +kernel
theorem dX9_duel_14 : decode cX9_duel 14 = .ok (.aload_n 0, 1) := by decide +kernel
theorem dX9_duel_15 : decode cX9_duel 15 = .ok (.iload 7, 2) := by decide +kernel
theorem dX9_duel_17 : decode cX9_duel 17 = .ok (.invokevirtual 82, 3) := by decide +kernel
theorem dX9_duel_20 : decode cX9_duel 20 = .ok (.pop, 1) := by decide +kernel
theorem dX9_duel_21 : decode cX9_duel 21 = .ok (.bipush (-100), 2) := by decide +kernel
theorem dX9_duel_23 : decode cX9_duel 23 = .ok (.ireturn, 1) := by decide +kernel
theorem dX9_duel_24 : decode cX9_duel 24 = .ok (.aload_n 0, 1) := by decide +kernel
theorem dX9_duel_25 : decode cX9_duel 25 = .ok (.iload 6, 2) := by decide +kernel
theorem dX9_duel_27 : decode cX9_duel 27 = .ok (.ifCond .eq 17, 3) := by decide +kernel
theorem dX9_duel_30 : decode cX9_duel 30 = .ok (.aload_n 0, 1) := by decide +kernel
theorem dX9_duel_31 : decode cX9_duel 31 = .ok (.iload_n 2, 1) := by decide +kernel
theorem dX9_duel_32 : decode cX9_duel 32 = .ok (.iload_n 1, 1) := by decide +kernel
theorem dX9_duel_33 : decode cX9_duel 33 = .ok (.iload_n 3, 1) := by decide +kernel
theorem dX9_duel_34 : decode cX9_duel 34 = .ok (.iload 5, 2) := by decide +kernel
theorem dX9_duel_36 : decode cX9_duel 36 = .ok (.iload 4, 2) := by decide +kernel
theorem dX9_duel_38 : decode cX9_duel 38 = .ok (.invokevirtual 264, 3) := by decide +kernel
theorem dX9_duel_41 : decode cX9_duel 41 = .ok (.goto 14, 3) := by decide +kernel
theorem dX9_duel_44 : decode cX9_duel 44 = .ok (.aload_n 0, 1) := by decide +kernel
theorem dX9_duel_45 : decode cX9_duel 45 = .ok (.iload_n 1, 1) := by decide +kernel
theorem dX9_duel_46 : decode cX9_duel 46 = .ok (.iload_n 2, 1) := by decide +kernel
theorem dX9_duel_47 : decode cX9_duel 47 = .ok (.iload_n 3, 1) := by decide +kernel
theorem dX9_duel_48 : decode cX9_duel 48 = .ok (.iload 4, 2) := by decide +kernel
theorem dX9_duel_50 : decode cX9_duel 50 = .ok (.iload 5, 2) := by decide +kernel
theorem dX9_duel_52 : decode cX9_duel 52 = .ok (.invokevirtual 264, 3) := by decide +kernel
theorem dX9_duel_55 : decode cX9_duel 55 = .ok (.invokevirtual 100, 3) := by decide +kernel
theorem dX9_duel_58 : decode cX9_duel 58 = .ok (.ireturn, 1) := by decide +kernel
theorem dX9_rests_0 : decode cX9_rests 0 = .ok (.aload_n 0, 1) := by decide +kernel
theorem dX9_rests_1 : decode cX9_rests 1 = .ok (.iload_n 1, 1) := by decide +kernel
theorem dX9_rests_2 : decode cX9_rests 2 = .ok (.iload_n 2, 1) := by decide +kernel
theorem dX9_rests_3 : decode cX9_rests 3 = .ok (.iload_n 3, 1) := by decide +kernel
theorem dX9_rests_4 : decode cX9_rests 4 = .ok (.invokevirtual 260, 3) := by decide +kernel
theorem dX9_rests_7 : decode cX9_rests 7 = .ok (.istore 4, 2) := by decide +kernel
theorem dX9_rests_9 : decode cX9_rests 9 = .ok (.iload 4, 2) := by decide +kernel
theorem dX9_rests_11 : decode cX9_rests 11 = .ok (.ifCond .eq 10, 3) := by decide +kernel
theorem dX9_rests_14 : decode cX9_rests 14 = .ok (.aload_n 0, 1) := by decide +kernel
theorem dX9_rests_15 : decode cX9_rests 15 = .ok (.iload 4, 2) := by decide +kernel
theorem dX9_rests_17 : decode cX9_rests 17 = .ok (.invokevirtual 82, 3) := by decide +kernel
theorem dX9_rests_20 : decode cX9_rests 20 = .ok (.ireturn, 1) := by decide +kernel
theorem dX9_rests_21 : decode cX9_rests 21 = .ok (.iconst 0, 1) := by decide +kernel
theorem dX9_rests_22 : decode cX9_rests 22 = .ok (.istore 5, 2) := by decide +kernel
theorem dX9_rests_24 : decode cX9_rests 24 = .ok (.iconst 0, 1) := by decide +kernel
theorem dX9_rests_25 : decode cX9_rests 25 = .ok (.istore 6, 2) := by decide +kernel
theorem dX9_rests_27 : decode cX9_rests 27 = .ok (.iload 6, 2) := by decide +kernel
theorem dX9_rests_29 : decode cX9_rests 29 = .ok (.iconst 4, 1) := by decide +kernel
theorem dX9_rests_30 : decode cX9_rests 30 = .ok (.if_icmp .ge 24, 3) := by decide +kernel
theorem dX9_rests_33 : decode cX9_rests 33 = .ok (.aload_n 0, 1) := by decide +kernel
theorem dX9_rests_34 : decode cX9_rests 34 = .ok (.iload_n 1, 1) := by decide +kernel
theorem dX9_rests_35 : decode cX9_rests 35 = .ok (.iload_n 2, 1) := by decide +kernel
theorem dX9_rests_36 : decode cX9_rests 36 = .ok (.iload_n 3, 1) := by decide +kernel
theorem dX9_rests_37 : decode cX9_rests 37 = .ok (.iload 6, 2) := by decide +kernel
theorem dX9_rests_39 : decode cX9_rests 39 = .ok (.invokevirtual 268, 3) := by decide +kernel
theorem dX9_rests_42 : decode cX9_rests 42 = .ok (.ifCond .eq 6, 3) := by decide +kernel
theorem dX9_rests_45 : decode cX9_rests 45 = .ok (.iinc 5 1, 3) := by decide +kernel
theorem dX9_rests_48 : decode cX9_rests 48 = .ok (.iinc 6 1, 3) := by decide +kernel
theorem dX9_rests_51 : decode cX9_rests 51 = .ok (.goto (-24), 3) := by decide +kernel
theorem dX9_rests_54 : decode cX9_rests 54 = .ok (.aload_n 0, 1) := by decide +kernel
theorem dX9_rests_55 : decode cX9_rests 55 = .ok (.iload 5, 2) := by decide +kernel
theorem dX9_rests_57 : decode cX9_rests 57 = .ok (.invokevirtual 100, 3) := by decide +kernel
theorem dX9_rests_60 : decode cX9_rests 60 = .ok (.ireturn, 1) := by decide +kernel
theorem dX9_rest_0 : decode cX9_rest 0 = .ok (.aload_n 0, 1) := by decide +kernel
theorem dX9_rest_1 : decode cX9_rest 1 = .ok (.iload_n 1, 1) := by decide +kernel
theorem dX9_rest_2 : decode cX9_rest 2 = .ok (.iload_n 2, 1) := by decide +kernel
theorem dX9_rest_3 : decode cX9_rest 3 = .ok (.iload_n 3, 1) := by decide +kernel
theorem dX9_rest_4 : decode cX9_rest 4 = .ok (.invokevirtual 260, 3) := by decide +kernel
theorem dX9_rest_7 : decode cX9_rest 7 = .ok (.istore 4, 2) := by decide +kernel
theorem dX9_rest_9 : decode cX9_rest 9 = .ok (.iload 4, 2) := by decide +kernel
theorem dX9_rest_11 : decode cX9_rest 11 = .ok (.ifCond .eq 10, 3) := by decide +kernel
theorem dX9_rest_14 : decode cX9_rest 14 = .ok (.aload_n 0, 1) := by decide +kernel
theorem dX9_rest_15 : decode cX9_rest 15 = .ok (.iload 4, 2) := by decide +kernel
theorem dX9_rest_17 : decode cX9_rest 17 = .ok (.invokevirtual 82, 3) := by decide +kernel
theorem dX9_rest_20 : decode cX9_rest 20 = .ok (.ireturn, 1) := by decide +kernel
theorem dX9_rest_21 : decode cX9_rest 21 = .ok (.iconst 0, 1) := by decide +kernel
theorem dX9_rest_22 : decode cX9_rest 22 = .ok (.istore 5, 2) := by decide +kernel
theorem dX9_rest_24 : decode cX9_rest 24 = .ok (.iload 5, 2) := by decide +kernel
theorem dX9_rest_26 : decode cX9_rest 26 = .ok (.iconst 4, 1) := by decide +kernel
theorem dX9_rest_27 : decode cX9_rest 27 = .ok (.if_icmp .ge 38, 3) := by decide +kernel
theorem dX9_rest_30 : decode cX9_rest 30 = .ok (.aload_n 0, 1) := by decide +kernel
theorem dX9_rest_31 : decode cX9_rest 31 = .ok (.iload_n 1, 1) := by decide +kernel
theorem dX9_rest_32 : decode cX9_rest 32 = .ok (.iload_n 2, 1) := by decide +kernel
theorem dX9_rest_33 : decode cX9_rest 33 = .ok (.iload_n 3, 1) := by decide +kernel
theorem dX9_rest_34 : decode cX9_rest 34 = .ok (.iload 5, 2) := by decide +kernel
theorem dX9_rest_36 : decode cX9_rest 36 = .ok (.invokevirtual 268, 3) := by decide +kernel
theorem dX9_rest_39 : decode cX9_rest 39 = .ok (.ifCond .eq 20, 3) := by decide +kernel
theorem dX9_rest_42 : decode cX9_rest 42 = .ok (.aload_n 0, 1) := by decide +kernel
theorem dX9_rest_43 : decode cX9_rest 43 = .ok (.iload 5, 2) := by decide +kernel
theorem dX9_rest_45 : decode cX9_rest 45 = .ok (.iconst 1, 1) := by decide +kernel
theorem dX9_rest_46 : decode cX9_rest 46 = .ok (.ishr, 1) := by decide +kernel
theorem dX9_rest_47 : decode cX9_rest 47 = .ok (.bipush 10, 2) := by decide +kernel
theorem dX9_rest_49 : decode cX9_rest 49 = .ok (.imul, 1) := by decide +kernel
theorem dX9_rest_50 : decode cX9_rest 50 = .ok (.iload 5, 2) := by decide +kernel
theorem dX9_rest_52 : decode cX9_rest 52 = .ok (.iconst 1, 1) := by decide +kernel
theorem dX9_rest_53 : decode cX9_rest 53 = .ok (.iand, 1) := by decide +kernel
theorem dX9_rest_54 : decode cX9_rest 54 = .ok (.iadd, 1) := by decide +kernel
theorem dX9_rest_55 : decode cX9_rest 55 = .ok (.invokevirtual 100, 3) := by decide +kernel
theorem dX9_rest_58 : decode cX9_rest 58 = .ok (.ireturn, 1) := by decide +kernel
theorem dX9_rest_59 : decode cX9_rest 59 = .ok (.iinc 5 1, 3) := by decide +kernel
theorem dX9_rest_62 : decode cX9_rest 62 = .ok (.goto (-38), 3) := by decide +kernel
theorem dX9_rest_65 : decode cX9_rest 65 = .ok (.aload_n 0, 1) := by decide +kernel
theorem dX9_rest_66 : decode cX9_rest 66 = .ok (.bipush (-2), 2) := by decide +kernel
theorem dX9_rest_68 : decode cX9_rest 68 = .ok (.invokevirtual 100, 3) := by decide +kernel
theorem dX9_rest_71 : decode cX9_rest 71 = .ok (.ireturn, 1) := by decide +kernel
theorem dX9_locked_0 : decode cX9_locked 0 = .ok (.aload_n 0, 1) := by decide +kernel
theorem dX9_locked_1 : decode cX9_locked 1 = .ok (.iload_n 1, 1) := by decide +kernel
theorem dX9_locked_2 : decode cX9_locked 2 = .ok (.invokevirtual 272, 3) := by decide +kernel
theorem dX9_locked_5 : decode cX9_locked 5 = .ok (.istore_n 3, 1) := by decide +kernel
theorem dX9_locked_6 : decode cX9_locked 6 = .ok (.iload_n 3, 1) := by decide +kernel
theorem dX9_locked_7 : decode cX9_locked 7 = .ok (.ifCond .eq 10, 3) := by decide +kernel
theorem dX9_locked_10 : decode cX9_locked 10 = .ok (.aload_n 0, 1) := by decide +kernel
theorem dX9_locked_11 : decode cX9_locked 11 = .ok (.iload_n 3, 1) := by decide +kernel
theorem dX9_locked_12 : decode cX9_locked 12 = .ok (.invokevirtual 82, 3) := by decide +kernel
theorem dX9_locked_15 : decode cX9_locked 15 = .ok (.i2l, 1) := by decide +kernel
theorem dX9_locked_16 : decode cX9_locked 16 = .ok (.lreturn, 1) := by decide +kernel
theorem dX9_locked_17 : decode cX9_locked 17 = .ok (.lconst 1, 1) := by decide +kernel
theorem dX9_locked_18 : decode cX9_locked 18 = .ok (.lstore 4, 2) := by decide +kernel
theorem dX9_locked_20 : decode cX9_locked 20 = .ok (.lconst 1, 1) := by decide +kernel
theorem dX9_locked_21 : decode cX9_locked 21 = .ok (.lstore 6, 2) := by decide +kernel
theorem dX9_locked_23 : decode cX9_locked 23 = .ok (.iconst 0, 1) := by decide +kernel
theorem dX9_locked_24 : decode cX9_locked 24 = .ok (.istore 8, 2) := by decide +kernel
theorem dX9_locked_26 : decode cX9_locked 26 = .ok (.iload 8, 2) := by decide +kernel
theorem dX9_locked_28 : decode cX9_locked 28 = .ok (.iload_n 1, 1) := by decide +kernel
theorem dX9_locked_29 : decode cX9_locked 29 = .ok (.if_icmp .ge 30, 3) := by decide +kernel
theorem dX9_locked_32 : decode cX9_locked 32 = .ok (.lload 4, 2) := by decide +kernel
theorem dX9_locked_34 : decode cX9_locked 34 = .ok (.aload_n 0, 1) := by decide +kernel
theorem dX9_locked_35 : decode cX9_locked 35 = .ok (.getfield 61, 3) := by decide +kernel
theorem dX9_locked_38 : decode cX9_locked 38 = .ok (.getfield 275, 3) := by decide +kernel
theorem dX9_locked_41 : decode cX9_locked 41 = .ok (.i2l, 1) := by decide +kernel
theorem dX9_locked_42 : decode cX9_locked 42 = .ok (.lmul, 1) := by decide +kernel
theorem dX9_locked_43 : decode cX9_locked 43 = .ok (.lstore 4, 2) := by decide +kernel
theorem dX9_locked_45 : decode cX9_locked 45 = .ok (.lload 6, 2) := by decide +kernel
theorem dX9_locked_47 : decode cX9_locked 47 = .ok (.ldc2_w 278, 3) := by decide +kernel
theorem dX9_locked_50 : decode cX9_locked 50 = .ok (.lmul, 1) := by decide +kernel
theorem dX9_locked_51 : decode cX9_locked 51 = .ok (.lstore 6, 2) := by decide +kernel
theorem dX9_locked_53 : decode cX9_locked 53 = .ok (.iinc 8 1, 3) := by decide +kernel
theorem dX9_locked_56 : decode cX9_locked 56 = .ok (.goto (-30), 3) := by decide +kernel
theorem dX9_locked_59 : decode cX9_locked 59 = .ok (.aload_n 0, 1) := by decide +kernel
theorem dX9_locked_60 : decode cX9_locked 60 = .ok (.iconst 0, 1) := by decide +kernel
theorem dX9_locked_61 : decode cX9_locked 61 = .ok (.putfield 72, 3) := by decide +kernel
theorem dX9_locked_64 : decode cX9_locked 64 = .ok (.lload 4, 2) := by decide +kernel
theorem dX9_locked_66 : decode cX9_locked 66 = .ok (.lload 6, 2) := by decide +kernel
theorem dX9_locked_68 : decode cX9_locked 68 = .ok (.iload_n 2, 1) := by decide +kernel
theorem dX9_locked_69 : decode cX9_locked 69 = .ok (.invokestatic 232, 3) := by decide +kernel
theorem dX9_locked_72 : decode cX9_locked 72 = .ok (.lreturn, 1) := by decide +kernel
theorem dX9_weeks_0 : decode cX9_weeks 0 = .ok (.aload_n 0, 1) := by decide +kernel
theorem dX9_weeks_1 : decode cX9_weeks 1 = .ok (.iload_n 1, 1) := by decide +kernel
theorem dX9_weeks_2 : decode cX9_weeks 2 = .ok (.invokevirtual 272, 3) := by decide +kernel
theorem dX9_weeks_5 : decode cX9_weeks 5 = .ok (.istore_n 3, 1) := by decide +kernel
theorem dX9_weeks_6 : decode cX9_weeks 6 = .ok (.iload_n 3, 1) := by decide +kernel
theorem dX9_weeks_7 : decode cX9_weeks 7 = .ok (.ifCond .eq 10, 3) := by decide +kernel
theorem dX9_weeks_10 : decode cX9_weeks 10 = .ok (.aload_n 0, 1) := by decide +kernel
theorem dX9_weeks_11 : decode cX9_weeks 11 = .ok (.iload_n 3, 1) := by decide +kernel
theorem dX9_weeks_12 : decode cX9_weeks 12 = .ok (.invokevirtual 82, 3) := by decide +kernel
theorem dX9_weeks_15 : decode cX9_weeks 15 = .ok (.i2l, 1) := by decide +kernel
theorem dX9_weeks_16 : decode cX9_weeks 16 = .ok (.lreturn, 1) := by decide +kernel
theorem dX9_weeks_17 : decode cX9_weeks 17 = .ok (.lconst 1, 1) := by decide +kernel
theorem dX9_weeks_18 : decode cX9_weeks 18 = .ok (.lstore 4, 2) := by decide +kernel
theorem dX9_weeks_20 : decode cX9_weeks 20 = .ok (.lconst 0, 1) := by decide +kernel
theorem dX9_weeks_21 : decode cX9_weeks 21 = .ok (.lstore 6, 2) := by decide +kernel
theorem dX9_weeks_23 : decode cX9_weeks 23 = .ok (.lconst 1, 1) := by decide +kernel
theorem dX9_weeks_24 : decode cX9_weeks 24 = .ok (.lstore 8, 2) := by decide +kernel
theorem dX9_weeks_26 : decode cX9_weeks 26 = .ok (.iconst 0, 1) := by decide +kernel
theorem dX9_weeks_27 : decode cX9_weeks 27 = .ok (.istore 10, 2) := by decide +kernel
theorem dX9_weeks_29 : decode cX9_weeks 29 = .ok (.iload 10, 2) := by decide +kernel
theorem dX9_weeks_31 : decode cX9_weeks 31 = .ok (.iload_n 1, 1) := by decide +kernel
theorem dX9_weeks_32 : decode cX9_weeks 32 = .ok (.if_icmp .ge 41, 3) := by decide +kernel
theorem dX9_weeks_35 : decode cX9_weeks 35 = .ok (.lload 4, 2) := by decide +kernel
theorem dX9_weeks_37 : decode cX9_weeks 37 = .ok (.aload_n 0, 1) := by decide +kernel
theorem dX9_weeks_38 : decode cX9_weeks 38 = .ok (.getfield 61, 3) := by decide +kernel
theorem dX9_weeks_41 : decode cX9_weeks 41 = .ok (.getfield 275, 3) := by decide +kernel
theorem dX9_weeks_44 : decode cX9_weeks 44 = .ok (.i2l, 1) := by decide +kernel
theorem dX9_weeks_45 : decode cX9_weeks 45 = .ok (.lmul, 1) := by decide +kernel
theorem dX9_weeks_46 : decode cX9_weeks 46 = .ok (.lstore 4, 2) := by decide +kernel
theorem dX9_weeks_48 : decode cX9_weeks 48 = .ok (.lload 6, 2) := by decide +kernel
theorem dX9_weeks_50 : decode cX9_weeks 50 = .ok (.ldc2_w 278, 3) := by decide +kernel
theorem dX9_weeks_53 : decode cX9_weeks 53 = .ok (.lmul, 1) := by decide +kernel
theorem dX9_weeks_54 : decode cX9_weeks 54 = .ok (.lload 4, 2) := by decide +kernel
theorem dX9_weeks_56 : decode cX9_weeks 56 = .ok (.ladd, 1) := by decide +kernel
theorem dX9_weeks_57 : decode cX9_weeks 57 = .ok (.lstore 6, 2) := by decide +kernel
theorem dX9_weeks_59 : decode cX9_weeks 59 = .ok (.lload 8, 2) := by decide +kernel
theorem dX9_weeks_61 : decode cX9_weeks 61 = .ok (.ldc2_w 278, 3) := by decide +kernel
theorem dX9_weeks_64 : decode cX9_weeks 64 = .ok (.lmul, 1) := by decide +kernel
theorem dX9_weeks_65 : decode cX9_weeks 65 = .ok (.lstore 8, 2) := by decide +kernel
theorem dX9_weeks_67 : decode cX9_weeks 67 = .ok (.iinc 10 1, 3) := by decide +kernel
theorem dX9_weeks_70 : decode cX9_weeks 70 = .ok (.goto (-41), 3) := by decide +kernel
theorem dX9_weeks_73 : decode cX9_weeks 73 = .ok (.aload_n 0, 1) := by decide +kernel
theorem dX9_weeks_74 : decode cX9_weeks 74 = .ok (.iconst 0, 1) := by decide +kernel
theorem dX9_weeks_75 : decode cX9_weeks 75 = .ok (.putfield 72, 3) := by decide +kernel
theorem dX9_weeks_78 : decode cX9_weeks 78 = .ok (.lload 6, 2) := by decide +kernel
theorem dX9_weeks_80 : decode cX9_weeks 80 = .ok (.lload 8, 2) := by decide +kernel
theorem dX9_weeks_82 : decode cX9_weeks 82 = .ok (.iload_n 2, 1) := by decide +kernel
theorem dX9_weeks_83 : decode cX9_weeks 83 = .ok (.invokestatic 232, 3) := by decide +kernel
theorem dX9_weeks_86 : decode cX9_weeks 86 = .ok (.lreturn, 1) := by decide +kernel
theorem dX9_moths_0 : decode cX9_moths 0 = .ok (.aload_n 0, 1) := by decide +kernel
theorem dX9_moths_1 : decode cX9_moths 1 = .ok (.iload_n 1, 1) := by decide +kernel
theorem dX9_moths_2 : decode cX9_moths 2 = .ok (.invokevirtual 106, 3) := by decide +kernel
theorem dX9_moths_5 : decode cX9_moths 5 = .ok (.ifCond .ne 9, 3) := by decide +kernel
theorem dX9_moths_8 : decode cX9_moths 8 = .ok (.aload_n 0, 1) := by decide +kernel
theorem dX9_moths_9 : decode cX9_moths 9 = .ok (.iconst 1, 1) := by decide +kernel
theorem dX9_moths_10 : decode cX9_moths 10 = .ok (.invokevirtual 82, 3) := by decide +kernel
theorem dX9_moths_13 : decode cX9_moths 13 = .ok (.ireturn, 1) := by decide +kernel
theorem dX9_moths_14 : decode cX9_moths 14 = .ok (.aload_n 0, 1) := by decide +kernel
theorem dX9_moths_15 : decode cX9_moths 15 = .ok (.iload_n 2, 1) := by decide +kernel
theorem dX9_moths_16 : decode cX9_moths 16 = .ok (.iload_n 3, 1) := by decide +kernel
theorem dX9_moths_17 : decode cX9_moths 17 = .ok (.invokevirtual 280, 3) := by decide +kernel
theorem dX9_moths_20 : decode cX9_moths 20 = .ok (.ifCond .ne 9, 3) := by decide +kernel
theorem dX9_moths_23 : decode cX9_moths 23 = .ok (.aload_n 0, 1) := by decide +kernel
theorem dX9_moths_24 : decode cX9_moths 24 = .ok (.iconst 2, 1) := by decide +kernel
theorem dX9_moths_25 : decode cX9_moths 25 = .ok (.invokevirtual 82, 3) := by decide +kernel
theorem dX9_moths_28 : decode cX9_moths 28 = .ok (.ireturn, 1) := by decide +kernel
theorem dX9_moths_29 : decode cX9_moths 29 = .ok (.aload_n 0, 1) := by decide +kernel
theorem dX9_moths_30 : decode cX9_moths 30 = .ok (.getfield 54, 3) := by decide +kernel
theorem dX9_moths_33 : decode cX9_moths 33 = .ok (.aload_n 0, 1) := by decide +kernel
theorem dX9_moths_34 : decode cX9_moths 34 = .ok (.getfield 61, 3) := by decide +kernel
theorem dX9_moths_37 : decode cX9_moths 37 = .ok (.aload_n 0, 1) := by decide +kernel
theorem dX9_moths_38 : decode cX9_moths 38 = .ok (.getfield 19, 3) := by decide +kernel
theorem dX9_moths_41 : decode cX9_moths 41 = .ok (.iload_n 2, 1) := by decide +kernel
theorem dX9_moths_42 : decode cX9_moths 42 = .ok (.iload_n 3, 1) := by decide +kernel
theorem dX9_moths_43 : decode cX9_moths 43 = .ok (.invokevirtual 284, 3) := by decide +kernel
theorem dX9_moths_46 : decode cX9_moths 46 = .ok (.aload_n 0, 1) := by decide +kernel
theorem dX9_moths_47 : decode cX9_moths 47 = .ok (.aload_n 0, 1) := by decide +kernel
theorem dX9_moths_48 : decode cX9_moths 48 = .ok (.getfield 61, 3) := by decide +kernel
theorem dX9_moths_51 : decode cX9_moths 51 = .ok (.aload_n 0, 1) := by decide +kernel
theorem dX9_moths_52 : decode cX9_moths 52 = .ok (.getfield 54, 3) := by decide +kernel
theorem dX9_moths_55 : decode cX9_moths 55 = .ok (.getfield 288, 3) := by decide +kernel
theorem dX9_moths_58 : decode cX9_moths 58 = .ok (.iload_n 1, 1) := by decide +kernel
theorem dX9_moths_59 : decode cX9_moths 59 = .ok (.aload_n 0, 1) := by decide +kernel
theorem dX9_moths_60 : decode cX9_moths 60 = .ok (.getfield 54, 3) := by decide +kernel
theorem dX9_moths_63 : decode cX9_moths 63 = .ok (.getfield 288, 3) := by decide +kernel
theorem dX9_moths_66 : decode cX9_moths 66 = .ok (.getfield 138, 3) := by decide +kernel
theorem dX9_moths_69 : decode cX9_moths 69 = .ok (.invokevirtual 147, 3) := by decide +kernel
theorem dX9_moths_72 : decode cX9_moths 72 = .ok (.invokevirtual 100, 3) := by decide +kernel
theorem dX9_moths_75 : decode cX9_moths 75 = .ok (.ireturn, 1) := by decide +kernel
theorem dX9_eaten_0 : decode cX9_eaten 0 = .ok (.aload_n 0, 1) := by decide +kernel
theorem dX9_eaten_1 : decode cX9_eaten 1 = .ok (.invokevirtual 134, 3) := by decide +kernel
theorem dX9_eaten_4 : decode cX9_eaten 4 = .ok (.ifCond .eq 9, 3) := by decide +kernel
theorem dX9_eaten_7 : decode cX9_eaten 7 = .ok (.aload_n 0, 1) := by decide +kernel
theorem dX9_eaten_8 : decode cX9_eaten 8 = .ok (.iconst 1, 1) := by decide +kernel
theorem dX9_eaten_9 : decode cX9_eaten 9 = .ok (.invokevirtual 82, 3) := by decide +kernel
theorem dX9_eaten_12 : decode cX9_eaten 12 = .ok (.ireturn, 1) := by decide +kernel
theorem dX9_eaten_13 : decode cX9_eaten 13 = .ok (.aload_n 0, 1) := by decide +kernel
theorem dX9_eaten_14 : decode cX9_eaten 14 = .ok (.iload_n 1, 1) := by decide +kernel
theorem dX9_eaten_15 : decode cX9_eaten 15 = .ok (.iload_n 2, 1) := by decide +kernel
theorem dX9_eaten_16 : decode cX9_eaten 16 = .ok (.invokevirtual 280, 3) := by decide +kernel
theorem dX9_eaten_19 : decode cX9_eaten 19 = .ok (.ifCond .ne 9, 3) := by decide +kernel
theorem dX9_eaten_22 : decode cX9_eaten 22 = .ok (.aload_n 0, 1) := by decide +kernel
theorem dX9_eaten_23 : decode cX9_eaten 23 = .ok (.iconst 2, 1) := by decide +kernel
theorem dX9_eaten_24 : decode cX9_eaten 24 = .ok (.invokevirtual 82, 3) := by decide +kernel
theorem dX9_eaten_27 : decode cX9_eaten 27 = .ok (.ireturn, 1) := by decide +kernel
theorem dX9_eaten_28 : decode cX9_eaten 28 = .ok (.aload_n 0, 1) := by decide +kernel
theorem dX9_eaten_29 : decode cX9_eaten 29 = .ok (.getfield 54, 3) := by decide +kernel
theorem dX9_eaten_32 : decode cX9_eaten 32 = .ok (.aload_n 0, 1) := by decide +kernel
theorem dX9_eaten_33 : decode cX9_eaten 33 = .ok (.getfield 61, 3) := by decide +kernel
theorem dX9_eaten_36 : decode cX9_eaten 36 = .ok (.aload_n 0, 1) := by decide +kernel
theorem dX9_eaten_37 : decode cX9_eaten 37 = .ok (.getfield 19, 3) := by decide +kernel
theorem dX9_eaten_40 : decode cX9_eaten 40 = .ok (.iload_n 1, 1) := by decide +kernel
theorem dX9_eaten_41 : decode cX9_eaten 41 = .ok (.iload_n 2, 1) := by decide +kernel
theorem dX9_eaten_42 : decode cX9_eaten 42 = .ok (.invokevirtual 284, 3) := by decide +kernel
theorem dX9_eaten_45 : decode cX9_eaten 45 = .ok (.aload_n 0, 1) := by decide +kernel
theorem dX9_eaten_46 : decode cX9_eaten 46 = .ok (.aload_n 0, 1) := by decide +kernel
theorem dX9_eaten_47 : decode cX9_eaten 47 = .ok (.getfield 54, 3) := by decide +kernel
theorem dX9_eaten_50 : decode cX9_eaten 50 = .ok (.getfield 291, 3) := by decide +kernel
theorem dX9_eaten_53 : decode cX9_eaten 53 = .ok (.invokevirtual 100, 3) := by decide +kernel
theorem dX9_eaten_56 : decode cX9_eaten 56 = .ok (.ireturn, 1) := by decide +kernel
theorem dX9_pay_0 : decode cX9_pay 0 = .ok (.aload_n 0, 1) := by decide +kernel
theorem dX9_pay_1 : decode cX9_pay 1 = .ok (.iload_n 1, 1) := by decide +kernel
theorem dX9_pay_2 : decode cX9_pay 2 = .ok (.invokevirtual 114, 3) := by decide +kernel
theorem dX9_pay_5 : decode cX9_pay 5 = .ok (.ifCond .ne 9, 3) := by decide +kernel
theorem dX9_pay_8 : decode cX9_pay 8 = .ok (.aload_n 0, 1) := by decide +kernel
theorem dX9_pay_9 : decode cX9_pay 9 = .ok (.iconst 1, 1) := by decide +kernel
theorem dX9_pay_10 : decode cX9_pay 10 = .ok (.invokevirtual 82, 3) := by decide +kernel
theorem dX9_pay_13 : decode cX9_pay 13 = .ok (.ireturn, 1) := by decide +kernel
theorem dX9_pay_14 : decode cX9_pay 14 = .ok (.iload_n 2, 1) := by decide +kernel
theorem dX9_pay_15 : decode cX9_pay 15 = .ok (.iconst 1, 1) := by decide +kernel
theorem dX9_pay_16 : decode cX9_pay 16 = .ok (.if_icmp .lt 9, 3) := by decide +kernel
theorem dX9_pay_19 : decode cX9_pay 19 = .ok (.iload_n 2, 1) := by decide +kernel
theorem dX9_pay_20 : decode cX9_pay 20 = .ok (.bipush 99, 2) := by decide +kernel
theorem dX9_pay_22 : decode cX9_pay 22 = .ok (.if_icmp .le 9, 3) := by decide +kernel
theorem dX9_pay_25 : decode cX9_pay 25 = .ok (.aload_n 0, 1) := by decide +kernel
theorem dX9_pay_26 : decode cX9_pay 26 = .ok (.iconst 2, 1) := by decide +kernel
theorem dX9_pay_27 : decode cX9_pay 27 = .ok (.invokevirtual 82, 3) := by decide +kernel
theorem dX9_pay_30 : decode cX9_pay 30 = .ok (.ireturn, 1) := by decide +kernel
theorem dX9_pay_31 : decode cX9_pay 31 = .ok (.aload_n 0, 1) := by decide +kernel
theorem dX9_pay_32 : decode cX9_pay 32 = .ok (.getfield 61, 3) := by decide +kernel
theorem dX9_pay_35 : decode cX9_pay 35 = .ok (.aload_n 0, 1) := by decide +kernel
theorem dX9_pay_36 : decode cX9_pay 36 = .ok (.getfield 19, 3) := by decide +kernel
theorem dX9_pay_39 : decode cX9_pay 39 = .ok (.iload_n 1, 1) := by decide +kernel
theorem dX9_pay_40 : decode cX9_pay 40 = .ok (.aload_n 0, 1) := by decide +kernel
theorem dX9_pay_41 : decode cX9_pay 41 = .ok (.getfield 19, 3) := by decide +kernel
theorem dX9_pay_44 : decode cX9_pay 44 = .ok (.getfield 138, 3) := by decide +kernel
theorem dX9_pay_47 : decode cX9_pay 47 = .ok (.invokevirtual 176, 3) := by decide +kernel
theorem dX9_pay_50 : decode cX9_pay 50 = .ok (.ifCond .eq 16, 3) := by decide +kernel
theorem dX9_pay_53 : decode cX9_pay 53 = .ok (.aload_n 0, 1) := by decide +kernel
theorem dX9_pay_54 : decode cX9_pay 54 = .ok (.getfield 19, 3) := by decide +kernel
theorem dX9_pay_57 : decode cX9_pay 57 = .ok (.getfield 179, 3) := by decide +kernel
theorem dX9_pay_60 : decode cX9_pay 60 = .ok (.iload_n 1, 1) := by decide +kernel
theorem dX9_pay_61 : decode cX9_pay 61 = .ok (.iaload, 1) := by decide +kernel
theorem dX9_pay_62 : decode cX9_pay 62 = .ok (.iload_n 2, 1) := by decide +kernel
theorem dX9_pay_63 : decode cX9_pay 63 = .ok (.if_icmp .ge 9, 3) := by decide +kernel
theorem dX9_pay_66 : decode cX9_pay 66 = .ok (.aload_n 0, 1) := by decide +kernel
theorem dX9_pay_67 : decode cX9_pay 67 = .ok (.iconst 5, 1) := by decide +kernel
theorem dX9_pay_68 : decode cX9_pay 68 = .ok (.invokevirtual 82, 3) := by decide +kernel
theorem dX9_pay_71 : decode cX9_pay 71 = .ok (.ireturn, 1) := by decide +kernel
theorem dX9_pay_72 : decode cX9_pay 72 = .ok (.aload_n 0, 1) := by decide +kernel
theorem dX9_pay_73 : decode cX9_pay 73 = .ok (.getfield 61, 3) := by decide +kernel
theorem dX9_pay_76 : decode cX9_pay 76 = .ok (.getfield 164, 3) := by decide +kernel
theorem dX9_pay_79 : decode cX9_pay 79 = .ok (.getfield 173, 3) := by decide +kernel
theorem dX9_pay_82 : decode cX9_pay 82 = .ok (.iload_n 1, 1) := by decide +kernel
theorem dX9_pay_83 : decode cX9_pay 83 = .ok (.iaload, 1) := by decide +kernel
theorem dX9_pay_84 : decode cX9_pay 84 = .ok (.istore_n 3, 1) := by decide +kernel
theorem dX9_pay_85 : decode cX9_pay 85 = .ok (.aload_n 0, 1) := by decide +kernel
theorem dX9_pay_86 : decode cX9_pay 86 = .ok (.getfield 19, 3) := by decide +kernel
theorem dX9_pay_89 : decode cX9_pay 89 = .ok (.getfield 294, 3) := by decide +kernel
theorem dX9_pay_92 : decode cX9_pay 92 = .ok (.iload_n 3, 1) := by decide +kernel
theorem dX9_pay_93 : decode cX9_pay 93 = .ok (.iaload, 1) := by decide +kernel
theorem dX9_pay_94 : decode cX9_pay 94 = .ok (.iload_n 2, 1) := by decide +kernel
theorem dX9_pay_95 : decode cX9_pay 95 = .ok (.if_icmp .ge 10, 3) := by decide +kernel
theorem dX9_pay_98 : decode cX9_pay 98 = .ok (.aload_n 0, 1) := by decide +kernel
theorem dX9_pay_99 : decode cX9_pay 99 = .ok (.bipush 6, 2) := by decide +kernel
theorem dX9_pay_101 : decode cX9_pay 101 = .ok (.invokevirtual 82, 3) := by decide +kernel
theorem dX9_pay_104 : decode cX9_pay 104 = .ok (.ireturn, 1) := by decide +kernel
theorem dX9_pay_105 : decode cX9_pay 105 = .ok (.aload_n 0, 1) := by decide +kernel
theorem dX9_pay_106 : decode cX9_pay 106 = .ok (.getfield 26, 3) := by decide +kernel
theorem dX9_pay_109 : decode cX9_pay 109 = .ok (.aload_n 0, 1) := by decide +kernel
theorem dX9_pay_110 : decode cX9_pay 110 = .ok (.getfield 19, 3) := by decide +kernel
theorem dX9_pay_113 : decode cX9_pay 113 = .ok (.invokevirtual 297, 3) := by decide +kernel
theorem dX9_pay_116 : decode cX9_pay 116 = .ok (.aload_n 0, 1) := by decide +kernel
theorem dX9_pay_117 : decode cX9_pay 117 = .ok (.getfield 19, 3) := by decide +kernel
theorem dX9_pay_120 : decode cX9_pay 120 = .ok (.getfield 294, 3) := by decide +kernel
theorem dX9_pay_123 : decode cX9_pay 123 = .ok (.iload_n 3, 1) := by decide +kernel
theorem dX9_pay_124 : decode cX9_pay 124 = .ok (.dup2, 1) := by decide +kernel
theorem dX9_pay_125 : decode cX9_pay 125 = .ok (.iaload, 1) := by decide +kernel
theorem dX9_pay_126 : decode cX9_pay 126 = .ok (.iload_n 2, 1) := by decide +kernel
theorem dX9_pay_127 : decode cX9_pay 127 = .ok (.isub, 1) := by decide +kernel
theorem dX9_pay_128 : decode cX9_pay 128 = .ok (.iastore, 1) := by decide +kernel
theorem dX9_pay_129 : decode cX9_pay 129 = .ok (.aload_n 0, 1) := by decide +kernel
theorem dX9_pay_130 : decode cX9_pay 130 = .ok (.getfield 19, 3) := by decide +kernel
theorem dX9_pay_133 : decode cX9_pay 133 = .ok (.getfield 294, 3) := by decide +kernel
theorem dX9_pay_136 : decode cX9_pay 136 = .ok (.aload_n 0, 1) := by decide +kernel
theorem dX9_pay_137 : decode cX9_pay 137 = .ok (.getfield 61, 3) := by decide +kernel
theorem dX9_pay_140 : decode cX9_pay 140 = .ok (.getfield 164, 3) := by decide +kernel
theorem dX9_pay_143 : decode cX9_pay 143 = .ok (.getfield 301, 3) := by decide +kernel
theorem dX9_pay_146 : decode cX9_pay 146 = .ok (.iload_n 1, 1) := by decide +kernel
theorem dX9_pay_147 : decode cX9_pay 147 = .ok (.iaload, 1) := by decide +kernel
theorem dX9_pay_148 : decode cX9_pay 148 = .ok (.dup2, 1) := by decide +kernel
theorem dX9_pay_149 : decode cX9_pay 149 = .ok (.iaload, 1) := by decide +kernel
theorem dX9_pay_150 : decode cX9_pay 150 = .ok (.iload_n 2, 1) := by decide +kernel
theorem dX9_pay_151 : decode cX9_pay 151 = .ok (.iadd, 1) := by decide +kernel
theorem dX9_pay_152 : decode cX9_pay 152 = .ok (.iastore, 1) := by decide +kernel
theorem dX9_pay_153 : decode cX9_pay 153 = .ok (.aload_n 0, 1) := by decide +kernel
theorem dX9_pay_154 : decode cX9_pay 154 = .ok (.getfield 19, 3) := by decide +kernel
theorem dX9_pay_157 : decode cX9_pay 157 = .ok (.getfield 179, 3) := by decide +kernel
theorem dX9_pay_160 : decode cX9_pay 160 = .ok (.iload_n 1, 1) := by decide +kernel
theorem dX9_pay_161 : decode cX9_pay 161 = .ok (.dup2, 1) := by decide +kernel
theorem dX9_pay_162 : decode cX9_pay 162 = .ok (.iaload, 1) := by decide +kernel
theorem dX9_pay_163 : decode cX9_pay 163 = .ok (.iload_n 2, 1) := by decide +kernel
theorem dX9_pay_164 : decode cX9_pay 164 = .ok (.isub, 1) := by decide +kernel
theorem dX9_pay_165 : decode cX9_pay 165 = .ok (.iastore, 1) := by decide +kernel
theorem dX9_pay_166 : decode cX9_pay 166 = .ok (.aload_n 0, 1) := by decide +kernel
theorem dX9_pay_167 : decode cX9_pay 167 = .ok (.aload_n 0, 1) := by decide +kernel
theorem dX9_pay_168 : decode cX9_pay 168 = .ok (.getfield 19, 3) := by decide +kernel
theorem dX9_pay_171 : decode cX9_pay 171 = .ok (.getfield 179, 3) := by decide +kernel
theorem dX9_pay_174 : decode cX9_pay 174 = .ok (.iload_n 1, 1) := by decide +kernel
theorem dX9_pay_175 : decode cX9_pay 175 = .ok (.iaload, 1) := by decide +kernel
theorem dX9_pay_176 : decode cX9_pay 176 = .ok (.invokevirtual 100, 3) := by decide +kernel
theorem dX9_pay_179 : decode cX9_pay 179 = .ok (.ireturn, 1) := by decide +kernel
theorem dX9_letOff_0 : decode cX9_letOff 0 = .ok (.aload_n 0, 1) := by decide +kernel
theorem dX9_letOff_1 : decode cX9_letOff 1 = .ok (.iload_n 1, 1) := by decide +kernel
theorem dX9_letOff_2 : decode cX9_letOff 2 = .ok (.invokevirtual 106, 3) := by decide +kernel
theorem dX9_letOff_5 : decode cX9_letOff 5 = .ok (.ifCond .ne 9, 3) := by decide +kernel
theorem dX9_letOff_8 : decode cX9_letOff 8 = .ok (.aload_n 0, 1) := by decide +kernel
theorem dX9_letOff_9 : decode cX9_letOff 9 = .ok (.iconst 1, 1) := by decide +kernel
theorem dX9_letOff_10 : decode cX9_letOff 10 = .ok (.invokevirtual 82, 3) := by decide +kernel
theorem dX9_letOff_13 : decode cX9_letOff 13 = .ok (.ireturn, 1) := by decide +kernel
theorem dX9_letOff_14 : decode cX9_letOff 14 = .ok (.aload_n 0, 1) := by decide +kernel
theorem dX9_letOff_15 : decode cX9_letOff 15 = .ok (.getfield 40, 3) := by decide +kernel
theorem dX9_letOff_18 : decode cX9_letOff 18 = .ok (.aload_n 0, 1) := by decide +kernel
theorem dX9_letOff_19 : decode cX9_letOff 19 = .ok (.getfield 61, 3) := by decide +kernel
theorem dX9_letOff_22 : decode cX9_letOff 22 = .ok (.aload_n 0, 1) := by decide +kernel
theorem dX9_letOff_23 : decode cX9_letOff 23 = .ok (.getfield 19, 3) := by decide +kernel
theorem dX9_letOff_26 : decode cX9_letOff 26 = .ok (.iload_n 1, 1) := by decide +kernel
theorem dX9_letOff_27 : decode cX9_letOff 27 = .ok (.invokevirtual 195, 3) := by decide +kernel
theorem dX9_letOff_30 : decode cX9_letOff 30 = .ok (.ifCond .ne 10, 3) := by decide +kernel
theorem dX9_letOff_33 : decode cX9_letOff 33 = .ok (.aload_n 0, 1) := by decide +kernel
theorem dX9_letOff_34 : decode cX9_letOff 34 = .ok (.bipush 6, 2) := by decide +kernel
theorem dX9_letOff_36 : decode cX9_letOff 36 = .ok (.invokevirtual 82, 3) := by decide +kernel
theorem dX9_letOff_39 : decode cX9_letOff 39 = .ok (.ireturn, 1) := by decide +kernel
theorem dX9_letOff_40 : decode cX9_letOff 40 = .ok (.aload_n 0, 1) := by decide +kernel
theorem dX9_letOff_41 : decode cX9_letOff 41 = .ok (.getfield 26, 3) := by decide +kernel
theorem dX9_letOff_44 : decode cX9_letOff 44 = .ok (.aload_n 0, 1) := by decide +kernel
theorem dX9_letOff_45 : decode cX9_letOff 45 = .ok (.getfield 19, 3) := by decide +kernel
theorem dX9_letOff_48 : decode cX9_letOff 48 = .ok (.invokevirtual 297, 3) := by decide +kernel
theorem dX9_letOff_51 : decode cX9_letOff 51 = .ok (.aload_n 0, 1) := by decide +kernel
theorem dX9_letOff_52 : decode cX9_letOff 52 = .ok (.getfield 40, 3) := by decide +kernel
theorem dX9_letOff_55 : decode cX9_letOff 55 = .ok (.aload_n 0, 1) := by decide +kernel
theorem dX9_letOff_56 : decode cX9_letOff 56 = .ok (.getfield 61, 3) := by decide +kernel
theorem dX9_letOff_59 : decode cX9_letOff 59 = .ok (.aload_n 0, 1) := by decide +kernel
theorem dX9_letOff_60 : decode cX9_letOff 60 = .ok (.getfield 19, 3) := by decide +kernel
theorem dX9_letOff_63 : decode cX9_letOff 63 = .ok (.invokevirtual 205, 3) := by decide +kernel
theorem dX9_letOff_66 : decode cX9_letOff 66 = .ok (.istore_n 2, 1) := by decide +kernel
theorem dX9_letOff_67 : decode cX9_letOff 67 = .ok (.aload_n 0, 1) := by decide +kernel
theorem dX9_letOff_68 : decode cX9_letOff 68 = .ok (.getfield 40, 3) := by decide +kernel
theorem dX9_letOff_71 : decode cX9_letOff 71 = .ok (.aload_n 0, 1) := by decide +kernel
theorem dX9_letOff_72 : decode cX9_letOff 72 = .ok (.getfield 61, 3) := by decide +kernel
theorem dX9_letOff_75 : decode cX9_letOff 75 = .ok (.aload_n 0, 1) := by decide +kernel
theorem dX9_letOff_76 : decode cX9_letOff 76 = .ok (.getfield 19, 3) := by decide +kernel
theorem dX9_letOff_79 : decode cX9_letOff 79 = .ok (.iload_n 2, 1) := by decide +kernel
theorem dX9_letOff_80 : decode cX9_letOff 80 = .ok (.invokevirtual 304, 3) := by decide +kernel
theorem dX9_letOff_83 : decode cX9_letOff 83 = .ok (.aload_n 0, 1) := by decide +kernel
theorem dX9_letOff_84 : decode cX9_letOff 84 = .ok (.iload_n 2, 1) := by decide +kernel
theorem dX9_letOff_85 : decode cX9_letOff 85 = .ok (.invokevirtual 100, 3) := by decide +kernel
theorem dX9_letOff_88 : decode cX9_letOff 88 = .ok (.ireturn, 1) := by decide +kernel
theorem dX9_shed_0 : decode cX9_shed 0 = .ok (.aload_n 0, 1) := by decide +kernel
theorem dX9_shed_1 : decode cX9_shed 1 = .ok (.iload_n 1, 1) := by decide +kernel
theorem dX9_shed_2 : decode cX9_shed 2 = .ok (.invokevirtual 106, 3) := by decide +kernel
theorem dX9_shed_5 : decode cX9_shed 5 = .ok (.ifCond .ne 9, 3) := by decide +kernel
theorem dX9_shed_8 : decode cX9_shed 8 = .ok (.aload_n 0, 1) := by decide +kernel
theorem dX9_shed_9 : decode cX9_shed 9 = .ok (.iconst 1, 1) := by decide +kernel
theorem dX9_shed_10 : decode cX9_shed 10 = .ok (.invokevirtual 82, 3) := by decide +kernel
theorem dX9_shed_13 : decode cX9_shed 13 = .ok (.ireturn, 1) := by decide +kernel
theorem dX9_shed_14 : decode cX9_shed 14 = .ok (.aload_n 0, 1) := by decide +kernel
theorem dX9_shed_15 : decode cX9_shed 15 = .ok (.getfield 61, 3) := by decide +kernel
theorem dX9_shed_18 : decode cX9_shed 18 = .ok (.aload_n 0, 1) := by decide +kernel
theorem dX9_shed_19 : decode cX9_shed 19 = .ok (.getfield 19, 3) := by decide +kernel
theorem dX9_shed_22 : decode cX9_shed 22 = .ok (.iload_n 1, 1) := by decide +kernel
theorem dX9_shed_23 : decode cX9_shed 23 = .ok (.invokevirtual 308, 3) := by decide +kernel
theorem dX9_shed_26 : decode cX9_shed 26 = .ok (.istore_n 2, 1) := by decide +kernel
theorem dX9_shed_27 : decode cX9_shed 27 = .ok (.iload_n 2, 1) := by decide +kernel
theorem dX9_shed_28 : decode cX9_shed 28 = .ok (.ifCond .ne 9, 3) := by decide +kernel
theorem dX9_shed_31 : decode cX9_shed 31 = .ok (.aload_n 0, 1) := by decide +kernel
theorem dX9_shed_32 : decode cX9_shed 32 = .ok (.iconst 5, 1) := by decide +kernel
theorem dX9_shed_33 : decode cX9_shed 33 = .ok (.invokevirtual 82, 3) := by decide +kernel
theorem dX9_shed_36 : decode cX9_shed 36 = .ok (.ireturn, 1) := by decide +kernel
theorem dX9_shed_37 : decode cX9_shed 37 = .ok (.aload_n 0, 1) := by decide +kernel
theorem dX9_shed_38 : decode cX9_shed 38 = .ok (.getfield 26, 3) := by decide +kernel
theorem dX9_shed_41 : decode cX9_shed 41 = .ok (.aload_n 0, 1) := by decide +kernel
theorem dX9_shed_42 : decode cX9_shed 42 = .ok (.getfield 19, 3) := by decide +kernel
theorem dX9_shed_45 : decode cX9_shed 45 = .ok (.invokevirtual 297, 3) := by decide +kernel
theorem dX9_shed_48 : decode cX9_shed 48 = .ok (.iconst 0, 1) := by decide +kernel
theorem dX9_shed_49 : decode cX9_shed 49 = .ok (.istore_n 3, 1) := by decide +kernel
theorem dX9_shed_50 : decode cX9_shed 50 = .ok (.iload_n 3, 1) := by decide +kernel
theorem dX9_shed_51 : decode cX9_shed 51 = .ok (.aload_n 0, 1) := by decide +kernel
theorem dX9_shed_52 : decode cX9_shed 52 = .ok (.getfield 61, 3) := by decide +kernel
theorem dX9_shed_55 : decode cX9_shed 55 = .ok (.getfield 164, 3) := by decide +kernel
theorem dX9_shed_58 : decode cX9_shed 58 = .ok (.getfield 168, 3) := by decide +kernel
theorem dX9_shed_61 : decode cX9_shed 61 = .ok (.if_icmp .ge 57, 3) := by decide +kernel
theorem dX9_shed_64 : decode cX9_shed 64 = .ok (.aload_n 0, 1) := by decide +kernel
theorem dX9_shed_65 : decode cX9_shed 65 = .ok (.getfield 61, 3) := by decide +kernel
theorem dX9_shed_68 : decode cX9_shed 68 = .ok (.getfield 164, 3) := by decide +kernel
theorem dX9_shed_71 : decode cX9_shed 71 = .ok (.getfield 173, 3) := by decide +kernel
theorem dX9_shed_74 : decode cX9_shed 74 = .ok (.iload_n 3, 1) := by decide +kernel
theorem dX9_shed_75 : decode cX9_shed 75 = .ok (.iaload, 1) := by decide +kernel
theorem dX9_shed_76 : decode cX9_shed 76 = .ok (.iload_n 1, 1) := by decide +kernel
theorem dX9_shed_77 : decode cX9_shed 77 = .ok (.if_icmp .ne 35, 3) := by decide +kernel
theorem dX9_shed_80 : decode cX9_shed 80 = .ok (.aload_n 0, 1) := by decide +kernel
theorem dX9_shed_81 : decode cX9_shed 81 = .ok (.getfield 61, 3) := by decide +kernel
theorem dX9_shed_84 : decode cX9_shed 84 = .ok (.aload_n 0, 1) := by decide +kernel
theorem dX9_shed_85 : decode cX9_shed 85 = .ok (.getfield 19, 3) := by decide +kernel
theorem dX9_shed_88 : decode cX9_shed 88 = .ok (.iload_n 3, 1) := by decide +kernel
theorem dX9_shed_89 : decode cX9_shed 89 = .ok (.aload_n 0, 1) := by decide +kernel
theorem dX9_shed_90 : decode cX9_shed 90 = .ok (.getfield 19, 3) := by decide +kernel
theorem dX9_shed_93 : decode cX9_shed 93 = .ok (.getfield 138, 3) := by decide +kernel
theorem dX9_shed_96 : decode cX9_shed 96 = .ok (.invokevirtual 176, 3) := by decide +kernel
theorem dX9_shed_99 : decode cX9_shed 99 = .ok (.ifCond .eq 13, 3) := by decide +kernel
theorem dX9_shed_102 : decode cX9_shed 102 = .ok (.aload_n 0, 1) := by decide +kernel
theorem dX9_shed_103 : decode cX9_shed 103 = .ok (.getfield 19, 3) := by decide +kernel
theorem dX9_shed_106 : decode cX9_shed 106 = .ok (.getfield 179, 3) := by decide +kernel
theorem dX9_shed_109 : decode cX9_shed 109 = .ok (.iload_n 3, 1) := by decide +kernel
theorem dX9_shed_110 : decode cX9_shed 110 = .ok (.iconst 0, 1) := by decide +kernel
theorem dX9_shed_111 : decode cX9_shed 111 = .ok (.iastore, 1) := by decide +kernel
theorem dX9_shed_112 : decode cX9_shed 112 = .ok (.iinc 3 1, 3) := by decide +kernel
theorem dX9_shed_115 : decode cX9_shed 115 = .ok (.goto (-65), 3) := by decide +kernel
theorem dX9_shed_118 : decode cX9_shed 118 = .ok (.aload_n 0, 1) := by decide +kernel
theorem dX9_shed_119 : decode cX9_shed 119 = .ok (.iload_n 2, 1) := by decide +kernel
theorem dX9_shed_120 : decode cX9_shed 120 = .ok (.invokevirtual 100, 3) := by decide +kernel
theorem dX9_shed_123 : decode cX9_shed 123 = .ok (.ireturn, 1) := by decide +kernel
theorem dX9_spring_0 : decode cX9_spring 0 = .ok (.aload_n 0, 1) := by decide +kernel
theorem dX9_spring_1 : decode cX9_spring 1 = .ok (.invokevirtual 134, 3) := by decide +kernel
theorem dX9_spring_4 : decode cX9_spring 4 = .ok (.ifCond .eq 9, 3) := by decide +kernel
theorem dX9_spring_7 : decode cX9_spring 7 = .ok (.aload_n 0, 1) := by decide +kernel
theorem dX9_spring_8 : decode cX9_spring 8 = .ok (.iconst 1, 1) := by decide +kernel
theorem dX9_spring_9 : decode cX9_spring 9 = .ok (.invokevirtual 82, 3) := by decide +kernel
theorem dX9_spring_12 : decode cX9_spring 12 = .ok (.ireturn, 1) := by decide +kernel
theorem dX9_spring_13 : decode cX9_spring 13 = .ok (.aload_n 0, 1) := by decide +kernel
theorem dX9_spring_14 : decode cX9_spring 14 = .ok (.getfield 19, 3) := by decide +kernel
theorem dX9_spring_17 : decode cX9_spring 17 = .ok (.getfield 138, 3) := by decide +kernel
theorem dX9_spring_20 : decode cX9_spring 20 = .ok (.sipush 999, 3) := by decide +kernel
theorem dX9_spring_23 : decode cX9_spring 23 = .ok (.if_icmp .lt 9, 3) := by decide +kernel
theorem dX9_spring_26 : decode cX9_spring 26 = .ok (.aload_n 0, 1) := by decide +kernel
theorem dX9_spring_27 : decode cX9_spring 27 = .ok (.iconst 3, 1) := by decide +kernel
theorem dX9_spring_28 : decode cX9_spring 28 = .ok (.invokevirtual 82, 3) := by decide +kernel
theorem dX9_spring_31 : decode cX9_spring 31 = .ok (.ireturn, 1) := by decide +kernel
theorem dX9_spring_32 : decode cX9_spring 32 = .ok (.aload_n 0, 1) := by decide +kernel
theorem dX9_spring_33 : decode cX9_spring 33 = .ok (.getfield 26, 3) := by decide +kernel
theorem dX9_spring_36 : decode cX9_spring 36 = .ok (.aload_n 0, 1) := by decide +kernel
theorem dX9_spring_37 : decode cX9_spring 37 = .ok (.getfield 19, 3) := by decide +kernel
theorem dX9_spring_40 : decode cX9_spring 40 = .ok (.invokevirtual 297, 3) := by decide +kernel
theorem dX9_spring_43 : decode cX9_spring 43 = .ok (.aload_n 0, 1) := by decide +kernel
theorem dX9_spring_44 : decode cX9_spring 44 = .ok (.getfield 19, 3) := by decide +kernel
theorem dX9_spring_47 : decode cX9_spring 47 = .ok (.dup, 1) := by decide +kernel
theorem dX9_spring_48 : decode cX9_spring 48 = .ok (.getfield 138, 3) := by decide +kernel
theorem dX9_spring_51 : decode cX9_spring 51 = .ok (.iconst 1, 1) := by decide +kernel
theorem dX9_spring_52 : decode cX9_spring 52 = .ok (.iadd, 1) := by decide +kernel
theorem dX9_spring_53 : decode cX9_spring 53 = .ok (.putfield 138, 3) := by decide +kernel
theorem dX9_spring_56 : decode cX9_spring 56 = .ok (.aload_n 0, 1) := by decide +kernel
theorem dX9_spring_57 : decode cX9_spring 57 = .ok (.aload_n 0, 1) := by decide +kernel
theorem dX9_spring_58 : decode cX9_spring 58 = .ok (.getfield 61, 3) := by decide +kernel
theorem dX9_spring_61 : decode cX9_spring 61 = .ok (.aload_n 0, 1) := by decide +kernel
theorem dX9_spring_62 : decode cX9_spring 62 = .ok (.getfield 19, 3) := by decide +kernel
theorem dX9_spring_65 : decode cX9_spring 65 = .ok (.aload_n 0, 1) := by decide +kernel
theorem dX9_spring_66 : decode cX9_spring 66 = .ok (.getfield 19, 3) := by decide +kernel
theorem dX9_spring_69 : decode cX9_spring 69 = .ok (.getfield 138, 3) := by decide +kernel
theorem dX9_spring_72 : decode cX9_spring 72 = .ok (.invokevirtual 141, 3) := by decide +kernel
theorem dX9_spring_75 : decode cX9_spring 75 = .ok (.invokevirtual 100, 3) := by decide +kernel
theorem dX9_spring_78 : decode cX9_spring 78 = .ok (.ireturn, 1) := by decide +kernel
theorem dX9_undo_0 : decode cX9_undo 0 = .ok (.aload_n 0, 1) := by decide +kernel
theorem dX9_undo_1 : decode cX9_undo 1 = .ok (.getfield 26, 3) := by decide +kernel
theorem dX9_undo_4 : decode cX9_undo 4 = .ok (.aload_n 0, 1) := by decide +kernel
theorem dX9_undo_5 : decode cX9_undo 5 = .ok (.getfield 19, 3) := by decide +kernel
theorem dX9_undo_8 : decode cX9_undo 8 = .ok (.invokevirtual 311, 3) := by decide +kernel
theorem dX9_undo_11 : decode cX9_undo 11 = .ok (.istore_n 1, 1) := by decide +kernel
theorem dX9_undo_12 : decode cX9_undo 12 = .ok (.aload_n 0, 1) := by decide +kernel
theorem dX9_undo_13 : decode cX9_undo 13 = .ok (.iload_n 1, 1) := by decide +kernel
theorem dX9_undo_14 : decode cX9_undo 14 = .ok (.ifCond .eq 7, 3) := by decide +kernel
theorem dX9_undo_17 : decode cX9_undo 17 = .ok (.iconst 0, 1) := by decide +kernel
theorem dX9_undo_18 : decode cX9_undo 18 = .ok (.goto 5, 3) := by decide +kernel
theorem dX9_undo_21 : decode cX9_undo 21 = .ok (.bipush 6, 2) := by decide +kernel
theorem dX9_undo_23 : decode cX9_undo 23 = .ok (.putfield 72, 3) := by decide +kernel
theorem dX9_undo_26 : decode cX9_undo 26 = .ok (.iload_n 1, 1) := by decide +kernel
theorem dX9_undo_27 : decode cX9_undo 27 = .ok (.ireturn, 1) := by decide +kernel
theorem dX9_image_0 : decode cX9_image 0 = .ok (.aload_n 0, 1) := by decide +kernel
theorem dX9_image_1 : decode cX9_image 1 = .ok (.invokevirtual 134, 3) := by decide +kernel
theorem dX9_image_4 : decode cX9_image 4 = .ok (.ifCond .eq 9, 3) := by decide +kernel
theorem dX9_image_7 : decode cX9_image 7 = .ok (.aload_n 0, 1) := by decide +kernel
theorem dX9_image_8 : decode cX9_image 8 = .ok (.iconst 1, 1) := by decide +kernel
theorem dX9_image_9 : decode cX9_image 9 = .ok (.invokevirtual 82, 3) := by decide +kernel
theorem dX9_image_12 : decode cX9_image 12 = .ok (.ireturn, 1) := by decide +kernel
theorem dX9_image_13 : decode cX9_image 13 = .ok (.aload_n 0, 1) := by decide +kernel
theorem dX9_image_14 : decode cX9_image 14 = .ok (.getfield 26, 3) := by decide +kernel
theorem dX9_image_17 : decode cX9_image 17 = .ok (.aload_n 0, 1) := by decide +kernel
theorem dX9_image_18 : decode cX9_image 18 = .ok (.getfield 19, 3) := by decide +kernel
theorem dX9_image_21 : decode cX9_image 21 = .ok (.invokevirtual 315, 3) := by decide +kernel
theorem dX9_image_24 : decode cX9_image 24 = .ok (.istore_n 1, 1) := by decide +kernel
theorem dX9_image_25 : decode cX9_image 25 = .ok (.iload_n 1, 1) := by decide +kernel
theorem dX9_image_26 : decode cX9_image 26 = .ok (.iconst (-1), 1) := by decide +kernel
theorem dX9_image_27 : decode cX9_image 27 = .ok (.if_icmp .ne 11, 3) := by decide +kernel
theorem dX9_image_30 : decode cX9_image 30 = .ok (.aload_n 0, 1) := by decide +kernel
theorem dX9_image_31 : decode cX9_image 31 = .ok (.iconst 3, 1) := by decide +kernel
theorem dX9_image_32 : decode cX9_image 32 = .ok (.invokevirtual 82, 3) := by decide +kernel
theorem dX9_image_35 : decode cX9_image 35 = .ok (.goto 8, 3) := by decide +kernel
theorem dX9_image_38 : decode cX9_image 38 = .ok (.aload_n 0, 1) := by decide +kernel
theorem dX9_image_39 : decode cX9_image 39 = .ok (.iload_n 1, 1) := by decide +kernel
theorem dX9_image_40 : decode cX9_image 40 = .ok (.invokevirtual 100, 3) := by decide +kernel
theorem dX9_image_43 : decode cX9_image 43 = .ok (.ireturn, 1) := by decide +kernel
theorem dX9_back_0 : decode cX9_back 0 = .ok (.aload_n 0, 1) := by decide +kernel
theorem dX9_back_1 : decode cX9_back 1 = .ok (.getfield 26, 3) := by decide +kernel
theorem dX9_back_4 : decode cX9_back 4 = .ok (.iload_n 1, 1) := by decide +kernel
theorem dX9_back_5 : decode cX9_back 5 = .ok (.aload_n 0, 1) := by decide +kernel
theorem dX9_back_6 : decode cX9_back 6 = .ok (.getfield 19, 3) := by decide +kernel
theorem dX9_back_9 : decode cX9_back 9 = .ok (.invokevirtual 319, 3) := by decide +kernel
theorem dX9_back_12 : decode cX9_back 12 = .ok (.istore_n 2, 1) := by decide +kernel
theorem dX9_back_13 : decode cX9_back 13 = .ok (.aload_n 0, 1) := by decide +kernel
theorem dX9_back_14 : decode cX9_back 14 = .ok (.iload_n 2, 1) := by decide +kernel
theorem dX9_back_15 : decode cX9_back 15 = .ok (.ifCond .eq 7, 3) := by decide +kernel
theorem dX9_back_18 : decode cX9_back 18 = .ok (.iconst 0, 1) := by decide +kernel
theorem dX9_back_19 : decode cX9_back 19 = .ok (.goto 4, 3) := by decide +kernel
theorem dX9_back_22 : decode cX9_back 22 = .ok (.iconst 1, 1) := by decide +kernel
theorem dX9_back_23 : decode cX9_back 23 = .ok (.putfield 72, 3) := by decide +kernel
theorem dX9_back_26 : decode cX9_back 26 = .ok (.iload_n 2, 1) := by decide +kernel
theorem dX9_back_27 : decode cX9_back 27 = .ok (.ireturn, 1) := by decide +kernel
theorem dX9_led_0 : decode cX9_led 0 = .ok (.iconst 0, 1) := by decide +kernel
theorem dX9_led_1 : decode cX9_led 1 = .ok (.istore_n 2, 1) := by decide +kernel
theorem dX9_led_2 : decode cX9_led 2 = .ok (.iconst 0, 1) := by decide +kernel
theorem dX9_led_3 : decode cX9_led 3 = .ok (.istore_n 3, 1) := by decide +kernel
theorem dX9_led_4 : decode cX9_led 4 = .ok (.iload_n 3, 1) := by decide +kernel
theorem dX9_led_5 : decode cX9_led 5 = .ok (.aload_n 0, 1) := by decide +kernel
theorem dX9_led_6 : decode cX9_led 6 = .ok (.getfield 61, 3) := by decide +kernel
theorem dX9_led_9 : decode cX9_led 9 = .ok (.getfield 97, 3) := by decide +kernel
theorem dX9_led_12 : decode cX9_led 12 = .ok (.if_icmp .ge 36, 3) := by decide +kernel
theorem dX9_led_15 : decode cX9_led 15 = .ok (.aload_n 0, 1) := by decide +kernel
theorem dX9_led_16 : decode cX9_led 16 = .ok (.iload_n 3, 1) := by decide +kernel
theorem dX9_led_17 : decode cX9_led 17 = .ok (.invokevirtual 144, 3) := by decide +kernel
theorem dX9_led_20 : decode cX9_led 20 = .ok (.aload_n 0, 1) := by decide +kernel
theorem dX9_led_21 : decode cX9_led 21 = .ok (.getfield 61, 3) := by decide +kernel
theorem dX9_led_24 : decode cX9_led 24 = .ok (.getfield 323, 3) := by decide +kernel
theorem dX9_led_27 : decode cX9_led 27 = .ok (.iload_n 3, 1) := by decide +kernel
theorem dX9_led_28 : decode cX9_led 28 = .ok (.iaload, 1) := by decide +kernel
theorem dX9_led_29 : decode cX9_led 29 = .ok (.if_icmp .le 13, 3) := by decide +kernel
theorem dX9_led_32 : decode cX9_led 32 = .ok (.iload_n 2, 1) := by decide +kernel
theorem dX9_led_33 : decode cX9_led 33 = .ok (.iload_n 1, 1) := by decide +kernel
theorem dX9_led_34 : decode cX9_led 34 = .ok (.if_icmp .ne 5, 3) := by decide +kernel
theorem dX9_led_37 : decode cX9_led 37 = .ok (.iload_n 3, 1) := by decide +kernel
theorem dX9_led_38 : decode cX9_led 38 = .ok (.ireturn, 1) := by decide +kernel
theorem dX9_led_39 : decode cX9_led 39 = .ok (.iinc 2 1, 3) := by decide +kernel
theorem dX9_led_42 : decode cX9_led 42 = .ok (.iinc 3 1, 3) := by decide +kernel
theorem dX9_led_45 : decode cX9_led 45 = .ok (.goto (-41), 3) := by decide +kernel
theorem dX9_led_48 : decode cX9_led 48 = .ok (.new 326, 3) := by decide +kernel
theorem dX9_led_51 : decode cX9_led 51 = .ok (.dup, 1) := by decide +kernel
theorem dX9_led_52 : decode cX9_led 52 = .ok (.ldc_w 328, 3) := by decide +kernel
theorem dX9_led_55 : decode cX9_led 55 = .ok (.invokespecial 330, 3) := by decide +kernel
theorem dX9_led_58 : decode cX9_led 58 = .ok (.athrow, 1) := by decide +kernel
theorem dX9_size_0 : decode cX9_size 0 = .ok (.iload_n 1, 1) := by decide +kernel
theorem dX9_size_1 : decode cX9_size 1 = .ok (.tableswitch 189 0 13 #[71, 79, 87, 95, 103, 111, 122, 133, 141, 149, 157, 165, 173, 181], 71) := by decide +kernel
theorem dX9_size_72 : decode cX9_size 72 = .ok (.aload_n 0, 1) := by decide +kernel
theorem dX9_size_73 : decode cX9_size 73 = .ok (.getfield 61, 3) := by decide +kernel
theorem dX9_size_76 : decode cX9_size 76 = .ok (.getfield 333, 3) := by decide +kernel
theorem dX9_size_79 : decode cX9_size 79 = .ok (.ireturn, 1) := by decide +kernel
theorem dX9_size_80 : decode cX9_size 80 = .ok (.aload_n 0, 1) := by decide +kernel
theorem dX9_size_81 : decode cX9_size 81 = .ok (.getfield 61, 3) := by decide +kernel
theorem dX9_size_84 : decode cX9_size 84 = .ok (.getfield 336, 3) := by decide +kernel
theorem dX9_size_87 : decode cX9_size 87 = .ok (.ireturn, 1) := by decide +kernel
theorem dX9_size_88 : decode cX9_size 88 = .ok (.aload_n 0, 1) := by decide +kernel
theorem dX9_size_89 : decode cX9_size 89 = .ok (.getfield 61, 3) := by decide +kernel
theorem dX9_size_92 : decode cX9_size 92 = .ok (.getfield 275, 3) := by decide +kernel
theorem dX9_size_95 : decode cX9_size 95 = .ok (.ireturn, 1) := by decide +kernel
theorem dX9_size_96 : decode cX9_size 96 = .ok (.aload_n 0, 1) := by decide +kernel
theorem dX9_size_97 : decode cX9_size 97 = .ok (.getfield 61, 3) := by decide +kernel
theorem dX9_size_100 : decode cX9_size 100 = .ok (.getfield 339, 3) := by decide +kernel
theorem dX9_size_103 : decode cX9_size 103 = .ok (.ireturn, 1) := by decide +kernel
theorem dX9_size_104 : decode cX9_size 104 = .ok (.aload_n 0, 1) := by decide +kernel
theorem dX9_size_105 : decode cX9_size 105 = .ok (.getfield 61, 3) := by decide +kernel
theorem dX9_size_108 : decode cX9_size 108 = .ok (.getfield 97, 3) := by decide +kernel
theorem dX9_size_111 : decode cX9_size 111 = .ok (.ireturn, 1) := by decide +kernel
theorem dX9_size_112 : decode cX9_size 112 = .ok (.aload_n 0, 1) := by decide +kernel
theorem dX9_size_113 : decode cX9_size 113 = .ok (.getfield 61, 3) := by decide +kernel
theorem dX9_size_116 : decode cX9_size 116 = .ok (.getfield 164, 3) := by decide +kernel
theorem dX9_size_119 : decode cX9_size 119 = .ok (.getfield 168, 3) := by decide +kernel
theorem dX9_size_122 : decode cX9_size 122 = .ok (.ireturn, 1) := by decide +kernel
theorem dX9_size_123 : decode cX9_size 123 = .ok (.aload_n 0, 1) := by decide +kernel
theorem dX9_size_124 : decode cX9_size 124 = .ok (.getfield 61, 3) := by decide +kernel
theorem dX9_size_127 : decode cX9_size 127 = .ok (.getfield 221, 3) := by decide +kernel
theorem dX9_size_130 : decode cX9_size 130 = .ok (.getfield 168, 3) := by decide +kernel
theorem dX9_size_133 : decode cX9_size 133 = .ok (.ireturn, 1) := by decide +kernel
theorem dX9_size_134 : decode cX9_size 134 = .ok (.aload_n 0, 1) := by decide +kernel
theorem dX9_size_135 : decode cX9_size 135 = .ok (.getfield 61, 3) := by decide +kernel
theorem dX9_size_138 : decode cX9_size 138 = .ok (.getfield 342, 3) := by decide +kernel
theorem dX9_size_141 : decode cX9_size 141 = .ok (.ireturn, 1) := by decide +kernel
theorem dX9_size_142 : decode cX9_size 142 = .ok (.aload_n 0, 1) := by decide +kernel
theorem dX9_size_143 : decode cX9_size 143 = .ok (.getfield 61, 3) := by decide +kernel
theorem dX9_size_146 : decode cX9_size 146 = .ok (.invokevirtual 345, 3) := by decide +kernel
theorem dX9_size_149 : decode cX9_size 149 = .ok (.ireturn, 1) := by decide +kernel
theorem dX9_size_150 : decode cX9_size 150 = .ok (.aload_n 0, 1) := by decide +kernel
theorem dX9_size_151 : decode cX9_size 151 = .ok (.getfield 61, 3) := by decide +kernel
theorem dX9_size_154 : decode cX9_size 154 = .ok (.getfield 251, 3) := by decide +kernel
theorem dX9_size_157 : decode cX9_size 157 = .ok (.ireturn, 1) := by decide +kernel
theorem dX9_size_158 : decode cX9_size 158 = .ok (.aload_n 0, 1) := by decide +kernel
theorem dX9_size_159 : decode cX9_size 159 = .ok (.getfield 19, 3) := by decide +kernel
theorem dX9_size_162 : decode cX9_size 162 = .ok (.getfield 138, 3) := by decide +kernel
theorem dX9_size_165 : decode cX9_size 165 = .ok (.ireturn, 1) := by decide +kernel
theorem dX9_size_166 : decode cX9_size 166 = .ok (.aload_n 0, 1) := by decide +kernel
theorem dX9_size_167 : decode cX9_size 167 = .ok (.getfield 26, 3) := by decide +kernel
theorem dX9_size_170 : decode cX9_size 170 = .ok (.getfield 348, 3) := by decide +kernel
theorem dX9_size_173 : decode cX9_size 173 = .ok (.ireturn, 1) := by decide +kernel
theorem dX9_size_174 : decode cX9_size 174 = .ok (.aload_n 0, 1) := by decide +kernel
theorem dX9_size_175 : decode cX9_size 175 = .ok (.getfield 26, 3) := by decide +kernel
theorem dX9_size_178 : decode cX9_size 178 = .ok (.getfield 351, 3) := by decide +kernel
theorem dX9_size_181 : decode cX9_size 181 = .ok (.ireturn, 1) := by decide +kernel
theorem dX9_size_182 : decode cX9_size 182 = .ok (.aload_n 0, 1) := by decide +kernel
theorem dX9_size_183 : decode cX9_size 183 = .ok (.getfield 10, 3) := by decide +kernel
theorem dX9_size_186 : decode cX9_size 186 = .ok (.getfield 75, 3) := by decide +kernel
theorem dX9_size_189 : decode cX9_size 189 = .ok (.ireturn, 1) := by decide +kernel
theorem dX9_size_190 : decode cX9_size 190 = .ok (.iconst (-1), 1) := by decide +kernel
theorem dX9_size_191 : decode cX9_size 191 = .ok (.ireturn, 1) := by decide +kernel
theorem dX9_trouble_0 : decode cX9_trouble 0 = .ok (.aload_n 0, 1) := by decide +kernel
theorem dX9_trouble_1 : decode cX9_trouble 1 = .ok (.getfield 72, 3) := by decide +kernel
theorem dX9_trouble_4 : decode cX9_trouble 4 = .ok (.ireturn, 1) := by decide +kernel
theorem dX9_refuse_0 : decode cX9_refuse 0 = .ok (.aload_n 0, 1) := by decide +kernel
theorem dX9_refuse_1 : decode cX9_refuse 1 = .ok (.iload_n 1, 1) := by decide +kernel
theorem dX9_refuse_2 : decode cX9_refuse 2 = .ok (.putfield 72, 3) := by decide +kernel
theorem dX9_refuse_5 : decode cX9_refuse 5 = .ok (.iconst (-1), 1) := by decide +kernel
theorem dX9_refuse_6 : decode cX9_refuse 6 = .ok (.ireturn, 1) := by decide +kernel
theorem dX9_grant_0 : decode cX9_grant 0 = .ok (.aload_n 0, 1) := by decide +kernel
theorem dX9_grant_1 : decode cX9_grant 1 = .ok (.iconst 0, 1) := by decide +kernel
theorem dX9_grant_2 : decode cX9_grant 2 = .ok (.putfield 72, 3) := by decide +kernel
theorem dX9_grant_5 : decode cX9_grant 5 = .ok (.iload_n 1, 1) := by decide +kernel
theorem dX9_grant_6 : decode cX9_grant 6 = .ok (.ireturn, 1) := by decide +kernel
theorem dX9_noDuchy_0 : decode cX9_noDuchy 0 = .ok (.aload_n 0, 1) := by decide +kernel
theorem dX9_noDuchy_1 : decode cX9_noDuchy 1 = .ok (.getfield 61, 3) := by decide +kernel
theorem dX9_noDuchy_4 : decode cX9_noDuchy 4 = .ok (.getfield 97, 3) := by decide +kernel
theorem dX9_noDuchy_7 : decode cX9_noDuchy 7 = .ok (.ifCond .ne 7, 3) := by decide +kernel
theorem dX9_noDuchy_10 : decode cX9_noDuchy 10 = .ok (.iconst 1, 1) := by decide +kernel
theorem dX9_noDuchy_11 : decode cX9_noDuchy 11 = .ok (.goto 4, 3) := by decide +kernel
theorem dX9_noDuchy_14 : decode cX9_noDuchy 14 = .ok (.iconst 0, 1) := by decide +kernel
theorem dX9_noDuchy_15 : decode cX9_noDuchy 15 = .ok (.ireturn, 1) := by decide +kernel
theorem dX9_isMan_0 : decode cX9_isMan 0 = .ok (.iload_n 1, 1) := by decide +kernel
theorem dX9_isMan_1 : decode cX9_isMan 1 = .ok (.ifCond .lt 18, 3) := by decide +kernel
theorem dX9_isMan_4 : decode cX9_isMan 4 = .ok (.iload_n 1, 1) := by decide +kernel
theorem dX9_isMan_5 : decode cX9_isMan 5 = .ok (.aload_n 0, 1) := by decide +kernel
theorem dX9_isMan_6 : decode cX9_isMan 6 = .ok (.getfield 61, 3) := by decide +kernel
theorem dX9_isMan_9 : decode cX9_isMan 9 = .ok (.getfield 97, 3) := by decide +kernel
theorem dX9_isMan_12 : decode cX9_isMan 12 = .ok (.if_icmp .ge 7, 3) := by decide +kernel
theorem dX9_isMan_15 : decode cX9_isMan 15 = .ok (.iconst 1, 1) := by decide +kernel
theorem dX9_isMan_16 : decode cX9_isMan 16 = .ok (.goto 4, 3) := by decide +kernel
theorem dX9_isMan_19 : decode cX9_isMan 19 = .ok (.iconst 0, 1) := by decide +kernel
theorem dX9_isMan_20 : decode cX9_isMan 20 = .ok (.ireturn, 1) := by decide +kernel
theorem dX9_isDebt_0 : decode cX9_isDebt 0 = .ok (.iload_n 1, 1) := by decide +kernel
theorem dX9_isDebt_1 : decode cX9_isDebt 1 = .ok (.ifCond .lt 21, 3) := by decide +kernel
theorem dX9_isDebt_4 : decode cX9_isDebt 4 = .ok (.iload_n 1, 1) := by decide +kernel
theorem dX9_isDebt_5 : decode cX9_isDebt 5 = .ok (.aload_n 0, 1) := by decide +kernel
theorem dX9_isDebt_6 : decode cX9_isDebt 6 = .ok (.getfield 61, 3) := by decide +kernel
theorem dX9_isDebt_9 : decode cX9_isDebt 9 = .ok (.getfield 164, 3) := by decide +kernel
theorem dX9_isDebt_12 : decode cX9_isDebt 12 = .ok (.getfield 168, 3) := by decide +kernel
theorem dX9_isDebt_15 : decode cX9_isDebt 15 = .ok (.if_icmp .ge 7, 3) := by decide +kernel
theorem dX9_isDebt_18 : decode cX9_isDebt 18 = .ok (.iconst 1, 1) := by decide +kernel
theorem dX9_isDebt_19 : decode cX9_isDebt 19 = .ok (.goto 4, 3) := by decide +kernel
theorem dX9_isDebt_22 : decode cX9_isDebt 22 = .ok (.iconst 0, 1) := by decide +kernel
theorem dX9_isDebt_23 : decode cX9_isDebt 23 = .ok (.ireturn, 1) := by decide +kernel
theorem dX9_isDoor_0 : decode cX9_isDoor 0 = .ok (.iload_n 1, 1) := by decide +kernel
theorem dX9_isDoor_1 : decode cX9_isDoor 1 = .ok (.ifCond .lt 18, 3) := by decide +kernel
theorem dX9_isDoor_4 : decode cX9_isDoor 4 = .ok (.iload_n 1, 1) := by decide +kernel
theorem dX9_isDoor_5 : decode cX9_isDoor 5 = .ok (.aload_n 0, 1) := by decide +kernel
theorem dX9_isDoor_6 : decode cX9_isDoor 6 = .ok (.getfield 61, 3) := by decide +kernel
theorem dX9_isDoor_9 : decode cX9_isDoor 9 = .ok (.getfield 342, 3) := by decide +kernel
theorem dX9_isDoor_12 : decode cX9_isDoor 12 = .ok (.if_icmp .ge 7, 3) := by decide +kernel
theorem dX9_isDoor_15 : decode cX9_isDoor 15 = .ok (.iconst 1, 1) := by decide +kernel
theorem dX9_isDoor_16 : decode cX9_isDoor 16 = .ok (.goto 4, 3) := by decide +kernel
theorem dX9_isDoor_19 : decode cX9_isDoor 19 = .ok (.iconst 0, 1) := by decide +kernel
theorem dX9_isDoor_20 : decode cX9_isDoor 20 = .ok (.ireturn, 1) := by decide +kernel
theorem dX9_isFlight_0 : decode cX9_isFlight 0 = .ok (.iload_n 1, 1) := by decide +kernel
theorem dX9_isFlight_1 : decode cX9_isFlight 1 = .ok (.ifCond .lt 24, 3) := by decide +kernel
theorem dX9_isFlight_4 : decode cX9_isFlight 4 = .ok (.iload_n 1, 1) := by decide +kernel
theorem dX9_isFlight_5 : decode cX9_isFlight 5 = .ok (.ldc_w 354, 3) := by decide +kernel
theorem dX9_isFlight_8 : decode cX9_isFlight 8 = .ok (.if_icmp .gt 17, 3) := by decide +kernel
theorem dX9_isFlight_11 : decode cX9_isFlight 11 = .ok (.iload_n 2, 1) := by decide +kernel
theorem dX9_isFlight_12 : decode cX9_isFlight 12 = .ok (.ifCond .lt 13, 3) := by decide +kernel
theorem dX9_isFlight_15 : decode cX9_isFlight 15 = .ok (.iload_n 2, 1) := by decide +kernel
theorem dX9_isFlight_16 : decode cX9_isFlight 16 = .ok (.bipush 20, 2) := by decide +kernel
theorem dX9_isFlight_18 : decode cX9_isFlight 18 = .ok (.if_icmp .gt 7, 3) := by decide +kernel
theorem dX9_isFlight_21 : decode cX9_isFlight 21 = .ok (.iconst 1, 1) := by decide +kernel
theorem dX9_isFlight_22 : decode cX9_isFlight 22 = .ok (.goto 4, 3) := by decide +kernel
theorem dX9_isFlight_25 : decode cX9_isFlight 25 = .ok (.iconst 0, 1) := by decide +kernel
theorem dX9_isFlight_26 : decode cX9_isFlight 26 = .ok (.ireturn, 1) := by decide +kernel
theorem dX9_headNow_0 : decode cX9_headNow 0 = .ok (.aload_n 0, 1) := by decide +kernel
theorem dX9_headNow_1 : decode cX9_headNow 1 = .ok (.getfield 61, 3) := by decide +kernel
theorem dX9_headNow_4 : decode cX9_headNow 4 = .ok (.aload_n 0, 1) := by decide +kernel
theorem dX9_headNow_5 : decode cX9_headNow 5 = .ok (.getfield 19, 3) := by decide +kernel
theorem dX9_headNow_8 : decode cX9_headNow 8 = .ok (.iload_n 1, 1) := by decide +kernel
theorem dX9_headNow_9 : decode cX9_headNow 9 = .ok (.aload_n 0, 1) := by decide +kernel
theorem dX9_headNow_10 : decode cX9_headNow 10 = .ok (.getfield 19, 3) := by decide +kernel
theorem dX9_headNow_13 : decode cX9_headNow 13 = .ok (.getfield 138, 3) := by decide +kernel
theorem dX9_headNow_16 : decode cX9_headNow 16 = .ok (.invokevirtual 147, 3) := by decide +kernel
theorem dX9_headNow_19 : decode cX9_headNow 19 = .ok (.ireturn, 1) := by decide +kernel
theorem dX9_factOfMan_0 : decode cX9_factOfMan 0 = .ok (.iload_n 2, 1) := by decide +kernel
theorem dX9_factOfMan_1 : decode cX9_factOfMan 1 = .ok (.tableswitch 125 0 6 #[43, 53, 63, 73, 79, 99, 112], 43) := by decide +kernel
theorem dX9_factOfMan_44 : decode cX9_factOfMan 44 = .ok (.aload_n 0, 1) := by decide +kernel
theorem dX9_factOfMan_45 : decode cX9_factOfMan 45 = .ok (.getfield 61, 3) := by decide +kernel
theorem dX9_factOfMan_48 : decode cX9_factOfMan 48 = .ok (.getfield 355, 3) := by decide +kernel
theorem dX9_factOfMan_51 : decode cX9_factOfMan 51 = .ok (.iload_n 1, 1) := by decide +kernel
theorem dX9_factOfMan_52 : decode cX9_factOfMan 52 = .ok (.iaload, 1) := by decide +kernel
theorem dX9_factOfMan_53 : decode cX9_factOfMan 53 = .ok (.ireturn, 1) := by decide +kernel
theorem dX9_factOfMan_54 : decode cX9_factOfMan 54 = .ok (.aload_n 0, 1) := by decide +kernel
theorem dX9_factOfMan_55 : decode cX9_factOfMan 55 = .ok (.getfield 19, 3) := by decide +kernel
theorem dX9_factOfMan_58 : decode cX9_factOfMan 58 = .ok (.getfield 294, 3) := by decide +kernel
theorem dX9_factOfMan_61 : decode cX9_factOfMan 61 = .ok (.iload_n 1, 1) := by decide +kernel
theorem dX9_factOfMan_62 : decode cX9_factOfMan 62 = .ok (.iaload, 1) := by decide +kernel
theorem dX9_factOfMan_63 : decode cX9_factOfMan 63 = .ok (.ireturn, 1) := by decide +kernel
theorem dX9_factOfMan_64 : decode cX9_factOfMan 64 = .ok (.aload_n 0, 1) := by decide +kernel
theorem dX9_factOfMan_65 : decode cX9_factOfMan 65 = .ok (.getfield 61, 3) := by decide +kernel
theorem dX9_factOfMan_68 : decode cX9_factOfMan 68 = .ok (.getfield 323, 3) := by decide +kernel
theorem dX9_factOfMan_71 : decode cX9_factOfMan 71 = .ok (.iload_n 1, 1) := by decide +kernel
theorem dX9_factOfMan_72 : decode cX9_factOfMan 72 = .ok (.iaload, 1) := by decide +kernel
theorem dX9_factOfMan_73 : decode cX9_factOfMan 73 = .ok (.ireturn, 1) := by decide +kernel
theorem dX9_factOfMan_74 : decode cX9_factOfMan 74 = .ok (.aload_n 0, 1) := by decide +kernel
theorem dX9_factOfMan_75 : decode cX9_factOfMan 75 = .ok (.iload_n 1, 1) := by decide +kernel
theorem dX9_factOfMan_76 : decode cX9_factOfMan 76 = .ok (.invokevirtual 144, 3) := by decide +kernel
theorem dX9_factOfMan_79 : decode cX9_factOfMan 79 = .ok (.ireturn, 1) := by decide +kernel
theorem dX9_factOfMan_80 : decode cX9_factOfMan 80 = .ok (.aload_n 0, 1) := by decide +kernel
theorem dX9_factOfMan_81 : decode cX9_factOfMan 81 = .ok (.getfield 61, 3) := by decide +kernel
theorem dX9_factOfMan_84 : decode cX9_factOfMan 84 = .ok (.aload_n 0, 1) := by decide +kernel
theorem dX9_factOfMan_85 : decode cX9_factOfMan 85 = .ok (.getfield 19, 3) := by decide +kernel
theorem dX9_factOfMan_88 : decode cX9_factOfMan 88 = .ok (.iload_n 1, 1) := by decide +kernel
theorem dX9_factOfMan_89 : decode cX9_factOfMan 89 = .ok (.aload_n 0, 1) := by decide +kernel
theorem dX9_factOfMan_90 : decode cX9_factOfMan 90 = .ok (.getfield 19, 3) := by decide +kernel
theorem dX9_factOfMan_93 : decode cX9_factOfMan 93 = .ok (.getfield 138, 3) := by decide +kernel
theorem dX9_factOfMan_96 : decode cX9_factOfMan 96 = .ok (.invokevirtual 358, 3) := by decide +kernel
theorem dX9_factOfMan_99 : decode cX9_factOfMan 99 = .ok (.ireturn, 1) := by decide +kernel
theorem dX9_factOfMan_100 : decode cX9_factOfMan 100 = .ok (.aload_n 0, 1) := by decide +kernel
theorem dX9_factOfMan_101 : decode cX9_factOfMan 101 = .ok (.getfield 61, 3) := by decide +kernel
theorem dX9_factOfMan_104 : decode cX9_factOfMan 104 = .ok (.aload_n 0, 1) := by decide +kernel
theorem dX9_factOfMan_105 : decode cX9_factOfMan 105 = .ok (.getfield 19, 3) := by decide +kernel
theorem dX9_factOfMan_108 : decode cX9_factOfMan 108 = .ok (.iload_n 1, 1) := by decide +kernel
theorem dX9_factOfMan_109 : decode cX9_factOfMan 109 = .ok (.invokevirtual 308, 3) := by decide +kernel
theorem dX9_factOfMan_112 : decode cX9_factOfMan 112 = .ok (.ireturn, 1) := by decide +kernel
theorem dX9_factOfMan_113 : decode cX9_factOfMan 113 = .ok (.aload_n 0, 1) := by decide +kernel
theorem dX9_factOfMan_114 : decode cX9_factOfMan 114 = .ok (.getfield 61, 3) := by decide +kernel
theorem dX9_factOfMan_117 : decode cX9_factOfMan 117 = .ok (.aload_n 0, 1) := by decide +kernel
theorem dX9_factOfMan_118 : decode cX9_factOfMan 118 = .ok (.getfield 19, 3) := by decide +kernel
theorem dX9_factOfMan_121 : decode cX9_factOfMan 121 = .ok (.iload_n 1, 1) := by decide +kernel
theorem dX9_factOfMan_122 : decode cX9_factOfMan 122 = .ok (.invokevirtual 361, 3) := by decide +kernel
theorem dX9_factOfMan_125 : decode cX9_factOfMan 125 = .ok (.ireturn, 1) := by decide +kernel
theorem dX9_factOfMan_126 : decode cX9_factOfMan 126 = .ok (.aload_n 0, 1) := by decide +kernel
theorem dX9_factOfMan_127 : decode cX9_factOfMan 127 = .ok (.getfield 61, 3) := by decide +kernel
theorem dX9_factOfMan_130 : decode cX9_factOfMan 130 = .ok (.aload_n 0, 1) := by decide +kernel
theorem dX9_factOfMan_131 : decode cX9_factOfMan 131 = .ok (.getfield 19, 3) := by decide +kernel
theorem dX9_factOfMan_134 : decode cX9_factOfMan 134 = .ok (.iload_n 1, 1) := by decide +kernel
theorem dX9_factOfMan_135 : decode cX9_factOfMan 135 = .ok (.invokevirtual 208, 3) := by decide +kernel
theorem dX9_factOfMan_138 : decode cX9_factOfMan 138 = .ok (.ireturn, 1) := by decide +kernel
theorem dX9_factOfDebt_0 : decode cX9_factOfDebt 0 = .ok (.iload_n 2, 1) := by decide +kernel
theorem dX9_factOfDebt_1 : decode cX9_factOfDebt 1 = .ok (.tableswitch 112 0 4 #[35, 48, 61, 71, 84], 35) := by decide +kernel
theorem dX9_factOfDebt_36 : decode cX9_factOfDebt 36 = .ok (.aload_n 0, 1) := by decide +kernel
theorem dX9_factOfDebt_37 : decode cX9_factOfDebt 37 = .ok (.getfield 61, 3) := by decide +kernel
theorem dX9_factOfDebt_40 : decode cX9_factOfDebt 40 = .ok (.getfield 164, 3) := by decide +kernel
theorem dX9_factOfDebt_43 : decode cX9_factOfDebt 43 = .ok (.getfield 173, 3) := by decide +kernel
theorem dX9_factOfDebt_46 : decode cX9_factOfDebt 46 = .ok (.iload_n 1, 1) := by decide +kernel
theorem dX9_factOfDebt_47 : decode cX9_factOfDebt 47 = .ok (.iaload, 1) := by decide +kernel
theorem dX9_factOfDebt_48 : decode cX9_factOfDebt 48 = .ok (.ireturn, 1) := by decide +kernel
theorem dX9_factOfDebt_49 : decode cX9_factOfDebt 49 = .ok (.aload_n 0, 1) := by decide +kernel
theorem dX9_factOfDebt_50 : decode cX9_factOfDebt 50 = .ok (.getfield 61, 3) := by decide +kernel
theorem dX9_factOfDebt_53 : decode cX9_factOfDebt 53 = .ok (.getfield 164, 3) := by decide +kernel
theorem dX9_factOfDebt_56 : decode cX9_factOfDebt 56 = .ok (.getfield 301, 3) := by decide +kernel
theorem dX9_factOfDebt_59 : decode cX9_factOfDebt 59 = .ok (.iload_n 1, 1) := by decide +kernel
theorem dX9_factOfDebt_60 : decode cX9_factOfDebt 60 = .ok (.iaload, 1) := by decide +kernel
theorem dX9_factOfDebt_61 : decode cX9_factOfDebt 61 = .ok (.ireturn, 1) := by decide +kernel
theorem dX9_factOfDebt_62 : decode cX9_factOfDebt 62 = .ok (.aload_n 0, 1) := by decide +kernel
theorem dX9_factOfDebt_63 : decode cX9_factOfDebt 63 = .ok (.getfield 19, 3) := by decide +kernel
theorem dX9_factOfDebt_66 : decode cX9_factOfDebt 66 = .ok (.getfield 179, 3) := by decide +kernel
theorem dX9_factOfDebt_69 : decode cX9_factOfDebt 69 = .ok (.iload_n 1, 1) := by decide +kernel
theorem dX9_factOfDebt_70 : decode cX9_factOfDebt 70 = .ok (.iaload, 1) := by decide +kernel
theorem dX9_factOfDebt_71 : decode cX9_factOfDebt 71 = .ok (.ireturn, 1) := by decide +kernel
theorem dX9_factOfDebt_72 : decode cX9_factOfDebt 72 = .ok (.aload_n 0, 1) := by decide +kernel
theorem dX9_factOfDebt_73 : decode cX9_factOfDebt 73 = .ok (.getfield 61, 3) := by decide +kernel
theorem dX9_factOfDebt_76 : decode cX9_factOfDebt 76 = .ok (.getfield 164, 3) := by decide +kernel
theorem dX9_factOfDebt_79 : decode cX9_factOfDebt 79 = .ok (.getfield 364, 3) := by decide +kernel
theorem dX9_factOfDebt_82 : decode cX9_factOfDebt 82 = .ok (.iload_n 1, 1) := by decide +kernel
theorem dX9_factOfDebt_83 : decode cX9_factOfDebt 83 = .ok (.iaload, 1) := by decide +kernel
theorem dX9_factOfDebt_84 : decode cX9_factOfDebt 84 = .ok (.ireturn, 1) := by decide +kernel
theorem dX9_factOfDebt_85 : decode cX9_factOfDebt 85 = .ok (.aload_n 0, 1) := by decide +kernel
theorem dX9_factOfDebt_86 : decode cX9_factOfDebt 86 = .ok (.getfield 61, 3) := by decide +kernel
theorem dX9_factOfDebt_89 : decode cX9_factOfDebt 89 = .ok (.aload_n 0, 1) := by decide +kernel
theorem dX9_factOfDebt_90 : decode cX9_factOfDebt 90 = .ok (.getfield 19, 3) := by decide +kernel
theorem dX9_factOfDebt_93 : decode cX9_factOfDebt 93 = .ok (.iload_n 1, 1) := by decide +kernel
theorem dX9_factOfDebt_94 : decode cX9_factOfDebt 94 = .ok (.aload_n 0, 1) := by decide +kernel
theorem dX9_factOfDebt_95 : decode cX9_factOfDebt 95 = .ok (.getfield 19, 3) := by decide +kernel
theorem dX9_factOfDebt_98 : decode cX9_factOfDebt 98 = .ok (.getfield 138, 3) := by decide +kernel
theorem dX9_factOfDebt_101 : decode cX9_factOfDebt 101 = .ok (.invokevirtual 176, 3) := by decide +kernel
theorem dX9_factOfDebt_104 : decode cX9_factOfDebt 104 = .ok (.ifCond .eq 7, 3) := by decide +kernel
theorem dX9_factOfDebt_107 : decode cX9_factOfDebt 107 = .ok (.iconst 1, 1) := by decide +kernel
theorem dX9_factOfDebt_108 : decode cX9_factOfDebt 108 = .ok (.goto 4, 3) := by decide +kernel
theorem dX9_factOfDebt_111 : decode cX9_factOfDebt 111 = .ok (.iconst 0, 1) := by decide +kernel
theorem dX9_factOfDebt_112 : decode cX9_factOfDebt 112 = .ok (.ireturn, 1) := by decide +kernel
theorem dX9_factOfDebt_113 : decode cX9_factOfDebt 113 = .ok (.aload_n 0, 1) := by decide +kernel
theorem dX9_factOfDebt_114 : decode cX9_factOfDebt 114 = .ok (.getfield 61, 3) := by decide +kernel
theorem dX9_factOfDebt_117 : decode cX9_factOfDebt 117 = .ok (.aload_n 0, 1) := by decide +kernel
theorem dX9_factOfDebt_118 : decode cX9_factOfDebt 118 = .ok (.getfield 19, 3) := by decide +kernel
theorem dX9_factOfDebt_121 : decode cX9_factOfDebt 121 = .ok (.iload_n 1, 1) := by decide +kernel
theorem dX9_factOfDebt_122 : decode cX9_factOfDebt 122 = .ok (.aload_n 0, 1) := by decide +kernel
theorem dX9_factOfDebt_123 : decode cX9_factOfDebt 123 = .ok (.getfield 19, 3) := by decide +kernel
theorem dX9_factOfDebt_126 : decode cX9_factOfDebt 126 = .ok (.getfield 138, 3) := by decide +kernel
theorem dX9_factOfDebt_129 : decode cX9_factOfDebt 129 = .ok (.invokevirtual 366, 3) := by decide +kernel
theorem dX9_factOfDebt_132 : decode cX9_factOfDebt 132 = .ok (.ireturn, 1) := by decide +kernel
theorem dX9_springsUntil_0 : decode cX9_springsUntil 0 = .ok (.iconst 0, 1) := by decide +kernel
theorem dX9_springsUntil_1 : decode cX9_springsUntil 1 = .ok (.istore_n 3, 1) := by decide +kernel
theorem dX9_springsUntil_2 : decode cX9_springsUntil 2 = .ok (.iload_n 3, 1) := by decide +kernel
theorem dX9_springsUntil_3 : decode cX9_springsUntil 3 = .ok (.bipush 20, 2) := by decide +kernel
theorem dX9_springsUntil_5 : decode cX9_springsUntil 5 = .ok (.if_icmp .gt 36, 3) := by decide +kernel
theorem dX9_springsUntil_8 : decode cX9_springsUntil 8 = .ok (.aload_n 0, 1) := by decide +kernel
theorem dX9_springsUntil_9 : decode cX9_springsUntil 9 = .ok (.getfield 61, 3) := by decide +kernel
theorem dX9_springsUntil_12 : decode cX9_springsUntil 12 = .ok (.aload_n 0, 1) := by decide +kernel
theorem dX9_springsUntil_13 : decode cX9_springsUntil 13 = .ok (.getfield 19, 3) := by decide +kernel
theorem dX9_springsUntil_16 : decode cX9_springsUntil 16 = .ok (.iload_n 1, 1) := by decide +kernel
theorem dX9_springsUntil_17 : decode cX9_springsUntil 17 = .ok (.aload_n 0, 1) := by decide +kernel
theorem dX9_springsUntil_18 : decode cX9_springsUntil 18 = .ok (.getfield 19, 3) := by decide +kernel
theorem dX9_springsUntil_21 : decode cX9_springsUntil 21 = .ok (.getfield 138, 3) := by decide +kernel
theorem dX9_springsUntil_24 : decode cX9_springsUntil 24 = .ok (.iload_n 3, 1) := by decide +kernel
theorem dX9_springsUntil_25 : decode cX9_springsUntil 25 = .ok (.iadd, 1) := by decide +kernel
theorem dX9_springsUntil_26 : decode cX9_springsUntil 26 = .ok (.invokevirtual 147, 3) := by decide +kernel
theorem dX9_springsUntil_29 : decode cX9_springsUntil 29 = .ok (.iload_n 2, 1) := by decide +kernel
theorem dX9_springsUntil_30 : decode cX9_springsUntil 30 = .ok (.if_icmp .lt 5, 3) := by decide +kernel
theorem dX9_springsUntil_33 : decode cX9_springsUntil 33 = .ok (.iload_n 3, 1) := by decide +kernel
theorem dX9_springsUntil_34 : decode cX9_springsUntil 34 = .ok (.ireturn, 1) := by decide +kernel
theorem dX9_springsUntil_35 : decode cX9_springsUntil 35 = .ok (.iinc 3 1, 3) := by decide +kernel
theorem dX9_springsUntil_38 : decode cX9_springsUntil 38 = .ok (.goto (-36), 3) := by decide +kernel
theorem dX9_springsUntil_41 : decode cX9_springsUntil 41 = .ok (.bipush (-2), 2) := by decide +kernel
theorem dX9_springsUntil_43 : decode cX9_springsUntil 43 = .ok (.ireturn, 1) := by decide +kernel
theorem dX9_affordableToll_0 : decode cX9_affordableToll 0 = .ok (.aload_n 0, 1) := by decide +kernel
theorem dX9_affordableToll_1 : decode cX9_affordableToll 1 = .ok (.getfield 61, 3) := by decide +kernel
theorem dX9_affordableToll_4 : decode cX9_affordableToll 4 = .ok (.aload_n 0, 1) := by decide +kernel
theorem dX9_affordableToll_5 : decode cX9_affordableToll 5 = .ok (.getfield 19, 3) := by decide +kernel
theorem dX9_affordableToll_8 : decode cX9_affordableToll 8 = .ok (.iload_n 1, 1) := by decide +kernel
theorem dX9_affordableToll_9 : decode cX9_affordableToll 9 = .ok (.aload_n 0, 1) := by decide +kernel
theorem dX9_affordableToll_10 : decode cX9_affordableToll 10 = .ok (.getfield 61, 3) := by decide +kernel
theorem dX9_affordableToll_13 : decode cX9_affordableToll 13 = .ok (.getfield 123, 3) := by decide +kernel
theorem dX9_affordableToll_16 : decode cX9_affordableToll 16 = .ok (.iload_n 2, 1) := by decide +kernel
theorem dX9_affordableToll_17 : decode cX9_affordableToll 17 = .ok (.iaload, 1) := by decide +kernel
theorem dX9_affordableToll_18 : decode cX9_affordableToll 18 = .ok (.invokevirtual 369, 3) := by decide +kernel
theorem dX9_affordableToll_21 : decode cX9_affordableToll 21 = .ok (.istore_n 3, 1) := by decide +kernel
theorem dX9_affordableToll_22 : decode cX9_affordableToll 22 = .ok (.iload_n 3, 1) := by decide +kernel
theorem dX9_affordableToll_23 : decode cX9_affordableToll 23 = .ok (.aload_n 0, 1) := by decide +kernel
theorem dX9_affordableToll_24 : decode cX9_affordableToll 24 = .ok (.getfield 19, 3) := by decide +kernel
theorem dX9_affordableToll_27 : decode cX9_affordableToll 27 = .ok (.getfield 294, 3) := by decide +kernel
theorem dX9_affordableToll_30 : decode cX9_affordableToll 30 = .ok (.iload_n 1, 1) := by decide +kernel
theorem dX9_affordableToll_31 : decode cX9_affordableToll 31 = .ok (.iaload, 1) := by decide +kernel
theorem dX9_affordableToll_32 : decode cX9_affordableToll 32 = .ok (.if_icmp .le 8, 3) := by decide +kernel
theorem dX9_affordableToll_35 : decode cX9_affordableToll 35 = .ok (.bipush (-2), 2) := by decide +kernel
theorem dX9_affordableToll_37 : decode cX9_affordableToll 37 = .ok (.goto 4, 3) := by decide +kernel
theorem dX9_affordableToll_40 : decode cX9_affordableToll 40 = .ok (.iload_n 3, 1) := by decide +kernel
theorem dX9_affordableToll_41 : decode cX9_affordableToll 41 = .ok (.ireturn, 1) := by decide +kernel
theorem dX9_leastWidth_0 : decode cX9_leastWidth 0 = .ok (.aload_n 0, 1) := by decide +kernel
theorem dX9_leastWidth_1 : decode cX9_leastWidth 1 = .ok (.getfield 61, 3) := by decide +kernel
theorem dX9_leastWidth_4 : decode cX9_leastWidth 4 = .ok (.aload_n 0, 1) := by decide +kernel
theorem dX9_leastWidth_5 : decode cX9_leastWidth 5 = .ok (.getfield 19, 3) := by decide +kernel
theorem dX9_leastWidth_8 : decode cX9_leastWidth 8 = .ok (.iconst 0, 1) := by decide +kernel
theorem dX9_leastWidth_9 : decode cX9_leastWidth 9 = .ok (.invokevirtual 372, 3) := by decide +kernel
theorem dX9_leastWidth_12 : decode cX9_leastWidth 12 = .ok (.iload_n 1, 1) := by decide +kernel
theorem dX9_leastWidth_13 : decode cX9_leastWidth 13 = .ok (.if_icmp .lt 5, 3) := by decide +kernel
theorem dX9_leastWidth_16 : decode cX9_leastWidth 16 = .ok (.iconst 0, 1) := by decide +kernel
theorem dX9_leastWidth_17 : decode cX9_leastWidth 17 = .ok (.ireturn, 1) := by decide +kernel
theorem dX9_leastWidth_18 : decode cX9_leastWidth 18 = .ok (.iconst (-1), 1) := by decide +kernel
theorem dX9_leastWidth_19 : decode cX9_leastWidth 19 = .ok (.istore_n 2, 1) := by decide +kernel
theorem dX9_leastWidth_20 : decode cX9_leastWidth 20 = .ok (.iconst 0, 1) := by decide +kernel
theorem dX9_leastWidth_21 : decode cX9_leastWidth 21 = .ok (.istore_n 3, 1) := by decide +kernel
theorem dX9_leastWidth_22 : decode cX9_leastWidth 22 = .ok (.iload_n 3, 1) := by decide +kernel
theorem dX9_leastWidth_23 : decode cX9_leastWidth 23 = .ok (.aload_n 0, 1) := by decide +kernel
theorem dX9_leastWidth_24 : decode cX9_leastWidth 24 = .ok (.getfield 61, 3) := by decide +kernel
theorem dX9_leastWidth_27 : decode cX9_leastWidth 27 = .ok (.getfield 97, 3) := by decide +kernel
theorem dX9_leastWidth_30 : decode cX9_leastWidth 30 = .ok (.if_icmp .ge 47, 3) := by decide +kernel
theorem dX9_leastWidth_33 : decode cX9_leastWidth 33 = .ok (.aload_n 0, 1) := by decide +kernel
theorem dX9_leastWidth_34 : decode cX9_leastWidth 34 = .ok (.iload_n 3, 1) := by decide +kernel
theorem dX9_leastWidth_35 : decode cX9_leastWidth 35 = .ok (.invokevirtual 144, 3) := by decide +kernel
theorem dX9_leastWidth_38 : decode cX9_leastWidth 38 = .ok (.istore 4, 2) := by decide +kernel
theorem dX9_leastWidth_40 : decode cX9_leastWidth 40 = .ok (.aload_n 0, 1) := by decide +kernel
theorem dX9_leastWidth_41 : decode cX9_leastWidth 41 = .ok (.getfield 61, 3) := by decide +kernel
theorem dX9_leastWidth_44 : decode cX9_leastWidth 44 = .ok (.aload_n 0, 1) := by decide +kernel
theorem dX9_leastWidth_45 : decode cX9_leastWidth 45 = .ok (.getfield 19, 3) := by decide +kernel
theorem dX9_leastWidth_48 : decode cX9_leastWidth 48 = .ok (.iload 4, 2) := by decide +kernel
theorem dX9_leastWidth_50 : decode cX9_leastWidth 50 = .ok (.invokevirtual 372, 3) := by decide +kernel
theorem dX9_leastWidth_53 : decode cX9_leastWidth 53 = .ok (.iload_n 1, 1) := by decide +kernel
theorem dX9_leastWidth_54 : decode cX9_leastWidth 54 = .ok (.if_icmp .lt 17, 3) := by decide +kernel
theorem dX9_leastWidth_57 : decode cX9_leastWidth 57 = .ok (.iload_n 2, 1) := by decide +kernel
theorem dX9_leastWidth_58 : decode cX9_leastWidth 58 = .ok (.iconst (-1), 1) := by decide +kernel
theorem dX9_leastWidth_59 : decode cX9_leastWidth 59 = .ok (.if_icmp .eq 9, 3) := by decide +kernel
theorem dX9_leastWidth_62 : decode cX9_leastWidth 62 = .ok (.iload 4, 2) := by decide +kernel
theorem dX9_leastWidth_64 : decode cX9_leastWidth 64 = .ok (.iload_n 2, 1) := by decide +kernel
theorem dX9_leastWidth_65 : decode cX9_leastWidth 65 = .ok (.if_icmp .ge 6, 3) := by decide +kernel
theorem dX9_leastWidth_68 : decode cX9_leastWidth 68 = .ok (.iload 4, 2) := by decide +kernel
theorem dX9_leastWidth_70 : decode cX9_leastWidth 70 = .ok (.istore_n 2, 1) := by decide +kernel
theorem dX9_leastWidth_71 : decode cX9_leastWidth 71 = .ok (.iinc 3 1, 3) := by decide +kernel
theorem dX9_leastWidth_74 : decode cX9_leastWidth 74 = .ok (.goto (-52), 3) := by decide +kernel
theorem dX9_leastWidth_77 : decode cX9_leastWidth 77 = .ok (.iload_n 2, 1) := by decide +kernel
theorem dX9_leastWidth_78 : decode cX9_leastWidth 78 = .ok (.ireturn, 1) := by decide +kernel
theorem dX9_manToLookAt_0 : decode cX9_manToLookAt 0 = .ok (.aload_n 0, 1) := by decide +kernel
theorem dX9_manToLookAt_1 : decode cX9_manToLookAt 1 = .ok (.getfield 47, 3) := by decide +kernel
theorem dX9_manToLookAt_4 : decode cX9_manToLookAt 4 = .ok (.getfield 215, 3) := by decide +kernel
theorem dX9_manToLookAt_7 : decode cX9_manToLookAt 7 = .ok (.ifCond .ne 6, 3) := by decide +kernel
theorem dX9_manToLookAt_10 : decode cX9_manToLookAt 10 = .ok (.bipush (-2), 2) := by decide +kernel
theorem dX9_manToLookAt_12 : decode cX9_manToLookAt 12 = .ok (.ireturn, 1) := by decide +kernel
theorem dX9_manToLookAt_13 : decode cX9_manToLookAt 13 = .ok (.iconst 0, 1) := by decide +kernel
theorem dX9_manToLookAt_14 : decode cX9_manToLookAt 14 = .ok (.istore_n 1, 1) := by decide +kernel
theorem dX9_manToLookAt_15 : decode cX9_manToLookAt 15 = .ok (.aload_n 0, 1) := by decide +kernel
theorem dX9_manToLookAt_16 : decode cX9_manToLookAt 16 = .ok (.getfield 47, 3) := by decide +kernel
theorem dX9_manToLookAt_19 : decode cX9_manToLookAt 19 = .ok (.aload_n 0, 1) := by decide +kernel
theorem dX9_manToLookAt_20 : decode cX9_manToLookAt 20 = .ok (.getfield 61, 3) := by decide +kernel
theorem dX9_manToLookAt_23 : decode cX9_manToLookAt 23 = .ok (.aload_n 0, 1) := by decide +kernel
theorem dX9_manToLookAt_24 : decode cX9_manToLookAt 24 = .ok (.getfield 19, 3) := by decide +kernel
theorem dX9_manToLookAt_27 : decode cX9_manToLookAt 27 = .ok (.iconst 0, 1) := by decide +kernel
theorem dX9_manToLookAt_28 : decode cX9_manToLookAt 28 = .ok (.invokevirtual 247, 3) := by decide +kernel
theorem dX9_manToLookAt_31 : decode cX9_manToLookAt 31 = .ok (.istore_n 2, 1) := by decide +kernel
theorem dX9_manToLookAt_32 : decode cX9_manToLookAt 32 = .ok (.iconst 1, 1) := by decide +kernel
theorem dX9_manToLookAt_33 : decode cX9_manToLookAt 33 = .ok (.istore_n 3, 1) := by decide +kernel
theorem dX9_manToLookAt_34 : decode cX9_manToLookAt 34 = .ok (.iload_n 3, 1) := by decide +kernel
theorem dX9_manToLookAt_35 : decode cX9_manToLookAt 35 = .ok (.aload_n 0, 1) := by decide +kernel
theorem dX9_manToLookAt_36 : decode cX9_manToLookAt 36 = .ok (.getfield 61, 3) := by decide +kernel
theorem dX9_manToLookAt_39 : decode cX9_manToLookAt 39 = .ok (.getfield 97, 3) := by decide +kernel
theorem dX9_manToLookAt_42 : decode cX9_manToLookAt 42 = .ok (.if_icmp .ge 38, 3) := by decide +kernel
theorem dX9_manToLookAt_45 : decode cX9_manToLookAt 45 = .ok (.aload_n 0, 1) := by decide +kernel
theorem dX9_manToLookAt_46 : decode cX9_manToLookAt 46 = .ok (.getfield 47, 3) := by decide +kernel
theorem dX9_manToLookAt_49 : decode cX9_manToLookAt 49 = .ok (.aload_n 0, 1) := by decide +kernel
theorem dX9_manToLookAt_50 : decode cX9_manToLookAt 50 = .ok (.getfield 61, 3) := by decide +kernel
theorem dX9_manToLookAt_53 : decode cX9_manToLookAt 53 = .ok (.aload_n 0, 1) := by decide +kernel
theorem dX9_manToLookAt_54 : decode cX9_manToLookAt 54 = .ok (.getfield 19, 3) := by decide +kernel
theorem dX9_manToLookAt_57 : decode cX9_manToLookAt 57 = .ok (.iload_n 3, 1) := by decide +kernel
theorem dX9_manToLookAt_58 : decode cX9_manToLookAt 58 = .ok (.invokevirtual 247, 3) := by decide +kernel
theorem dX9_manToLookAt_61 : decode cX9_manToLookAt 61 = .ok (.istore 4, 2) := by decide +kernel
theorem dX9_manToLookAt_63 : decode cX9_manToLookAt 63 = .ok (.iload 4, 2) := by decide +kernel
theorem dX9_manToLookAt_65 : decode cX9_manToLookAt 65 = .ok (.iload_n 2, 1) := by decide +kernel
theorem dX9_manToLookAt_66 : decode cX9_manToLookAt 66 = .ok (.if_icmp .ge 8, 3) := by decide +kernel
theorem dX9_manToLookAt_69 : decode cX9_manToLookAt 69 = .ok (.iload_n 3, 1) := by decide +kernel
theorem dX9_manToLookAt_70 : decode cX9_manToLookAt 70 = .ok (.istore_n 1, 1) := by decide +kernel
theorem dX9_manToLookAt_71 : decode cX9_manToLookAt 71 = .ok (.iload 4, 2) := by decide +kernel
theorem dX9_manToLookAt_73 : decode cX9_manToLookAt 73 = .ok (.istore_n 2, 1) := by decide +kernel
theorem dX9_manToLookAt_74 : decode cX9_manToLookAt 74 = .ok (.iinc 3 1, 3) := by decide +kernel
theorem dX9_manToLookAt_77 : decode cX9_manToLookAt 77 = .ok (.goto (-43), 3) := by decide +kernel
theorem dX9_manToLookAt_80 : decode cX9_manToLookAt 80 = .ok (.iload_n 1, 1) := by decide +kernel
theorem dX9_manToLookAt_81 : decode cX9_manToLookAt 81 = .ok (.ireturn, 1) := by decide +kernel
theorem dX9_troubleOfDispute_0 : decode cX9_troubleOfDispute 0 = .ok (.aload_n 0, 1) := by decide +kernel
theorem dX9_troubleOfDispute_1 : decode cX9_troubleOfDispute 1 = .ok (.iload_n 1, 1) := by decide +kernel
theorem dX9_troubleOfDispute_2 : decode cX9_troubleOfDispute 2 = .ok (.invokevirtual 106, 3) := by decide +kernel
theorem dX9_troubleOfDispute_5 : decode cX9_troubleOfDispute 5 = .ok (.ifCond .eq 16, 3) := by decide +kernel
theorem dX9_troubleOfDispute_8 : decode cX9_troubleOfDispute 8 = .ok (.aload_n 0, 1) := by decide +kernel
theorem dX9_troubleOfDispute_9 : decode cX9_troubleOfDispute 9 = .ok (.iload_n 2, 1) := by decide +kernel
theorem dX9_troubleOfDispute_10 : decode cX9_troubleOfDispute 10 = .ok (.invokevirtual 106, 3) := by decide +kernel
theorem dX9_troubleOfDispute_13 : decode cX9_troubleOfDispute 13 = .ok (.ifCond .eq 8, 3) := by decide +kernel
theorem dX9_troubleOfDispute_16 : decode cX9_troubleOfDispute 16 = .ok (.iload_n 1, 1) := by decide +kernel
theorem dX9_troubleOfDispute_17 : decode cX9_troubleOfDispute 17 = .ok (.iload_n 2, 1) := by decide +kernel
theorem dX9_troubleOfDispute_18 : decode cX9_troubleOfDispute 18 = .ok (.if_icmp .ne 5, 3) := by decide +kernel
theorem dX9_troubleOfDispute_21 : decode cX9_troubleOfDispute 21 = .ok (.iconst 1, 1) := by decide +kernel
theorem dX9_troubleOfDispute_22 : decode cX9_troubleOfDispute 22 = .ok (.ireturn, 1) := by decide +kernel
theorem dX9_troubleOfDispute_23 : decode cX9_troubleOfDispute 23 = .ok (.iload_n 3, 1) := by decide +kernel
theorem dX9_troubleOfDispute_24 : decode cX9_troubleOfDispute 24 = .ok (.ifCond .lt 9, 3) := by decide +kernel
theorem dX9_troubleOfDispute_27 : decode cX9_troubleOfDispute 27 = .ok (.iload_n 3, 1) := by decide +kernel
theorem dX9_troubleOfDispute_28 : decode cX9_troubleOfDispute 28 = .ok (.bipush 99, 2) := by decide +kernel
theorem dX9_troubleOfDispute_30 : decode cX9_troubleOfDispute 30 = .ok (.if_icmp .le 7, 3) := by decide +kernel
theorem dX9_troubleOfDispute_33 : decode cX9_troubleOfDispute 33 = .ok (.iconst 2, 1) := by decide +kernel
theorem dX9_troubleOfDispute_34 : decode cX9_troubleOfDispute 34 = .ok (.goto 4, 3) := by decide +kernel
theorem dX9_troubleOfDispute_37 : decode cX9_troubleOfDispute 37 = .ok (.iconst 0, 1) := by decide +kernel
theorem dX9_troubleOfDispute_38 : decode cX9_troubleOfDispute 38 = .ok (.ireturn, 1) := by decide +kernel
theorem dX9_troubleOfWeeks_0 : decode cX9_troubleOfWeeks 0 = .ok (.aload_n 0, 1) := by decide +kernel
theorem dX9_troubleOfWeeks_1 : decode cX9_troubleOfWeeks 1 = .ok (.invokevirtual 134, 3) := by decide +kernel
theorem dX9_troubleOfWeeks_4 : decode cX9_troubleOfWeeks 4 = .ok (.ifCond .eq 5, 3) := by decide +kernel
theorem dX9_troubleOfWeeks_7 : decode cX9_troubleOfWeeks 7 = .ok (.iconst 1, 1) := by decide +kernel
theorem dX9_troubleOfWeeks_8 : decode cX9_troubleOfWeeks 8 = .ok (.ireturn, 1) := by decide +kernel
theorem dX9_troubleOfWeeks_9 : decode cX9_troubleOfWeeks 9 = .ok (.iload_n 1, 1) := by decide +kernel
theorem dX9_troubleOfWeeks_10 : decode cX9_troubleOfWeeks 10 = .ok (.ifCond .lt 9, 3) := by decide +kernel
theorem dX9_troubleOfWeeks_13 : decode cX9_troubleOfWeeks 13 = .ok (.iload_n 1, 1) := by decide +kernel
theorem dX9_troubleOfWeeks_14 : decode cX9_troubleOfWeeks 14 = .ok (.bipush 8, 2) := by decide +kernel
theorem dX9_troubleOfWeeks_16 : decode cX9_troubleOfWeeks 16 = .ok (.if_icmp .le 7, 3) := by decide +kernel
theorem dX9_troubleOfWeeks_19 : decode cX9_troubleOfWeeks 19 = .ok (.iconst 2, 1) := by decide +kernel
theorem dX9_troubleOfWeeks_20 : decode cX9_troubleOfWeeks 20 = .ok (.goto 4, 3) := by decide +kernel
theorem dX9_troubleOfWeeks_23 : decode cX9_troubleOfWeeks 23 = .ok (.iconst 0, 1) := by decide +kernel
theorem dX9_troubleOfWeeks_24 : decode cX9_troubleOfWeeks 24 = .ok (.ireturn, 1) := by decide +kernel
theorem dX9_share_0 : decode cX9_share 0 = .ok (.iload 4, 2) := by decide +kernel
theorem dX9_share_2 : decode cX9_share 2 = .ok (.ifCond .eq 38, 3) := by decide +kernel
theorem dX9_share_5 : decode cX9_share 5 = .ok (.iload 5, 2) := by decide +kernel
theorem dX9_share_7 : decode cX9_share 7 = .ok (.ifCond .eq 33, 3) := by decide +kernel
theorem dX9_share_10 : decode cX9_share 10 = .ok (.aload_n 0, 1) := by decide +kernel
theorem dX9_share_11 : decode cX9_share 11 = .ok (.getfield 61, 3) := by decide +kernel
theorem dX9_share_14 : decode cX9_share 14 = .ok (.getfield 323, 3) := by decide +kernel
theorem dX9_share_17 : decode cX9_share 17 = .ok (.iload_n 1, 1) := by decide +kernel
theorem dX9_share_18 : decode cX9_share 18 = .ok (.iaload, 1) := by decide +kernel
theorem dX9_share_19 : decode cX9_share 19 = .ok (.aload_n 0, 1) := by decide +kernel
theorem dX9_share_20 : decode cX9_share 20 = .ok (.getfield 61, 3) := by decide +kernel
theorem dX9_share_23 : decode cX9_share 23 = .ok (.getfield 323, 3) := by decide +kernel
theorem dX9_share_26 : decode cX9_share 26 = .ok (.iload_n 2, 1) := by decide +kernel
theorem dX9_share_27 : decode cX9_share 27 = .ok (.iaload, 1) := by decide +kernel
theorem dX9_share_28 : decode cX9_share 28 = .ok (.if_icmp .le 9, 3) := by decide +kernel
theorem dX9_share_31 : decode cX9_share 31 = .ok (.iload_n 3, 1) := by decide +kernel
theorem dX9_share_32 : decode cX9_share 32 = .ok (.iconst 3, 1) := by decide +kernel
theorem dX9_share_33 : decode cX9_share 33 = .ok (.isub, 1) := by decide +kernel
theorem dX9_share_34 : decode cX9_share 34 = .ok (.goto 5, 3) := by decide +kernel
theorem dX9_share_37 : decode cX9_share 37 = .ok (.bipush (-3), 2) := by decide +kernel
theorem dX9_share_39 : decode cX9_share 39 = .ok (.ireturn, 1) := by decide +kernel
theorem dX9_share_40 : decode cX9_share 40 = .ok (.iload 4, 2) := by decide +kernel
theorem dX9_share_42 : decode cX9_share 42 = .ok (.ifCond .eq 5, 3) := by decide +kernel
theorem dX9_share_45 : decode cX9_share 45 = .ok (.iload_n 3, 1) := by decide +kernel
theorem dX9_share_46 : decode cX9_share 46 = .ok (.ireturn, 1) := by decide +kernel
theorem dX9_share_47 : decode cX9_share 47 = .ok (.iload 5, 2) := by decide +kernel
theorem dX9_share_49 : decode cX9_share 49 = .ok (.ifCond .eq 7, 3) := by decide +kernel
theorem dX9_share_52 : decode cX9_share 52 = .ok (.iconst 0, 1) := by decide +kernel
theorem dX9_share_53 : decode cX9_share 53 = .ok (.goto 6, 3) := by decide +kernel
theorem dX9_share_56 : decode cX9_share 56 = .ok (.iload_n 3, 1) := by decide +kernel
theorem dX9_share_57 : decode cX9_share 57 = .ok (.iconst 2, 1) := by decide +kernel
theorem dX9_share_58 : decode cX9_share 58 = .ok (.idiv, 1) := by decide +kernel
theorem dX9_share_59 : decode cX9_share 59 = .ok (.ireturn, 1) := by decide +kernel
theorem dX9_isRest_0 : decode cX9_isRest 0 = .ok (.iload 4, 2) := by decide +kernel
theorem dX9_isRest_2 : decode cX9_isRest 2 = .ok (.iconst 1, 1) := by decide +kernel
theorem dX9_isRest_3 : decode cX9_isRest 3 = .ok (.ishr, 1) := by decide +kernel
theorem dX9_isRest_4 : decode cX9_isRest 4 = .ok (.ifCond .eq 7, 3) := by decide +kernel
theorem dX9_isRest_7 : decode cX9_isRest 7 = .ok (.iconst 1, 1) := by decide +kernel
theorem dX9_isRest_8 : decode cX9_isRest 8 = .ok (.goto 4, 3) := by decide +kernel
theorem dX9_isRest_11 : decode cX9_isRest 11 = .ok (.iconst 0, 1) := by decide +kernel
theorem dX9_isRest_12 : decode cX9_isRest 12 = .ok (.istore 5, 2) := by decide +kernel
theorem dX9_isRest_14 : decode cX9_isRest 14 = .ok (.iload 4, 2) := by decide +kernel
theorem dX9_isRest_16 : decode cX9_isRest 16 = .ok (.iconst 1, 1) := by decide +kernel
theorem dX9_isRest_17 : decode cX9_isRest 17 = .ok (.iand, 1) := by decide +kernel
theorem dX9_isRest_18 : decode cX9_isRest 18 = .ok (.ifCond .eq 7, 3) := by decide +kernel
theorem dX9_isRest_21 : decode cX9_isRest 21 = .ok (.iconst 1, 1) := by decide +kernel
theorem dX9_isRest_22 : decode cX9_isRest 22 = .ok (.goto 4, 3) := by decide +kernel
theorem dX9_isRest_25 : decode cX9_isRest 25 = .ok (.iconst 0, 1) := by decide +kernel
theorem dX9_isRest_26 : decode cX9_isRest 26 = .ok (.istore 6, 2) := by decide +kernel
theorem dX9_isRest_28 : decode cX9_isRest 28 = .ok (.aload_n 0, 1) := by decide +kernel
theorem dX9_isRest_29 : decode cX9_isRest 29 = .ok (.iload_n 1, 1) := by decide +kernel
theorem dX9_isRest_30 : decode cX9_isRest 30 = .ok (.iload_n 2, 1) := by decide +kernel
theorem dX9_isRest_31 : decode cX9_isRest 31 = .ok (.iload_n 3, 1) := by decide +kernel
theorem dX9_isRest_32 : decode cX9_isRest 32 = .ok (.iload 5, 2) := by decide +kernel
theorem dX9_isRest_34 : decode cX9_isRest 34 = .ok (.iload 6, 2) := by decide +kernel
theorem dX9_isRest_36 : decode cX9_isRest 36 = .ok (.invokevirtual 264, 3) := by decide +kernel
theorem dX9_isRest_39 : decode cX9_isRest 39 = .ok (.aload_n 0, 1) := by decide +kernel
theorem dX9_isRest_40 : decode cX9_isRest 40 = .ok (.iload_n 1, 1) := by decide +kernel
theorem dX9_isRest_41 : decode cX9_isRest 41 = .ok (.iload_n 2, 1) := by decide +kernel
theorem dX9_isRest_42 : decode cX9_isRest 42 = .ok (.iload_n 3, 1) := by decide +kernel
theorem dX9_isRest_43 : decode cX9_isRest 43 = .ok (.iload 5, 2) := by decide +kernel
theorem dX9_isRest_45 : decode cX9_isRest 45 = .ok (.ifCond .ne 7, 3) := by decide +kernel
theorem dX9_isRest_48 : decode cX9_isRest 48 = .ok (.iconst 1, 1) := by decide +kernel
theorem dX9_isRest_49 : decode cX9_isRest 49 = .ok (.goto 4, 3) := by decide +kernel
theorem dX9_isRest_52 : decode cX9_isRest 52 = .ok (.iconst 0, 1) := by decide +kernel
theorem dX9_isRest_53 : decode cX9_isRest 53 = .ok (.iload 6, 2) := by decide +kernel
theorem dX9_isRest_55 : decode cX9_isRest 55 = .ok (.invokevirtual 264, 3) := by decide +kernel
theorem dX9_isRest_58 : decode cX9_isRest 58 = .ok (.if_icmp .lt 40, 3) := by decide +kernel
theorem dX9_isRest_61 : decode cX9_isRest 61 = .ok (.aload_n 0, 1) := by decide +kernel
theorem dX9_isRest_62 : decode cX9_isRest 62 = .ok (.iload_n 2, 1) := by decide +kernel
theorem dX9_isRest_63 : decode cX9_isRest 63 = .ok (.iload_n 1, 1) := by decide +kernel
theorem dX9_isRest_64 : decode cX9_isRest 64 = .ok (.iload_n 3, 1) := by decide +kernel
theorem dX9_isRest_65 : decode cX9_isRest 65 = .ok (.iload 6, 2) := by decide +kernel
theorem dX9_isRest_67 : decode cX9_isRest 67 = .ok (.iload 5, 2) := by decide +kernel
theorem dX9_isRest_69 : decode cX9_isRest 69 = .ok (.invokevirtual 264, 3) := by decide +kernel
theorem dX9_isRest_72 : decode cX9_isRest 72 = .ok (.aload_n 0, 1) := by decide +kernel
theorem dX9_isRest_73 : decode cX9_isRest 73 = .ok (.iload_n 2, 1) := by decide +kernel
theorem dX9_isRest_74 : decode cX9_isRest 74 = .ok (.iload_n 1, 1) := by decide +kernel
theorem dX9_isRest_75 : decode cX9_isRest 75 = .ok (.iload_n 3, 1) := by decide +kernel
theorem dX9_isRest_76 : decode cX9_isRest 76 = .ok (.iload 6, 2) := by decide +kernel
theorem dX9_isRest_78 : decode cX9_isRest 78 = .ok (.ifCond .ne 7, 3) := by decide +kernel
theorem dX9_isRest_81 : decode cX9_isRest 81 = .ok (.iconst 1, 1) := by decide +kernel
theorem dX9_isRest_82 : decode cX9_isRest 82 = .ok (.goto 4, 3) := by decide +kernel
theorem dX9_isRest_85 : decode cX9_isRest 85 = .ok (.iconst 0, 1) := by decide +kernel
theorem dX9_isRest_86 : decode cX9_isRest 86 = .ok (.iload 5, 2) := by decide +kernel
theorem dX9_isRest_88 : decode cX9_isRest 88 = .ok (.invokevirtual 264, 3) := by decide +kernel
theorem dX9_isRest_91 : decode cX9_isRest 91 = .ok (.if_icmp .lt 7, 3) := by decide +kernel
theorem dX9_isRest_94 : decode cX9_isRest 94 = .ok (.iconst 1, 1) := by decide +kernel
theorem dX9_isRest_95 : decode cX9_isRest 95 = .ok (.goto 4, 3) := by decide +kernel
theorem dX9_isRest_98 : decode cX9_isRest 98 = .ok (.iconst 0, 1) := by decide +kernel
theorem dX9_isRest_99 : decode cX9_isRest 99 = .ok (.ireturn, 1) := by decide +kernel
theorem dX9_lowest_0 : decode cX9_lowest 0 = .ok (.lload_n 0, 1) := by decide +kernel
theorem dX9_lowest_1 : decode cX9_lowest 1 = .ok (.lconst 0, 1) := by decide +kernel
theorem dX9_lowest_2 : decode cX9_lowest 2 = .ok (.lcmp, 1) := by decide +kernel
theorem dX9_lowest_3 : decode cX9_lowest 3 = .ok (.ifCond .le 9, 3) := by decide +kernel
theorem dX9_lowest_6 : decode cX9_lowest 6 = .ok (.lload_n 2, 1) := by decide +kernel
theorem dX9_lowest_7 : decode cX9_lowest 7 = .ok (.lconst 0, 1) := by decide +kernel
theorem dX9_lowest_8 : decode cX9_lowest 8 = .ok (.lcmp, 1) := by decide +kernel
theorem dX9_lowest_9 : decode cX9_lowest 9 = .ok (.ifCond .gt 14, 3) := by decide +kernel
theorem dX9_lowest_12 : decode cX9_lowest 12 = .ok (.iload 4, 2) := by decide +kernel
theorem dX9_lowest_14 : decode cX9_lowest 14 = .ok (.ifCond .eq 7, 3) := by decide +kernel
theorem dX9_lowest_17 : decode cX9_lowest 17 = .ok (.lconst 1, 1) := by decide +kernel
theorem dX9_lowest_18 : decode cX9_lowest 18 = .ok (.goto 4, 3) := by decide +kernel
theorem dX9_lowest_21 : decode cX9_lowest 21 = .ok (.lconst 0, 1) := by decide +kernel
theorem dX9_lowest_22 : decode cX9_lowest 22 = .ok (.lreturn, 1) := by decide +kernel
theorem dX9_lowest_23 : decode cX9_lowest 23 = .ok (.lload_n 2, 1) := by decide +kernel
theorem dX9_lowest_24 : decode cX9_lowest 24 = .ok (.lstore 5, 2) := by decide +kernel
theorem dX9_lowest_26 : decode cX9_lowest 26 = .ok (.lload_n 0, 1) := by decide +kernel
theorem dX9_lowest_27 : decode cX9_lowest 27 = .ok (.lstore 7, 2) := by decide +kernel
theorem dX9_lowest_29 : decode cX9_lowest 29 = .ok (.iconst 0, 1) := by decide +kernel
theorem dX9_lowest_30 : decode cX9_lowest 30 = .ok (.istore 9, 2) := by decide +kernel
theorem dX9_lowest_32 : decode cX9_lowest 32 = .ok (.iload 9, 2) := by decide +kernel
theorem dX9_lowest_34 : decode cX9_lowest 34 = .ok (.sipush 200, 3) := by decide +kernel
theorem dX9_lowest_37 : decode cX9_lowest 37 = .ok (.if_icmp .ge 31, 3) := by decide +kernel
theorem dX9_lowest_40 : decode cX9_lowest 40 = .ok (.lload 7, 2) := by decide +kernel
theorem dX9_lowest_42 : decode cX9_lowest 42 = .ok (.lconst 0, 1) := by decide +kernel
theorem dX9_lowest_43 : decode cX9_lowest 43 = .ok (.lcmp, 1) := by decide +kernel
theorem dX9_lowest_44 : decode cX9_lowest 44 = .ok (.ifCond .eq 24, 3) := by decide +kernel
theorem dX9_lowest_47 : decode cX9_lowest 47 = .ok (.lload 5, 2) := by decide +kernel
theorem dX9_lowest_49 : decode cX9_lowest 49 = .ok (.lload 7, 2) := by decide +kernel
theorem dX9_lowest_51 : decode cX9_lowest 51 = .ok (.lrem, 1) := by decide +kernel
theorem dX9_lowest_52 : decode cX9_lowest 52 = .ok (.lstore 10, 2) := by decide +kernel
theorem dX9_lowest_54 : decode cX9_lowest 54 = .ok (.lload 7, 2) := by decide +kernel
theorem dX9_lowest_56 : decode cX9_lowest 56 = .ok (.lstore 5, 2) := by decide +kernel
theorem dX9_lowest_58 : decode cX9_lowest 58 = .ok (.lload 10, 2) := by decide +kernel
theorem dX9_lowest_60 : decode cX9_lowest 60 = .ok (.lstore 7, 2) := by decide +kernel
theorem dX9_lowest_62 : decode cX9_lowest 62 = .ok (.iinc 9 1, 3) := by decide +kernel
theorem dX9_lowest_65 : decode cX9_lowest 65 = .ok (.goto (-33), 3) := by decide +kernel
theorem dX9_lowest_68 : decode cX9_lowest 68 = .ok (.lload 5, 2) := by decide +kernel
theorem dX9_lowest_70 : decode cX9_lowest 70 = .ok (.lconst 0, 1) := by decide +kernel
theorem dX9_lowest_71 : decode cX9_lowest 71 = .ok (.lcmp, 1) := by decide +kernel
theorem dX9_lowest_72 : decode cX9_lowest 72 = .ok (.ifCond .ne 7, 3) := by decide +kernel
theorem dX9_lowest_75 : decode cX9_lowest 75 = .ok (.ldc2_w 375, 3) := by decide +kernel
theorem dX9_lowest_78 : decode cX9_lowest 78 = .ok (.lreturn, 1) := by decide +kernel
theorem dX9_lowest_79 : decode cX9_lowest 79 = .ok (.iload 4, 2) := by decide +kernel
theorem dX9_lowest_81 : decode cX9_lowest 81 = .ok (.ifCond .eq 7, 3) := by decide +kernel
theorem dX9_lowest_84 : decode cX9_lowest 84 = .ok (.lload_n 2, 1) := by decide +kernel
theorem dX9_lowest_85 : decode cX9_lowest 85 = .ok (.goto 4, 3) := by decide +kernel
theorem dX9_lowest_88 : decode cX9_lowest 88 = .ok (.lload_n 0, 1) := by decide +kernel
theorem dX9_lowest_89 : decode cX9_lowest 89 = .ok (.lload 5, 2) := by decide +kernel
theorem dX9_lowest_91 : decode cX9_lowest 91 = .ok (.ldiv, 1) := by decide +kernel
theorem dX9_lowest_92 : decode cX9_lowest 92 = .ok (.lreturn, 1) := by decide +kernel
