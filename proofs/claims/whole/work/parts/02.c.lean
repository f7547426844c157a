theorem dX0_init_0 : decode cX0_init 0 = .ok (.aload_n 0, 1) := by decide +kernel
theorem dX0_init_1 : decode cX0_init 1 = .ok (.invokespecial 1, 3) := by decide +kernel
theorem dX0_init_4 : decode cX0_init 4 = .ok (.aload_n 0, 1) := by decide +kernel
theorem dX0_init_5 : decode cX0_init 5 = .ok (.sipush 256, 3) := by decide +kernel
theorem dX0_init_8 : decode cX0_init 8 = .ok (.newarray .int, 2) := by decide +kernel
theorem dX0_init_10 : decode cX0_init 10 = .ok (.putfield 9, 3) := by decide +kernel
theorem dX0_init_13 : decode cX0_init 13 = .ok (.aload_n 0, 1) := by decide +kernel
theorem dX0_init_14 : decode cX0_init 14 = .ok (.sipush 256, 3) := by decide +kernel
theorem dX0_init_17 : decode cX0_init 17 = .ok (.newarray .int, 2) := by decide +kernel
theorem dX0_init_19 : decode cX0_init 19 = .ok (.putfield 13, 3) := by decide +kernel
theorem dX0_init_22 : decode cX0_init 22 = .ok (.aload_n 0, 1) := by decide +kernel
theorem dX0_init_23 : decode cX0_init 23 = .ok (.iconst 1, 1) := by decide +kernel
theorem dX0_init_24 : decode cX0_init 24 = .ok (.putfield 16, 3) := by decide +kernel
theorem dX0_init_27 : decode cX0_init 27 = .ok (.aload_n 0, 1) := by decide +kernel
theorem dX0_init_28 : decode cX0_init 28 = .ok (.sipush 256, 3) := by decide +kernel
theorem dX0_init_31 : decode cX0_init 31 = .ok (.newarray .int, 2) := by decide +kernel
theorem dX0_init_33 : decode cX0_init 33 = .ok (.putfield 20, 3) := by decide +kernel
theorem dX0_init_36 : decode cX0_init 36 = .ok (.aload_n 0, 1) := by decide +kernel
theorem dX0_init_37 : decode cX0_init 37 = .ok (.sipush 256, 3) := by decide +kernel
theorem dX0_init_40 : decode cX0_init 40 = .ok (.newarray .int, 2) := by decide +kernel
theorem dX0_init_42 : decode cX0_init 42 = .ok (.putfield 23, 3) := by decide +kernel
theorem dX0_init_45 : decode cX0_init 45 = .ok (.return_, 1) := by decide +kernel
theorem dX0_clear_0 : decode cX0_clear 0 = .ok (.aload_n 0, 1) := by decide +kernel
theorem dX0_clear_1 : decode cX0_clear 1 = .ok (.getfield 9, 3) := by decide +kernel
theorem dX0_clear_4 : decode cX0_clear 4 = .ok (.iconst 0, 1) := by decide +kernel
theorem dX0_clear_5 : decode cX0_clear 5 = .ok (.iconst 0, 1) := by decide +kernel
theorem dX0_clear_6 : decode cX0_clear 6 = .ok (.iastore, 1) := by decide +kernel
theorem dX0_clear_7 : decode cX0_clear 7 = .ok (.aload_n 0, 1) := by decide +kernel
theorem dX0_clear_8 : decode cX0_clear 8 = .ok (.getfield 13, 3) := by decide +kernel
theorem dX0_clear_11 : decode cX0_clear 11 = .ok (.iconst 0, 1) := by decide +kernel
theorem dX0_clear_12 : decode cX0_clear 12 = .ok (.iconst 0, 1) := by decide +kernel
theorem dX0_clear_13 : decode cX0_clear 13 = .ok (.iastore, 1) := by decide +kernel
theorem dX0_clear_14 : decode cX0_clear 14 = .ok (.aload_n 0, 1) := by decide +kernel
theorem dX0_clear_15 : decode cX0_clear 15 = .ok (.iconst 1, 1) := by decide +kernel
theorem dX0_clear_16 : decode cX0_clear 16 = .ok (.putfield 16, 3) := by decide +kernel
theorem dX0_clear_19 : decode cX0_clear 19 = .ok (.return_, 1) := by decide +kernel
theorem dX0_add_0 : decode cX0_add 0 = .ok (.aload_n 0, 1) := by decide +kernel
theorem dX0_add_1 : decode cX0_add 1 = .ok (.iconst 0, 1) := by decide +kernel
theorem dX0_add_2 : decode cX0_add 2 = .ok (.putfield 26, 3) := by decide +kernel
theorem dX0_add_5 : decode cX0_add 5 = .ok (.iconst 0, 1) := by decide +kernel
theorem dX0_add_6 : decode cX0_add 6 = .ok (.istore_n 3, 1) := by decide +kernel
theorem dX0_add_7 : decode cX0_add 7 = .ok (.iconst 0, 1) := by decide +kernel
theorem dX0_add_8 : decode cX0_add 8 = .ok (.istore 4, 2) := by decide +kernel
theorem dX0_add_10 : decode cX0_add 10 = .ok (.iconst 0, 1) := by decide +kernel
theorem dX0_add_11 : decode cX0_add 11 = .ok (.istore 5, 2) := by decide +kernel
theorem dX0_add_13 : decode cX0_add 13 = .ok (.iload 5, 2) := by decide +kernel
theorem dX0_add_15 : decode cX0_add 15 = .ok (.iconst 2, 1) := by decide +kernel
theorem dX0_add_16 : decode cX0_add 16 = .ok (.aload_n 0, 1) := by decide +kernel
theorem dX0_add_17 : decode cX0_add 17 = .ok (.getfield 16, 3) := by decide +kernel
theorem dX0_add_20 : decode cX0_add 20 = .ok (.imul, 1) := by decide +kernel
theorem dX0_add_21 : decode cX0_add 21 = .ok (.if_icmp .ge 91, 3) := by decide +kernel
theorem dX0_add_24 : decode cX0_add 24 = .ok (.iload 4, 2) := by decide +kernel
theorem dX0_add_26 : decode cX0_add 26 = .ok (.aload_n 0, 1) := by decide +kernel
theorem dX0_add_27 : decode cX0_add 27 = .ok (.getfield 16, 3) := by decide +kernel
theorem dX0_add_30 : decode cX0_add 30 = .ok (.if_icmp .ge 29, 3) := by decide +kernel
theorem dX0_add_33 : decode cX0_add 33 = .ok (.iload_n 3, 1) := by decide +kernel
theorem dX0_add_34 : decode cX0_add 34 = .ok (.aload_n 0, 1) := by decide +kernel
theorem dX0_add_35 : decode cX0_add 35 = .ok (.getfield 16, 3) := by decide +kernel
theorem dX0_add_38 : decode cX0_add 38 = .ok (.if_icmp .ge 43, 3) := by decide +kernel
theorem dX0_add_41 : decode cX0_add 41 = .ok (.aload_n 0, 1) := by decide +kernel
theorem dX0_add_42 : decode cX0_add 42 = .ok (.getfield 9, 3) := by decide +kernel
theorem dX0_add_45 : decode cX0_add 45 = .ok (.iload_n 3, 1) := by decide +kernel
theorem dX0_add_46 : decode cX0_add 46 = .ok (.iaload, 1) := by decide +kernel
theorem dX0_add_47 : decode cX0_add 47 = .ok (.aload_n 0, 1) := by decide +kernel
theorem dX0_add_48 : decode cX0_add 48 = .ok (.getfield 9, 3) := by decide +kernel
theorem dX0_add_51 : decode cX0_add 51 = .ok (.iload 4, 2) := by decide +kernel
theorem dX0_add_53 : decode cX0_add 53 = .ok (.iaload, 1) := by decide +kernel
theorem dX0_add_54 : decode cX0_add 54 = .ok (.iload_n 1, 1) := by decide +kernel
theorem dX0_add_55 : decode cX0_add 55 = .ok (.iadd, 1) := by decide +kernel
theorem dX0_add_56 : decode cX0_add 56 = .ok (.if_icmp .gt 25, 3) := by decide +kernel
theorem dX0_add_59 : decode cX0_add 59 = .ok (.aload_n 0, 1) := by decide +kernel
theorem dX0_add_60 : decode cX0_add 60 = .ok (.aload_n 0, 1) := by decide +kernel
theorem dX0_add_61 : decode cX0_add 61 = .ok (.getfield 9, 3) := by decide +kernel
theorem dX0_add_64 : decode cX0_add 64 = .ok (.iload_n 3, 1) := by decide +kernel
theorem dX0_add_65 : decode cX0_add 65 = .ok (.iaload, 1) := by decide +kernel
theorem dX0_add_66 : decode cX0_add 66 = .ok (.aload_n 0, 1) := by decide +kernel
theorem dX0_add_67 : decode cX0_add 67 = .ok (.getfield 13, 3) := by decide +kernel
theorem dX0_add_70 : decode cX0_add 70 = .ok (.iload_n 3, 1) := by decide +kernel
theorem dX0_add_71 : decode cX0_add 71 = .ok (.iaload, 1) := by decide +kernel
theorem dX0_add_72 : decode cX0_add 72 = .ok (.invokevirtual 29, 3) := by decide +kernel
theorem dX0_add_75 : decode cX0_add 75 = .ok (.iinc 3 1, 3) := by decide +kernel
theorem dX0_add_78 : decode cX0_add 78 = .ok (.goto 28, 3) := by decide +kernel
theorem dX0_add_81 : decode cX0_add 81 = .ok (.aload_n 0, 1) := by decide +kernel
theorem dX0_add_82 : decode cX0_add 82 = .ok (.aload_n 0, 1) := by decide +kernel
theorem dX0_add_83 : decode cX0_add 83 = .ok (.getfield 9, 3) := by decide +kernel
theorem dX0_add_86 : decode cX0_add 86 = .ok (.iload 4, 2) := by decide +kernel
theorem dX0_add_88 : decode cX0_add 88 = .ok (.iaload, 1) := by decide +kernel
theorem dX0_add_89 : decode cX0_add 89 = .ok (.iload_n 1, 1) := by decide +kernel
theorem dX0_add_90 : decode cX0_add 90 = .ok (.iadd, 1) := by decide +kernel
theorem dX0_add_91 : decode cX0_add 91 = .ok (.aload_n 0, 1) := by decide +kernel
theorem dX0_add_92 : decode cX0_add 92 = .ok (.getfield 13, 3) := by decide +kernel
theorem dX0_add_95 : decode cX0_add 95 = .ok (.iload 4, 2) := by decide +kernel
theorem dX0_add_97 : decode cX0_add 97 = .ok (.iaload, 1) := by decide +kernel
theorem dX0_add_98 : decode cX0_add 98 = .ok (.iload_n 2, 1) := by decide +kernel
theorem dX0_add_99 : decode cX0_add 99 = .ok (.iadd, 1) := by decide +kernel
theorem dX0_add_100 : decode cX0_add 100 = .ok (.invokevirtual 29, 3) := by decide +kernel
theorem dX0_add_103 : decode cX0_add 103 = .ok (.iinc 4 1, 3) := by decide +kernel
theorem dX0_add_106 : decode cX0_add 106 = .ok (.iinc 5 1, 3) := by decide +kernel
theorem dX0_add_109 : decode cX0_add 109 = .ok (.goto (-96), 3) := by decide +kernel
theorem dX0_add_112 : decode cX0_add 112 = .ok (.aload_n 0, 1) := by decide +kernel
theorem dX0_add_113 : decode cX0_add 113 = .ok (.invokevirtual 33, 3) := by decide +kernel
theorem dX0_add_116 : decode cX0_add 116 = .ok (.return_, 1) := by decide +kernel
theorem dX0_keep_0 : decode cX0_keep 0 = .ok (.aload_n 0, 1) := by decide +kernel
theorem dX0_keep_1 : decode cX0_keep 1 = .ok (.getfield 26, 3) := by decide +kernel
theorem dX0_keep_4 : decode cX0_keep 4 = .ok (.ifCond .eq 18, 3) := by decide +kernel
theorem dX0_keep_7 : decode cX0_keep 7 = .ok (.iload_n 2, 1) := by decide +kernel
theorem dX0_keep_8 : decode cX0_keep 8 = .ok (.aload_n 0, 1) := by decide +kernel
theorem dX0_keep_9 : decode cX0_keep 9 = .ok (.getfield 23, 3) := by decide +kernel
theorem dX0_keep_12 : decode cX0_keep 12 = .ok (.aload_n 0, 1) := by decide +kernel
theorem dX0_keep_13 : decode cX0_keep 13 = .ok (.getfield 26, 3) := by decide +kernel
theorem dX0_keep_16 : decode cX0_keep 16 = .ok (.iconst 1, 1) := by decide +kernel
theorem dX0_keep_17 : decode cX0_keep 17 = .ok (.isub, 1) := by decide +kernel
theorem dX0_keep_18 : decode cX0_keep 18 = .ok (.iaload, 1) := by decide +kernel
theorem dX0_keep_19 : decode cX0_keep 19 = .ok (.if_icmp .le 7, 3) := by decide +kernel
theorem dX0_keep_22 : decode cX0_keep 22 = .ok (.iconst 1, 1) := by decide +kernel
theorem dX0_keep_23 : decode cX0_keep 23 = .ok (.goto 4, 3) := by decide +kernel
theorem dX0_keep_26 : decode cX0_keep 26 = .ok (.iconst 0, 1) := by decide +kernel
theorem dX0_keep_27 : decode cX0_keep 27 = .ok (.istore_n 3, 1) := by decide +kernel
theorem dX0_keep_28 : decode cX0_keep 28 = .ok (.iload_n 3, 1) := by decide +kernel
theorem dX0_keep_29 : decode cX0_keep 29 = .ok (.ifCond .eq 43, 3) := by decide +kernel
theorem dX0_keep_32 : decode cX0_keep 32 = .ok (.aload_n 0, 1) := by decide +kernel
theorem dX0_keep_33 : decode cX0_keep 33 = .ok (.getfield 26, 3) := by decide +kernel
theorem dX0_keep_36 : decode cX0_keep 36 = .ok (.sipush 256, 3) := by decide +kernel
theorem dX0_keep_39 : decode cX0_keep 39 = .ok (.if_icmp .ge 33, 3) := by decide +kernel
theorem dX0_keep_42 : decode cX0_keep 42 = .ok (.aload_n 0, 1) := by decide +kernel
theorem dX0_keep_43 : decode cX0_keep 43 = .ok (.getfield 20, 3) := by decide +kernel
theorem dX0_keep_46 : decode cX0_keep 46 = .ok (.aload_n 0, 1) := by decide +kernel
theorem dX0_keep_47 : decode cX0_keep 47 = .ok (.getfield 26, 3) := by decide +kernel
theorem dX0_keep_50 : decode cX0_keep 50 = .ok (.iload_n 1, 1) := by decide +kernel
theorem dX0_keep_51 : decode cX0_keep 51 = .ok (.iastore, 1) := by decide +kernel
theorem dX0_keep_52 : decode cX0_keep 52 = .ok (.aload_n 0, 1) := by decide +kernel
theorem dX0_keep_53 : decode cX0_keep 53 = .ok (.getfield 23, 3) := by decide +kernel
theorem dX0_keep_56 : decode cX0_keep 56 = .ok (.aload_n 0, 1) := by decide +kernel
theorem dX0_keep_57 : decode cX0_keep 57 = .ok (.getfield 26, 3) := by decide +kernel
theorem dX0_keep_60 : decode cX0_keep 60 = .ok (.iload_n 2, 1) := by decide +kernel
theorem dX0_keep_61 : decode cX0_keep 61 = .ok (.iastore, 1) := by decide +kernel
theorem dX0_keep_62 : decode cX0_keep 62 = .ok (.aload_n 0, 1) := by decide +kernel
theorem dX0_keep_63 : decode cX0_keep 63 = .ok (.dup, 1) := by decide +kernel
theorem dX0_keep_64 : decode cX0_keep 64 = .ok (.getfield 26, 3) := by decide +kernel
theorem dX0_keep_67 : decode cX0_keep 67 = .ok (.iconst 1, 1) := by decide +kernel
theorem dX0_keep_68 : decode cX0_keep 68 = .ok (.iadd, 1) := by decide +kernel
theorem dX0_keep_69 : decode cX0_keep 69 = .ok (.putfield 26, 3) := by decide +kernel
theorem dX0_keep_72 : decode cX0_keep 72 = .ok (.return_, 1) := by decide +kernel
theorem dX0_swap_0 : decode cX0_swap 0 = .ok (.aload_n 0, 1) := by decide +kernel
theorem dX0_swap_1 : decode cX0_swap 1 = .ok (.getfield 9, 3) := by decide +kernel
theorem dX0_swap_4 : decode cX0_swap 4 = .ok (.astore_n 1, 1) := by decide +kernel
theorem dX0_swap_5 : decode cX0_swap 5 = .ok (.aload_n 0, 1) := by decide +kernel
theorem dX0_swap_6 : decode cX0_swap 6 = .ok (.getfield 13, 3) := by decide +kernel
theorem dX0_swap_9 : decode cX0_swap 9 = .ok (.astore_n 2, 1) := by decide +kernel
theorem dX0_swap_10 : decode cX0_swap 10 = .ok (.aload_n 0, 1) := by decide +kernel
theorem dX0_swap_11 : decode cX0_swap 11 = .ok (.aload_n 0, 1) := by decide +kernel
theorem dX0_swap_12 : decode cX0_swap 12 = .ok (.getfield 20, 3) := by decide +kernel
theorem dX0_swap_15 : decode cX0_swap 15 = .ok (.putfield 9, 3) := by decide +kernel
theorem dX0_swap_18 : decode cX0_swap 18 = .ok (.aload_n 0, 1) := by decide +kernel
theorem dX0_swap_19 : decode cX0_swap 19 = .ok (.aload_n 0, 1) := by decide +kernel
theorem dX0_swap_20 : decode cX0_swap 20 = .ok (.getfield 23, 3) := by decide +kernel
theorem dX0_swap_23 : decode cX0_swap 23 = .ok (.putfield 13, 3) := by decide +kernel
theorem dX0_swap_26 : decode cX0_swap 26 = .ok (.aload_n 0, 1) := by decide +kernel
theorem dX0_swap_27 : decode cX0_swap 27 = .ok (.aload_n 1, 1) := by decide +kernel
theorem dX0_swap_28 : decode cX0_swap 28 = .ok (.putfield 20, 3) := by decide +kernel
theorem dX0_swap_31 : decode cX0_swap 31 = .ok (.aload_n 0, 1) := by decide +kernel
theorem dX0_swap_32 : decode cX0_swap 32 = .ok (.aload_n 2, 1) := by decide +kernel
theorem dX0_swap_33 : decode cX0_swap 33 = .ok (.putfield 23, 3) := by decide +kernel
theorem dX0_swap_36 : decode cX0_swap 36 = .ok (.aload_n 0, 1) := by decide +kernel
theorem dX0_swap_37 : decode cX0_swap 37 = .ok (.aload_n 0, 1) := by decide +kernel
theorem dX0_swap_38 : decode cX0_swap 38 = .ok (.getfield 26, 3) := by decide +kernel
theorem dX0_swap_41 : decode cX0_swap 41 = .ok (.putfield 16, 3) := by decide +kernel
theorem dX0_swap_44 : decode cX0_swap 44 = .ok (.return_, 1) := by decide +kernel
theorem dX1_init_0 : decode cX1_init 0 = .ok (.aload_n 0, 1) := by decide +kernel
theorem dX1_init_1 : decode cX1_init 1 = .ok (.invokespecial 3, 3) := by decide +kernel
theorem dX1_init_4 : decode cX1_init 4 = .ok (.aload_n 0, 1) := by decide +kernel
theorem dX1_init_5 : decode cX1_init 5 = .ok (.bipush 16, 2) := by decide +kernel
theorem dX1_init_7 : decode cX1_init 7 = .ok (.newarray .int, 2) := by decide +kernel
theorem dX1_init_9 : decode cX1_init 9 = .ok (.putfield 9, 3) := by decide +kernel
theorem dX1_init_12 : decode cX1_init 12 = .ok (.aload_n 0, 1) := by decide +kernel
theorem dX1_init_13 : decode cX1_init 13 = .ok (.iconst 4, 1) := by decide +kernel
theorem dX1_init_14 : decode cX1_init 14 = .ok (.newarray .int, 2) := by decide +kernel
theorem dX1_init_16 : decode cX1_init 16 = .ok (.putfield 15, 3) := by decide +kernel
theorem dX1_init_19 : decode cX1_init 19 = .ok (.return_, 1) := by decide +kernel
theorem dX1_distribute_0 : decode cX1_distribute 0 = .ok (.aload_n 0, 1) := by decide +kernel
theorem dX1_distribute_1 : decode cX1_distribute 1 = .ok (.getfield 9, 3) := by decide +kernel
theorem dX1_distribute_4 : decode cX1_distribute 4 = .ok (.iconst 0, 1) := by decide +kernel
theorem dX1_distribute_5 : decode cX1_distribute 5 = .ok (.invokestatic 18, 3) := by decide +kernel
theorem dX1_distribute_8 : decode cX1_distribute 8 = .ok (.aload_n 0, 1) := by decide +kernel
theorem dX1_distribute_9 : decode cX1_distribute 9 = .ok (.aload_n 1, 1) := by decide +kernel
theorem dX1_distribute_10 : decode cX1_distribute 10 = .ok (.getfield 24, 3) := by decide +kernel
theorem dX1_distribute_13 : decode cX1_distribute 13 = .ok (.putfield 30, 3) := by decide +kernel
theorem dX1_distribute_16 : decode cX1_distribute 16 = .ok (.iconst 0, 1) := by decide +kernel
theorem dX1_distribute_17 : decode cX1_distribute 17 = .ok (.istore 5, 2) := by decide +kernel
theorem dX1_distribute_19 : decode cX1_distribute 19 = .ok (.iload 5, 2) := by decide +kernel
theorem dX1_distribute_21 : decode cX1_distribute 21 = .ok (.aload_n 1, 1) := by decide +kernel
theorem dX1_distribute_22 : decode cX1_distribute 22 = .ok (.getfield 33, 3) := by decide +kernel
theorem dX1_distribute_25 : decode cX1_distribute 25 = .ok (.if_icmp .ge 36, 3) := by decide +kernel
theorem dX1_distribute_28 : decode cX1_distribute 28 = .ok (.aload_n 0, 1) := by decide +kernel
theorem dX1_distribute_29 : decode cX1_distribute 29 = .ok (.aload_n 1, 1) := by decide +kernel
theorem dX1_distribute_30 : decode cX1_distribute 30 = .ok (.aload_n 2, 1) := by decide +kernel
theorem dX1_distribute_31 : decode cX1_distribute 31 = .ok (.iload_n 3, 1) := by decide +kernel
theorem dX1_distribute_32 : decode cX1_distribute 32 = .ok (.iload 4, 2) := by decide +kernel
theorem dX1_distribute_34 : decode cX1_distribute 34 = .ok (.iload 5, 2) := by decide +kernel
theorem dX1_distribute_36 : decode cX1_distribute 36 = .ok (.invokevirtual 36, 3) := by decide +kernel
theorem dX1_distribute_39 : decode cX1_distribute 39 = .ok (.aload_n 0, 1) := by decide +kernel
theorem dX1_distribute_40 : decode cX1_distribute 40 = .ok (.dup, 1) := by decide +kernel
theorem dX1_distribute_41 : decode cX1_distribute 41 = .ok (.getfield 30, 3) := by decide +kernel
theorem dX1_distribute_44 : decode cX1_distribute 44 = .ok (.aload_n 0, 1) := by decide +kernel
theorem dX1_distribute_45 : decode cX1_distribute 45 = .ok (.getfield 15, 3) := by decide +kernel
theorem dX1_distribute_48 : decode cX1_distribute 48 = .ok (.iload 5, 2) := by decide +kernel
theorem dX1_distribute_50 : decode cX1_distribute 50 = .ok (.iaload, 1) := by decide +kernel
theorem dX1_distribute_51 : decode cX1_distribute 51 = .ok (.iadd, 1) := by decide +kernel
theorem dX1_distribute_52 : decode cX1_distribute 52 = .ok (.putfield 30, 3) := by decide +kernel
theorem dX1_distribute_55 : decode cX1_distribute 55 = .ok (.iinc 5 1, 3) := by decide +kernel
theorem dX1_distribute_58 : decode cX1_distribute 58 = .ok (.goto (-39), 3) := by decide +kernel
theorem dX1_distribute_61 : decode cX1_distribute 61 = .ok (.aload_n 0, 1) := by decide +kernel
theorem dX1_distribute_62 : decode cX1_distribute 62 = .ok (.aload_n 1, 1) := by decide +kernel
theorem dX1_distribute_63 : decode cX1_distribute 63 = .ok (.aload_n 2, 1) := by decide +kernel
theorem dX1_distribute_64 : decode cX1_distribute 64 = .ok (.iload 4, 2) := by decide +kernel
theorem dX1_distribute_66 : decode cX1_distribute 66 = .ok (.invokevirtual 40, 3) := by decide +kernel
theorem dX1_distribute_69 : decode cX1_distribute 69 = .ok (.return_, 1) := by decide +kernel
theorem dX1_fundPanel_0 : decode cX1_fundPanel 0 = .ok (.aload_n 1, 1) := by decide +kernel
theorem dX1_fundPanel_1 : decode cX1_fundPanel 1 = .ok (.getfield 44, 3) := by decide +kernel
theorem dX1_fundPanel_4 : decode cX1_fundPanel 4 = .ok (.iload 5, 2) := by decide +kernel
theorem dX1_fundPanel_6 : decode cX1_fundPanel 6 = .ok (.iaload, 1) := by decide +kernel
theorem dX1_fundPanel_7 : decode cX1_fundPanel 7 = .ok (.istore 6, 2) := by decide +kernel
theorem dX1_fundPanel_9 : decode cX1_fundPanel 9 = .ok (.iconst 1, 1) := by decide +kernel
theorem dX1_fundPanel_10 : decode cX1_fundPanel 10 = .ok (.istore 7, 2) := by decide +kernel
theorem dX1_fundPanel_12 : decode cX1_fundPanel 12 = .ok (.iconst 0, 1) := by decide +kernel
theorem dX1_fundPanel_13 : decode cX1_fundPanel 13 = .ok (.istore 8, 2) := by decide +kernel
theorem dX1_fundPanel_15 : decode cX1_fundPanel 15 = .ok (.iload 8, 2) := by decide +kernel
theorem dX1_fundPanel_17 : decode cX1_fundPanel 17 = .ok (.aload_n 2, 1) := by decide +kernel
theorem dX1_fundPanel_18 : decode cX1_fundPanel 18 = .ok (.getfield 47, 3) := by decide +kernel
theorem dX1_fundPanel_21 : decode cX1_fundPanel 21 = .ok (.if_icmp .ge 115, 3) := by decide +kernel
theorem dX1_fundPanel_24 : decode cX1_fundPanel 24 = .ok (.iload 7, 2) := by decide +kernel
theorem dX1_fundPanel_26 : decode cX1_fundPanel 26 = .ok (.ifCond .eq 110, 3) := by decide +kernel
theorem dX1_fundPanel_29 : decode cX1_fundPanel 29 = .ok (.aload_n 2, 1) := by decide +kernel
theorem dX1_fundPanel_30 : decode cX1_fundPanel 30 = .ok (.getfield 52, 3) := by decide +kernel
theorem dX1_fundPanel_33 : decode cX1_fundPanel 33 = .ok (.iload 8, 2) := by decide +kernel
theorem dX1_fundPanel_35 : decode cX1_fundPanel 35 = .ok (.iaload, 1) := by decide +kernel
theorem dX1_fundPanel_36 : decode cX1_fundPanel 36 = .ok (.istore 9, 2) := by decide +kernel
theorem dX1_fundPanel_38 : decode cX1_fundPanel 38 = .ok (.aload_n 1, 1) := by decide +kernel
theorem dX1_fundPanel_39 : decode cX1_fundPanel 39 = .ok (.getfield 55, 3) := by decide +kernel
theorem dX1_fundPanel_42 : decode cX1_fundPanel 42 = .ok (.iload 9, 2) := by decide +kernel
theorem dX1_fundPanel_44 : decode cX1_fundPanel 44 = .ok (.iaload, 1) := by decide +kernel
theorem dX1_fundPanel_45 : decode cX1_fundPanel 45 = .ok (.iload 5, 2) := by decide +kernel
theorem dX1_fundPanel_47 : decode cX1_fundPanel 47 = .ok (.if_icmp .ne 83, 3) := by decide +kernel
theorem dX1_fundPanel_50 : decode cX1_fundPanel 50 = .ok (.aload_n 2, 1) := by decide +kernel
theorem dX1_fundPanel_51 : decode cX1_fundPanel 51 = .ok (.getfield 58, 3) := by decide +kernel
theorem dX1_fundPanel_54 : decode cX1_fundPanel 54 = .ok (.iload 9, 2) := by decide +kernel
theorem dX1_fundPanel_56 : decode cX1_fundPanel 56 = .ok (.iaload, 1) := by decide +kernel
theorem dX1_fundPanel_57 : decode cX1_fundPanel 57 = .ok (.iload 4, 2) := by decide +kernel
theorem dX1_fundPanel_59 : decode cX1_fundPanel 59 = .ok (.if_icmp .lt 71, 3) := by decide +kernel
theorem dX1_fundPanel_62 : decode cX1_fundPanel 62 = .ok (.aload_n 0, 1) := by decide +kernel
theorem dX1_fundPanel_63 : decode cX1_fundPanel 63 = .ok (.getfield 9, 3) := by decide +kernel
theorem dX1_fundPanel_66 : decode cX1_fundPanel 66 = .ok (.iload 9, 2) := by decide +kernel
theorem dX1_fundPanel_68 : decode cX1_fundPanel 68 = .ok (.iload_n 3, 1) := by decide +kernel
theorem dX1_fundPanel_69 : decode cX1_fundPanel 69 = .ok (.iload 6, 2) := by decide +kernel
theorem dX1_fundPanel_71 : decode cX1_fundPanel 71 = .ok (.aload_n 1, 1) := by decide +kernel
theorem dX1_fundPanel_72 : decode cX1_fundPanel 72 = .ok (.getfield 61, 3) := by decide +kernel
theorem dX1_fundPanel_75 : decode cX1_fundPanel 75 = .ok (.iload 9, 2) := by decide +kernel
theorem dX1_fundPanel_77 : decode cX1_fundPanel 77 = .ok (.iaload, 1) := by decide +kernel
theorem dX1_fundPanel_78 : decode cX1_fundPanel 78 = .ok (.aload_n 1, 1) := by decide +kernel
theorem dX1_fundPanel_79 : decode cX1_fundPanel 79 = .ok (.getfield 64, 3) := by decide +kernel
theorem dX1_fundPanel_82 : decode cX1_fundPanel 82 = .ok (.iload 9, 2) := by decide +kernel
theorem dX1_fundPanel_84 : decode cX1_fundPanel 84 = .ok (.iaload, 1) := by decide +kernel
theorem dX1_fundPanel_85 : decode cX1_fundPanel 85 = .ok (.invokestatic 67, 3) := by decide +kernel
theorem dX1_fundPanel_88 : decode cX1_fundPanel 88 = .ok (.iastore, 1) := by decide +kernel
theorem dX1_fundPanel_89 : decode cX1_fundPanel 89 = .ok (.iload 6, 2) := by decide +kernel
theorem dX1_fundPanel_91 : decode cX1_fundPanel 91 = .ok (.aload_n 0, 1) := by decide +kernel
theorem dX1_fundPanel_92 : decode cX1_fundPanel 92 = .ok (.getfield 9, 3) := by decide +kernel
theorem dX1_fundPanel_95 : decode cX1_fundPanel 95 = .ok (.iload 9, 2) := by decide +kernel
theorem dX1_fundPanel_97 : decode cX1_fundPanel 97 = .ok (.iaload, 1) := by decide +kernel
theorem dX1_fundPanel_98 : decode cX1_fundPanel 98 = .ok (.isub, 1) := by decide +kernel
theorem dX1_fundPanel_99 : decode cX1_fundPanel 99 = .ok (.istore 6, 2) := by decide +kernel
theorem dX1_fundPanel_101 : decode cX1_fundPanel 101 = .ok (.iload_n 3, 1) := by decide +kernel
theorem dX1_fundPanel_102 : decode cX1_fundPanel 102 = .ok (.iconst 1, 1) := by decide +kernel
theorem dX1_fundPanel_103 : decode cX1_fundPanel 103 = .ok (.if_icmp .eq 20, 3) := by decide +kernel
theorem dX1_fundPanel_106 : decode cX1_fundPanel 106 = .ok (.aload_n 0, 1) := by decide +kernel
theorem dX1_fundPanel_107 : decode cX1_fundPanel 107 = .ok (.getfield 9, 3) := by decide +kernel
theorem dX1_fundPanel_110 : decode cX1_fundPanel 110 = .ok (.iload 9, 2) := by decide +kernel
theorem dX1_fundPanel_112 : decode cX1_fundPanel 112 = .ok (.iaload, 1) := by decide +kernel
theorem dX1_fundPanel_113 : decode cX1_fundPanel 113 = .ok (.aload_n 1, 1) := by decide +kernel
theorem dX1_fundPanel_114 : decode cX1_fundPanel 114 = .ok (.getfield 61, 3) := by decide +kernel
theorem dX1_fundPanel_117 : decode cX1_fundPanel 117 = .ok (.iload 9, 2) := by decide +kernel
theorem dX1_fundPanel_119 : decode cX1_fundPanel 119 = .ok (.iaload, 1) := by decide +kernel
theorem dX1_fundPanel_120 : decode cX1_fundPanel 120 = .ok (.if_icmp .ne 7, 3) := by decide +kernel
theorem dX1_fundPanel_123 : decode cX1_fundPanel 123 = .ok (.iconst 1, 1) := by decide +kernel
theorem dX1_fundPanel_124 : decode cX1_fundPanel 124 = .ok (.goto 4, 3) := by decide +kernel
theorem dX1_fundPanel_127 : decode cX1_fundPanel 127 = .ok (.iconst 0, 1) := by decide +kernel
theorem dX1_fundPanel_128 : decode cX1_fundPanel 128 = .ok (.istore 7, 2) := by decide +kernel
theorem dX1_fundPanel_130 : decode cX1_fundPanel 130 = .ok (.iinc 8 1, 3) := by decide +kernel
theorem dX1_fundPanel_133 : decode cX1_fundPanel 133 = .ok (.goto (-118), 3) := by decide +kernel
theorem dX1_fundPanel_136 : decode cX1_fundPanel 136 = .ok (.aload_n 0, 1) := by decide +kernel
theorem dX1_fundPanel_137 : decode cX1_fundPanel 137 = .ok (.getfield 15, 3) := by decide +kernel
theorem dX1_fundPanel_140 : decode cX1_fundPanel 140 = .ok (.iload 5, 2) := by decide +kernel
theorem dX1_fundPanel_142 : decode cX1_fundPanel 142 = .ok (.iload 6, 2) := by decide +kernel
theorem dX1_fundPanel_144 : decode cX1_fundPanel 144 = .ok (.iastore, 1) := by decide +kernel
theorem dX1_fundPanel_145 : decode cX1_fundPanel 145 = .ok (.return_, 1) := by decide +kernel
theorem dX1_panelShare_0 : decode cX1_panelShare 0 = .ok (.iload_n 2, 1) := by decide +kernel
theorem dX1_panelShare_1 : decode cX1_panelShare 1 = .ok (.iload_n 1, 1) := by decide +kernel
theorem dX1_panelShare_2 : decode cX1_panelShare 2 = .ok (.if_icmp .gt 5, 3) := by decide +kernel
theorem dX1_panelShare_5 : decode cX1_panelShare 5 = .ok (.iload_n 2, 1) := by decide +kernel
theorem dX1_panelShare_6 : decode cX1_panelShare 6 = .ok (.ireturn, 1) := by decide +kernel
theorem dX1_panelShare_7 : decode cX1_panelShare 7 = .ok (.iload_n 0, 1) := by decide +kernel
theorem dX1_panelShare_8 : decode cX1_panelShare 8 = .ok (.iconst 2, 1) := by decide +kernel
theorem dX1_panelShare_9 : decode cX1_panelShare 9 = .ok (.if_icmp .ne 12, 3) := by decide +kernel
theorem dX1_panelShare_12 : decode cX1_panelShare 12 = .ok (.iload_n 3, 1) := by decide +kernel
theorem dX1_panelShare_13 : decode cX1_panelShare 13 = .ok (.iload_n 1, 1) := by decide +kernel
theorem dX1_panelShare_14 : decode cX1_panelShare 14 = .ok (.if_icmp .gt 7, 3) := by decide +kernel
theorem dX1_panelShare_17 : decode cX1_panelShare 17 = .ok (.iload_n 1, 1) := by decide +kernel
theorem dX1_panelShare_18 : decode cX1_panelShare 18 = .ok (.goto 4, 3) := by decide +kernel
theorem dX1_panelShare_21 : decode cX1_panelShare 21 = .ok (.iconst 0, 1) := by decide +kernel
theorem dX1_panelShare_22 : decode cX1_panelShare 22 = .ok (.ireturn, 1) := by decide +kernel
theorem dX1_fundFromPool_0 : decode cX1_fundFromPool 0 = .ok (.iconst 0, 1) := by decide +kernel
theorem dX1_fundFromPool_1 : decode cX1_fundFromPool 1 = .ok (.istore 4, 2) := by decide +kernel
theorem dX1_fundFromPool_3 : decode cX1_fundFromPool 3 = .ok (.iload 4, 2) := by decide +kernel
theorem dX1_fundFromPool_5 : decode cX1_fundFromPool 5 = .ok (.aload_n 2, 1) := by decide +kernel
theorem dX1_fundFromPool_6 : decode cX1_fundFromPool 6 = .ok (.getfield 47, 3) := by decide +kernel
theorem dX1_fundFromPool_9 : decode cX1_fundFromPool 9 = .ok (.if_icmp .ge 83, 3) := by decide +kernel
theorem dX1_fundFromPool_12 : decode cX1_fundFromPool 12 = .ok (.aload_n 2, 1) := by decide +kernel
theorem dX1_fundFromPool_13 : decode cX1_fundFromPool 13 = .ok (.getfield 52, 3) := by decide +kernel
theorem dX1_fundFromPool_16 : decode cX1_fundFromPool 16 = .ok (.iload 4, 2) := by decide +kernel
theorem dX1_fundFromPool_18 : decode cX1_fundFromPool 18 = .ok (.iaload, 1) := by decide +kernel
theorem dX1_fundFromPool_19 : decode cX1_fundFromPool 19 = .ok (.istore 5, 2) := by decide +kernel
theorem dX1_fundFromPool_21 : decode cX1_fundFromPool 21 = .ok (.aload_n 2, 1) := by decide +kernel
theorem dX1_fundFromPool_22 : decode cX1_fundFromPool 22 = .ok (.getfield 58, 3) := by decide +kernel
theorem dX1_fundFromPool_25 : decode cX1_fundFromPool 25 = .ok (.iload 5, 2) := by decide +kernel
theorem dX1_fundFromPool_27 : decode cX1_fundFromPool 27 = .ok (.iaload, 1) := by decide +kernel
theorem dX1_fundFromPool_28 : decode cX1_fundFromPool 28 = .ok (.iload_n 3, 1) := by decide +kernel
theorem dX1_fundFromPool_29 : decode cX1_fundFromPool 29 = .ok (.if_icmp .lt 57, 3) := by decide +kernel
theorem dX1_fundFromPool_32 : decode cX1_fundFromPool 32 = .ok (.aload_n 0, 1) := by decide +kernel
theorem dX1_fundFromPool_33 : decode cX1_fundFromPool 33 = .ok (.getfield 9, 3) := by decide +kernel
theorem dX1_fundFromPool_36 : decode cX1_fundFromPool 36 = .ok (.iload 5, 2) := by decide +kernel
theorem dX1_fundFromPool_38 : decode cX1_fundFromPool 38 = .ok (.iaload, 1) := by decide +kernel
theorem dX1_fundFromPool_39 : decode cX1_fundFromPool 39 = .ok (.ifCond .ne 47, 3) := by decide +kernel
theorem dX1_fundFromPool_42 : decode cX1_fundFromPool 42 = .ok (.aload_n 1, 1) := by decide +kernel
theorem dX1_fundFromPool_43 : decode cX1_fundFromPool 43 = .ok (.getfield 61, 3) := by decide +kernel
theorem dX1_fundFromPool_46 : decode cX1_fundFromPool 46 = .ok (.iload 5, 2) := by decide +kernel
theorem dX1_fundFromPool_48 : decode cX1_fundFromPool 48 = .ok (.iaload, 1) := by decide +kernel
theorem dX1_fundFromPool_49 : decode cX1_fundFromPool 49 = .ok (.aload_n 0, 1) := by decide +kernel
theorem dX1_fundFromPool_50 : decode cX1_fundFromPool 50 = .ok (.getfield 30, 3) := by decide +kernel
theorem dX1_fundFromPool_53 : decode cX1_fundFromPool 53 = .ok (.if_icmp .gt 33, 3) := by decide +kernel
theorem dX1_fundFromPool_56 : decode cX1_fundFromPool 56 = .ok (.aload_n 0, 1) := by decide +kernel
theorem dX1_fundFromPool_57 : decode cX1_fundFromPool 57 = .ok (.getfield 9, 3) := by decide +kernel
theorem dX1_fundFromPool_60 : decode cX1_fundFromPool 60 = .ok (.iload 5, 2) := by decide +kernel
theorem dX1_fundFromPool_62 : decode cX1_fundFromPool 62 = .ok (.aload_n 1, 1) := by decide +kernel
theorem dX1_fundFromPool_63 : decode cX1_fundFromPool 63 = .ok (.getfield 61, 3) := by decide +kernel
theorem dX1_fundFromPool_66 : decode cX1_fundFromPool 66 = .ok (.iload 5, 2) := by decide +kernel
theorem dX1_fundFromPool_68 : decode cX1_fundFromPool 68 = .ok (.iaload, 1) := by decide +kernel
theorem dX1_fundFromPool_69 : decode cX1_fundFromPool 69 = .ok (.iastore, 1) := by decide +kernel
theorem dX1_fundFromPool_70 : decode cX1_fundFromPool 70 = .ok (.aload_n 0, 1) := by decide +kernel
theorem dX1_fundFromPool_71 : decode cX1_fundFromPool 71 = .ok (.dup, 1) := by decide +kernel
theorem dX1_fundFromPool_72 : decode cX1_fundFromPool 72 = .ok (.getfield 30, 3) := by decide +kernel
theorem dX1_fundFromPool_75 : decode cX1_fundFromPool 75 = .ok (.aload_n 0, 1) := by decide +kernel
theorem dX1_fundFromPool_76 : decode cX1_fundFromPool 76 = .ok (.getfield 9, 3) := by decide +kernel
theorem dX1_fundFromPool_79 : decode cX1_fundFromPool 79 = .ok (.iload 5, 2) := by decide +kernel
theorem dX1_fundFromPool_81 : decode cX1_fundFromPool 81 = .ok (.iaload, 1) := by decide +kernel
theorem dX1_fundFromPool_82 : decode cX1_fundFromPool 82 = .ok (.isub, 1) := by decide +kernel
theorem dX1_fundFromPool_83 : decode cX1_fundFromPool 83 = .ok (.putfield 30, 3) := by decide +kernel
theorem dX1_fundFromPool_86 : decode cX1_fundFromPool 86 = .ok (.iinc 4 1, 3) := by decide +kernel
theorem dX1_fundFromPool_89 : decode cX1_fundFromPool 89 = .ok (.goto (-86), 3) := by decide +kernel
theorem dX1_fundFromPool_92 : decode cX1_fundFromPool 92 = .ok (.return_, 1) := by decide +kernel
theorem dX1_winners_0 : decode cX1_winners 0 = .ok (.iconst 0, 1) := by decide +kernel
theorem dX1_winners_1 : decode cX1_winners 1 = .ok (.istore_n 2, 1) := by decide +kernel
theorem dX1_winners_2 : decode cX1_winners 2 = .ok (.iconst 0, 1) := by decide +kernel
theorem dX1_winners_3 : decode cX1_winners 3 = .ok (.istore_n 3, 1) := by decide +kernel
theorem dX1_winners_4 : decode cX1_winners 4 = .ok (.iload_n 3, 1) := by decide +kernel
theorem dX1_winners_5 : decode cX1_winners 5 = .ok (.iload_n 1, 1) := by decide +kernel
theorem dX1_winners_6 : decode cX1_winners 6 = .ok (.if_icmp .ge 24, 3) := by decide +kernel
theorem dX1_winners_9 : decode cX1_winners 9 = .ok (.aload_n 0, 1) := by decide +kernel
theorem dX1_winners_10 : decode cX1_winners 10 = .ok (.getfield 9, 3) := by decide +kernel
theorem dX1_winners_13 : decode cX1_winners 13 = .ok (.iload_n 3, 1) := by decide +kernel
theorem dX1_winners_14 : decode cX1_winners 14 = .ok (.iaload, 1) := by decide +kernel
theorem dX1_winners_15 : decode cX1_winners 15 = .ok (.ifCond .le 9, 3) := by decide +kernel
theorem dX1_winners_18 : decode cX1_winners 18 = .ok (.iload_n 2, 1) := by decide +kernel
theorem dX1_winners_19 : decode cX1_winners 19 = .ok (.iconst 1, 1) := by decide +kernel
theorem dX1_winners_20 : decode cX1_winners 20 = .ok (.iload_n 3, 1) := by decide +kernel
theorem dX1_winners_21 : decode cX1_winners 21 = .ok (.ishl, 1) := by decide +kernel
theorem dX1_winners_22 : decode cX1_winners 22 = .ok (.ior, 1) := by decide +kernel
theorem dX1_winners_23 : decode cX1_winners 23 = .ok (.istore_n 2, 1) := by decide +kernel
theorem dX1_winners_24 : decode cX1_winners 24 = .ok (.iinc 3 1, 3) := by decide +kernel
theorem dX1_winners_27 : decode cX1_winners 27 = .ok (.goto (-23), 3) := by decide +kernel
theorem dX1_winners_30 : decode cX1_winners 30 = .ok (.iload_n 2, 1) := by decide +kernel
theorem dX1_winners_31 : decode cX1_winners 31 = .ok (.ireturn, 1) := by decide +kernel
theorem dX2_init_0 : decode cX2_init 0 = .ok (.aload_n 0, 1) := by decide +kernel
theorem dX2_init_1 : decode cX2_init 1 = .ok (.invokespecial 3, 3) := by decide +kernel
theorem dX2_init_4 : decode cX2_init 4 = .ok (.aload_n 0, 1) := by decide +kernel
theorem dX2_init_5 : decode cX2_init 5 = .ok (.bipush 10, 2) := by decide +kernel
theorem dX2_init_7 : decode cX2_init 7 = .ok (.anewarray 9, 3) := by decide +kernel
theorem dX2_init_10 : decode cX2_init 10 = .ok (.putfield 11, 3) := by decide +kernel
theorem dX2_init_13 : decode cX2_init 13 = .ok (.iconst 0, 1) := by decide +kernel
theorem dX2_init_14 : decode cX2_init 14 = .ok (.istore_n 1, 1) := by decide +kernel
theorem dX2_init_15 : decode cX2_init 15 = .ok (.iload_n 1, 1) := by decide +kernel
theorem dX2_init_16 : decode cX2_init 16 = .ok (.bipush 10, 2) := by decide +kernel
theorem dX2_init_18 : decode cX2_init 18 = .ok (.if_icmp .ge 22, 3) := by decide +kernel
theorem dX2_init_21 : decode cX2_init 21 = .ok (.aload_n 0, 1) := by decide +kernel
theorem dX2_init_22 : decode cX2_init 22 = .ok (.getfield 11, 3) := by decide +kernel
theorem dX2_init_25 : decode cX2_init 25 = .ok (.iload_n 1, 1) := by decide +kernel
theorem dX2_init_26 : decode cX2_init 26 = .ok (.new 9, 3) := by decide +kernel
theorem dX2_init_29 : decode cX2_init 29 = .ok (.dup, 1) := by decide +kernel
theorem dX2_init_30 : decode cX2_init 30 = .ok (.invokespecial 17, 3) := by decide +kernel
theorem dX2_init_33 : decode cX2_init 33 = .ok (.aastore, 1) := by decide +kernel
theorem dX2_init_34 : decode cX2_init 34 = .ok (.iinc 1 1, 3) := by decide +kernel
theorem dX2_init_37 : decode cX2_init 37 = .ok (.goto (-22), 3) := by decide +kernel
theorem dX2_init_40 : decode cX2_init 40 = .ok (.return_, 1) := by decide +kernel
theorem dX2_clear_0 : decode cX2_clear 0 = .ok (.aload_n 0, 1) := by decide +kernel
theorem dX2_clear_1 : decode cX2_clear 1 = .ok (.iconst 0, 1) := by decide +kernel
theorem dX2_clear_2 : decode cX2_clear 2 = .ok (.putfield 18, 3) := by decide +kernel
theorem dX2_clear_5 : decode cX2_clear 5 = .ok (.return_, 1) := by decide +kernel
theorem dX2_remember_0 : decode cX2_remember 0 = .ok (.aload_n 0, 1) := by decide +kernel
theorem dX2_remember_1 : decode cX2_remember 1 = .ok (.getfield 11, 3) := by decide +kernel
theorem dX2_remember_4 : decode cX2_remember 4 = .ok (.aload_n 0, 1) := by decide +kernel
theorem dX2_remember_5 : decode cX2_remember 5 = .ok (.getfield 22, 3) := by decide +kernel
theorem dX2_remember_8 : decode cX2_remember 8 = .ok (.aaload, 1) := by decide +kernel
theorem dX2_remember_9 : decode cX2_remember 9 = .ok (.aload_n 1, 1) := by decide +kernel
theorem dX2_remember_10 : decode cX2_remember 10 = .ok (.invokevirtual 25, 3) := by decide +kernel
theorem dX2_remember_13 : decode cX2_remember 13 = .ok (.aload_n 0, 1) := by decide +kernel
theorem dX2_remember_14 : decode cX2_remember 14 = .ok (.aload_n 0, 1) := by decide +kernel
theorem dX2_remember_15 : decode cX2_remember 15 = .ok (.getfield 22, 3) := by decide +kernel
theorem dX2_remember_18 : decode cX2_remember 18 = .ok (.iconst 1, 1) := by decide +kernel
theorem dX2_remember_19 : decode cX2_remember 19 = .ok (.iadd, 1) := by decide +kernel
theorem dX2_remember_20 : decode cX2_remember 20 = .ok (.bipush 10, 2) := by decide +kernel
theorem dX2_remember_22 : decode cX2_remember 22 = .ok (.if_icmp .ge 12, 3) := by decide +kernel
theorem dX2_remember_25 : decode cX2_remember 25 = .ok (.aload_n 0, 1) := by decide +kernel
theorem dX2_remember_26 : decode cX2_remember 26 = .ok (.getfield 22, 3) := by decide +kernel
theorem dX2_remember_29 : decode cX2_remember 29 = .ok (.iconst 1, 1) := by decide +kernel
theorem dX2_remember_30 : decode cX2_remember 30 = .ok (.iadd, 1) := by decide +kernel
theorem dX2_remember_31 : decode cX2_remember 31 = .ok (.goto 4, 3) := by decide +kernel
theorem dX2_remember_34 : decode cX2_remember 34 = .ok (.iconst 0, 1) := by decide +kernel
theorem dX2_remember_35 : decode cX2_remember 35 = .ok (.putfield 22, 3) := by decide +kernel
theorem dX2_remember_38 : decode cX2_remember 38 = .ok (.aload_n 0, 1) := by decide +kernel
theorem dX2_remember_39 : decode cX2_remember 39 = .ok (.aload_n 0, 1) := by decide +kernel
theorem dX2_remember_40 : decode cX2_remember 40 = .ok (.getfield 18, 3) := by decide +kernel
theorem dX2_remember_43 : decode cX2_remember 43 = .ok (.iconst 1, 1) := by decide +kernel
theorem dX2_remember_44 : decode cX2_remember 44 = .ok (.iadd, 1) := by decide +kernel
theorem dX2_remember_45 : decode cX2_remember 45 = .ok (.bipush 10, 2) := by decide +kernel
theorem dX2_remember_47 : decode cX2_remember 47 = .ok (.invokestatic 29, 3) := by decide +kernel
theorem dX2_remember_50 : decode cX2_remember 50 = .ok (.putfield 18, 3) := by decide +kernel
theorem dX2_remember_53 : decode cX2_remember 53 = .ok (.return_, 1) := by decide +kernel
theorem dX2_restore_0 : decode cX2_restore 0 = .ok (.aload_n 0, 1) := by decide +kernel
theorem dX2_restore_1 : decode cX2_restore 1 = .ok (.aload_n 0, 1) := by decide +kernel
theorem dX2_restore_2 : decode cX2_restore 2 = .ok (.getfield 22, 3) := by decide +kernel
theorem dX2_restore_5 : decode cX2_restore 5 = .ok (.ifCond .le 12, 3) := by decide +kernel
theorem dX2_restore_8 : decode cX2_restore 8 = .ok (.aload_n 0, 1) := by decide +kernel
theorem dX2_restore_9 : decode cX2_restore 9 = .ok (.getfield 22, 3) := by decide +kernel
theorem dX2_restore_12 : decode cX2_restore 12 = .ok (.iconst 1, 1) := by decide +kernel
theorem dX2_restore_13 : decode cX2_restore 13 = .ok (.isub, 1) := by decide +kernel
theorem dX2_restore_14 : decode cX2_restore 14 = .ok (.goto 5, 3) := by decide +kernel
theorem dX2_restore_17 : decode cX2_restore 17 = .ok (.bipush 9, 2) := by decide +kernel
theorem dX2_restore_19 : decode cX2_restore 19 = .ok (.putfield 22, 3) := by decide +kernel
theorem dX2_restore_22 : decode cX2_restore 22 = .ok (.aload_n 0, 1) := by decide +kernel
theorem dX2_restore_23 : decode cX2_restore 23 = .ok (.dup, 1) := by decide +kernel
theorem dX2_restore_24 : decode cX2_restore 24 = .ok (.getfield 18, 3) := by decide +kernel
theorem dX2_restore_27 : decode cX2_restore 27 = .ok (.iconst 1, 1) := by decide +kernel
theorem dX2_restore_28 : decode cX2_restore 28 = .ok (.isub, 1) := by decide +kernel
theorem dX2_restore_29 : decode cX2_restore 29 = .ok (.putfield 18, 3) := by decide +kernel
theorem dX2_restore_32 : decode cX2_restore 32 = .ok (.aload_n 1, 1) := by decide +kernel
theorem dX2_restore_33 : decode cX2_restore 33 = .ok (.aload_n 0, 1) := by decide +kernel
theorem dX2_restore_34 : decode cX2_restore 34 = .ok (.getfield 11, 3) := by decide +kernel
theorem dX2_restore_37 : decode cX2_restore 37 = .ok (.aload_n 0, 1) := by decide +kernel
theorem dX2_restore_38 : decode cX2_restore 38 = .ok (.getfield 22, 3) := by decide +kernel
theorem dX2_restore_41 : decode cX2_restore 41 = .ok (.aaload, 1) := by decide +kernel
theorem dX2_restore_42 : decode cX2_restore 42 = .ok (.invokevirtual 25, 3) := by decide +kernel
theorem dX2_restore_45 : decode cX2_restore 45 = .ok (.return_, 1) := by decide +kernel
theorem dX3_init_0 : decode cX3_init 0 = .ok (.aload_n 0, 1) := by decide +kernel
theorem dX3_init_1 : decode cX3_init 1 = .ok (.invokespecial 1, 3) := by decide +kernel
theorem dX3_init_4 : decode cX3_init 4 = .ok (.aload_n 0, 1) := by decide +kernel
theorem dX3_init_5 : decode cX3_init 5 = .ok (.new 7, 3) := by decide +kernel
theorem dX3_init_8 : decode cX3_init 8 = .ok (.dup, 1) := by decide +kernel
theorem dX3_init_9 : decode cX3_init 9 = .ok (.invokespecial 9, 3) := by decide +kernel
theorem dX3_init_12 : decode cX3_init 12 = .ok (.putfield 10, 3) := by decide +kernel
theorem dX3_init_15 : decode cX3_init 15 = .ok (.aload_n 0, 1) := by decide +kernel
theorem dX3_init_16 : decode cX3_init 16 = .ok (.new 7, 3) := by decide +kernel
theorem dX3_init_19 : decode cX3_init 19 = .ok (.dup, 1) := by decide +kernel
theorem dX3_init_20 : decode cX3_init 20 = .ok (.invokespecial 9, 3) := by decide +kernel
theorem dX3_init_23 : decode cX3_init 23 = .ok (.putfield 16, 3) := by decide +kernel
theorem dX3_init_26 : decode cX3_init 26 = .ok (.return_, 1) := by decide +kernel
theorem dX3_clear_0 : decode cX3_clear 0 = .ok (.aload_n 0, 1) := by decide +kernel
theorem dX3_clear_1 : decode cX3_clear 1 = .ok (.getfield 10, 3) := by decide +kernel
theorem dX3_clear_4 : decode cX3_clear 4 = .ok (.invokevirtual 19, 3) := by decide +kernel
theorem dX3_clear_7 : decode cX3_clear 7 = .ok (.aload_n 0, 1) := by decide +kernel
theorem dX3_clear_8 : decode cX3_clear 8 = .ok (.getfield 16, 3) := by decide +kernel
theorem dX3_clear_11 : decode cX3_clear 11 = .ok (.invokevirtual 19, 3) := by decide +kernel
theorem dX3_clear_14 : decode cX3_clear 14 = .ok (.aload_n 0, 1) := by decide +kernel
theorem dX3_clear_15 : decode cX3_clear 15 = .ok (.iconst 0, 1) := by decide +kernel
theorem dX3_clear_16 : decode cX3_clear 16 = .ok (.putfield 22, 3) := by decide +kernel
theorem dX3_clear_19 : decode cX3_clear 19 = .ok (.return_, 1) := by decide +kernel
theorem dX3_offer_0 : decode cX3_offer 0 = .ok (.aload_n 0, 1) := by decide +kernel
theorem dX3_offer_1 : decode cX3_offer 1 = .ok (.getfield 22, 3) := by decide +kernel
theorem dX3_offer_4 : decode cX3_offer 4 = .ok (.iconst 1, 1) := by decide +kernel
theorem dX3_offer_5 : decode cX3_offer 5 = .ok (.iand, 1) := by decide +kernel
theorem dX3_offer_6 : decode cX3_offer 6 = .ok (.ifCond .ne 15, 3) := by decide +kernel
theorem dX3_offer_9 : decode cX3_offer 9 = .ok (.aload_n 0, 1) := by decide +kernel
theorem dX3_offer_10 : decode cX3_offer 10 = .ok (.getfield 10, 3) := by decide +kernel
theorem dX3_offer_13 : decode cX3_offer 13 = .ok (.iload_n 1, 1) := by decide +kernel
theorem dX3_offer_14 : decode cX3_offer 14 = .ok (.iload_n 2, 1) := by decide +kernel
theorem dX3_offer_15 : decode cX3_offer 15 = .ok (.invokevirtual 26, 3) := by decide +kernel
theorem dX3_offer_18 : decode cX3_offer 18 = .ok (.goto 12, 3) := by decide +kernel
theorem dX3_offer_21 : decode cX3_offer 21 = .ok (.aload_n 0, 1) := by decide +kernel
theorem dX3_offer_22 : decode cX3_offer 22 = .ok (.getfield 16, 3) := by decide +kernel
theorem dX3_offer_25 : decode cX3_offer 25 = .ok (.iload_n 1, 1) := by decide +kernel
theorem dX3_offer_26 : decode cX3_offer 26 = .ok (.iload_n 2, 1) := by decide +kernel
theorem dX3_offer_27 : decode cX3_offer 27 = .ok (.invokevirtual 26, 3) := by decide +kernel
theorem dX3_offer_30 : decode cX3_offer 30 = .ok (.aload_n 0, 1) := by decide +kernel
theorem dX3_offer_31 : decode cX3_offer 31 = .ok (.dup, 1) := by decide +kernel
theorem dX3_offer_32 : decode cX3_offer 32 = .ok (.getfield 22, 3) := by decide +kernel
theorem dX3_offer_35 : decode cX3_offer 35 = .ok (.iconst 1, 1) := by decide +kernel
theorem dX3_offer_36 : decode cX3_offer 36 = .ok (.iadd, 1) := by decide +kernel
theorem dX3_offer_37 : decode cX3_offer 37 = .ok (.putfield 22, 3) := by decide +kernel
theorem dX3_offer_40 : decode cX3_offer 40 = .ok (.return_, 1) := by decide +kernel
theorem dX3_best_0 : decode cX3_best 0 = .ok (.iconst 0, 1) := by decide +kernel
theorem dX3_best_1 : decode cX3_best 1 = .ok (.istore_n 2, 1) := by decide +kernel
theorem dX3_best_2 : decode cX3_best 2 = .ok (.aload_n 0, 1) := by decide +kernel
theorem dX3_best_3 : decode cX3_best 3 = .ok (.getfield 16, 3) := by decide +kernel
theorem dX3_best_6 : decode cX3_best 6 = .ok (.getfield 30, 3) := by decide +kernel
theorem dX3_best_9 : decode cX3_best 9 = .ok (.iconst 1, 1) := by decide +kernel
theorem dX3_best_10 : decode cX3_best 10 = .ok (.isub, 1) := by decide +kernel
theorem dX3_best_11 : decode cX3_best 11 = .ok (.istore_n 3, 1) := by decide +kernel
theorem dX3_best_12 : decode cX3_best 12 = .ok (.iconst 0, 1) := by decide +kernel
theorem dX3_best_13 : decode cX3_best 13 = .ok (.istore 4, 2) := by decide +kernel
theorem dX3_best_15 : decode cX3_best 15 = .ok (.iload 4, 2) := by decide +kernel
theorem dX3_best_17 : decode cX3_best 17 = .ok (.aload_n 0, 1) := by decide +kernel
theorem dX3_best_18 : decode cX3_best 18 = .ok (.getfield 10, 3) := by decide +kernel
theorem dX3_best_21 : decode cX3_best 21 = .ok (.getfield 30, 3) := by decide +kernel
theorem dX3_best_24 : decode cX3_best 24 = .ok (.if_icmp .ge 74, 3) := by decide +kernel
theorem dX3_best_27 : decode cX3_best 27 = .ok (.iload_n 3, 1) := by decide +kernel
theorem dX3_best_28 : decode cX3_best 28 = .ok (.ifCond .lt 33, 3) := by decide +kernel
theorem dX3_best_31 : decode cX3_best 31 = .ok (.aload_n 0, 1) := by decide +kernel
theorem dX3_best_32 : decode cX3_best 32 = .ok (.getfield 10, 3) := by decide +kernel
theorem dX3_best_35 : decode cX3_best 35 = .ok (.getfield 33, 3) := by decide +kernel
theorem dX3_best_38 : decode cX3_best 38 = .ok (.iload 4, 2) := by decide +kernel
theorem dX3_best_40 : decode cX3_best 40 = .ok (.iaload, 1) := by decide +kernel
theorem dX3_best_41 : decode cX3_best 41 = .ok (.aload_n 0, 1) := by decide +kernel
theorem dX3_best_42 : decode cX3_best 42 = .ok (.getfield 16, 3) := by decide +kernel
theorem dX3_best_45 : decode cX3_best 45 = .ok (.getfield 33, 3) := by decide +kernel
theorem dX3_best_48 : decode cX3_best 48 = .ok (.iload_n 3, 1) := by decide +kernel
theorem dX3_best_49 : decode cX3_best 49 = .ok (.iaload, 1) := by decide +kernel
theorem dX3_best_50 : decode cX3_best 50 = .ok (.iadd, 1) := by decide +kernel
theorem dX3_best_51 : decode cX3_best 51 = .ok (.iload_n 1, 1) := by decide +kernel
theorem dX3_best_52 : decode cX3_best 52 = .ok (.if_icmp .le 9, 3) := by decide +kernel
theorem dX3_best_55 : decode cX3_best 55 = .ok (.iinc 3 (-1), 3) := by decide +kernel
theorem dX3_best_58 : decode cX3_best 58 = .ok (.goto (-31), 3) := by decide +kernel
theorem dX3_best_61 : decode cX3_best 61 = .ok (.iload_n 3, 1) := by decide +kernel
theorem dX3_best_62 : decode cX3_best 62 = .ok (.ifCond .ge 5, 3) := by decide +kernel
theorem dX3_best_65 : decode cX3_best 65 = .ok (.iload_n 2, 1) := by decide +kernel
theorem dX3_best_66 : decode cX3_best 66 = .ok (.ireturn, 1) := by decide +kernel
theorem dX3_best_67 : decode cX3_best 67 = .ok (.iload_n 2, 1) := by decide +kernel
theorem dX3_best_68 : decode cX3_best 68 = .ok (.aload_n 0, 1) := by decide +kernel
theorem dX3_best_69 : decode cX3_best 69 = .ok (.getfield 10, 3) := by decide +kernel
theorem dX3_best_72 : decode cX3_best 72 = .ok (.getfield 37, 3) := by decide +kernel
theorem dX3_best_75 : decode cX3_best 75 = .ok (.iload 4, 2) := by decide +kernel
theorem dX3_best_77 : decode cX3_best 77 = .ok (.iaload, 1) := by decide +kernel
theorem dX3_best_78 : decode cX3_best 78 = .ok (.aload_n 0, 1) := by decide +kernel
theorem dX3_best_79 : decode cX3_best 79 = .ok (.getfield 16, 3) := by decide +kernel
theorem dX3_best_82 : decode cX3_best 82 = .ok (.getfield 37, 3) := by decide +kernel
theorem dX3_best_85 : decode cX3_best 85 = .ok (.iload_n 3, 1) := by decide +kernel
theorem dX3_best_86 : decode cX3_best 86 = .ok (.iaload, 1) := by decide +kernel
theorem dX3_best_87 : decode cX3_best 87 = .ok (.iadd, 1) := by decide +kernel
theorem dX3_best_88 : decode cX3_best 88 = .ok (.invokestatic 40, 3) := by decide +kernel
theorem dX3_best_91 : decode cX3_best 91 = .ok (.istore_n 2, 1) := by decide +kernel
theorem dX3_best_92 : decode cX3_best 92 = .ok (.iinc 4 1, 3) := by decide +kernel
theorem dX3_best_95 : decode cX3_best 95 = .ok (.goto (-80), 3) := by decide +kernel
theorem dX3_best_98 : decode cX3_best 98 = .ok (.iload_n 2, 1) := by decide +kernel
theorem dX3_best_99 : decode cX3_best 99 = .ok (.ireturn, 1) := by decide +kernel
theorem dX4_init_0 : decode cX4_init 0 = .ok (.aload_n 0, 1) := by decide +kernel
theorem dX4_init_1 : decode cX4_init 1 = .ok (.invokespecial 3, 3) := by decide +kernel
theorem dX4_init_4 : decode cX4_init 4 = .ok (.aload_n 0, 1) := by decide +kernel
theorem dX4_init_5 : decode cX4_init 5 = .ok (.sipush 192, 3) := by decide +kernel
theorem dX4_init_8 : decode cX4_init 8 = .ok (.newarray .int, 2) := by decide +kernel
theorem dX4_init_10 : decode cX4_init 10 = .ok (.putfield 9, 3) := by decide +kernel
theorem dX4_init_13 : decode cX4_init 13 = .ok (.aload_n 0, 1) := by decide +kernel
theorem dX4_init_14 : decode cX4_init 14 = .ok (.sipush 192, 3) := by decide +kernel
theorem dX4_init_17 : decode cX4_init 17 = .ok (.newarray .boolean, 2) := by decide +kernel
theorem dX4_init_19 : decode cX4_init 19 = .ok (.putfield 15, 3) := by decide +kernel
theorem dX4_init_22 : decode cX4_init 22 = .ok (.aload_n 0, 1) := by decide +kernel
theorem dX4_init_23 : decode cX4_init 23 = .ok (.bipush 12, 2) := by decide +kernel
theorem dX4_init_25 : decode cX4_init 25 = .ok (.newarray .int, 2) := by decide +kernel
theorem dX4_init_27 : decode cX4_init 27 = .ok (.putfield 19, 3) := by decide +kernel
theorem dX4_init_30 : decode cX4_init 30 = .ok (.aload_n 0, 1) := by decide +kernel
theorem dX4_init_31 : decode cX4_init 31 = .ok (.bipush 16, 2) := by decide +kernel
theorem dX4_init_33 : decode cX4_init 33 = .ok (.newarray .int, 2) := by decide +kernel
theorem dX4_init_35 : decode cX4_init 35 = .ok (.putfield 22, 3) := by decide +kernel
theorem dX4_init_38 : decode cX4_init 38 = .ok (.aload_n 0, 1) := by decide +kernel
theorem dX4_init_39 : decode cX4_init 39 = .ok (.bipush 12, 2) := by decide +kernel
theorem dX4_init_41 : decode cX4_init 41 = .ok (.newarray .int, 2) := by decide +kernel
theorem dX4_init_43 : decode cX4_init 43 = .ok (.putfield 25, 3) := by decide +kernel
theorem dX4_init_46 : decode cX4_init 46 = .ok (.aload_n 0, 1) := by decide +kernel
theorem dX4_init_47 : decode cX4_init 47 = .ok (.bipush 12, 2) := by decide +kernel
theorem dX4_init_49 : decode cX4_init 49 = .ok (.newarray .int, 2) := by decide +kernel
theorem dX4_init_51 : decode cX4_init 51 = .ok (.putfield 28, 3) := by decide +kernel
theorem dX4_init_54 : decode cX4_init 54 = .ok (.aload_n 0, 1) := by decide +kernel
theorem dX4_init_55 : decode cX4_init 55 = .ok (.bipush 16, 2) := by decide +kernel
theorem dX4_init_57 : decode cX4_init 57 = .ok (.newarray .int, 2) := by decide +kernel
theorem dX4_init_59 : decode cX4_init 59 = .ok (.putfield 31, 3) := by decide +kernel
theorem dX4_init_62 : decode cX4_init 62 = .ok (.aload_n 0, 1) := by decide +kernel
theorem dX4_init_63 : decode cX4_init 63 = .ok (.bipush 16, 2) := by decide +kernel
theorem dX4_init_65 : decode cX4_init 65 = .ok (.newarray .int, 2) := by decide +kernel
theorem dX4_init_67 : decode cX4_init 67 = .ok (.putfield 34, 3) := by decide +kernel
theorem dX4_init_70 : decode cX4_init 70 = .ok (.return_, 1) := by decide +kernel
theorem dX4_solve_0 : decode cX4_solve 0 = .ok (.aload_n 0, 1) := by decide +kernel
theorem dX4_solve_1 : decode cX4_solve 1 = .ok (.aload_n 1, 1) := by decide +kernel
theorem dX4_solve_2 : decode cX4_solve 2 = .ok (.aload_n 2, 1) := by decide +kernel
theorem dX4_solve_3 : decode cX4_solve 3 = .ok (.iload_n 3, 1) := by decide +kernel
theorem dX4_solve_4 : decode cX4_solve 4 = .ok (.invokevirtual 37, 3) := by decide +kernel
theorem dX4_solve_7 : decode cX4_solve 7 = .ok (.iconst 0, 1) := by decide +kernel
theorem dX4_solve_8 : decode cX4_solve 8 = .ok (.istore 4, 2) := by decide +kernel
theorem dX4_solve_10 : decode cX4_solve 10 = .ok (.iload 4, 2) := by decide +kernel
theorem dX4_solve_12 : decode cX4_solve 12 = .ok (.bipush 64, 2) := by decide +kernel
theorem dX4_solve_14 : decode cX4_solve 14 = .ok (.if_icmp .ge 58, 3) := by decide +kernel
theorem dX4_solve_17 : decode cX4_solve 17 = .ok (.aload_n 0, 1) := by decide +kernel
theorem dX4_solve_18 : decode cX4_solve 18 = .ok (.invokevirtual 41, 3) := by decide +kernel
theorem dX4_solve_21 : decode cX4_solve 21 = .ok (.aload_n 0, 1) := by decide +kernel
theorem dX4_solve_22 : decode cX4_solve 22 = .ok (.invokevirtual 44, 3) := by decide +kernel
theorem dX4_solve_25 : decode cX4_solve 25 = .ok (.istore 5, 2) := by decide +kernel
theorem dX4_solve_27 : decode cX4_solve 27 = .ok (.iload 5, 2) := by decide +kernel
theorem dX4_solve_29 : decode cX4_solve 29 = .ok (.iconst (-1), 1) := by decide +kernel
theorem dX4_solve_30 : decode cX4_solve 30 = .ok (.if_icmp .ne 4, 3) := by decide +kernel
theorem dX4_solve_33 : decode cX4_solve 33 = .ok (.return_, 1) := by decide +kernel
theorem dX4_solve_34 : decode cX4_solve 34 = .ok (.aload_n 0, 1) := by decide +kernel
theorem dX4_solve_35 : decode cX4_solve 35 = .ok (.dup, 1) := by decide +kernel
theorem dX4_solve_36 : decode cX4_solve 36 = .ok (.getfield 48, 3) := by decide +kernel
theorem dX4_solve_39 : decode cX4_solve 39 = .ok (.iconst 1, 1) := by decide +kernel
theorem dX4_solve_40 : decode cX4_solve 40 = .ok (.iadd, 1) := by decide +kernel
theorem dX4_solve_41 : decode cX4_solve 41 = .ok (.putfield 48, 3) := by decide +kernel
theorem dX4_solve_44 : decode cX4_solve 44 = .ok (.aload_n 0, 1) := by decide +kernel
theorem dX4_solve_45 : decode cX4_solve 45 = .ok (.dup, 1) := by decide +kernel
theorem dX4_solve_46 : decode cX4_solve 46 = .ok (.getfield 52, 3) := by decide +kernel
theorem dX4_solve_49 : decode cX4_solve 49 = .ok (.aload_n 0, 1) := by decide +kernel
theorem dX4_solve_50 : decode cX4_solve 50 = .ok (.getfield 25, 3) := by decide +kernel
theorem dX4_solve_53 : decode cX4_solve 53 = .ok (.iload 5, 2) := by decide +kernel
theorem dX4_solve_55 : decode cX4_solve 55 = .ok (.iaload, 1) := by decide +kernel
theorem dX4_solve_56 : decode cX4_solve 56 = .ok (.iadd, 1) := by decide +kernel
theorem dX4_solve_57 : decode cX4_solve 57 = .ok (.putfield 52, 3) := by decide +kernel
theorem dX4_solve_60 : decode cX4_solve 60 = .ok (.aload_n 0, 1) := by decide +kernel
theorem dX4_solve_61 : decode cX4_solve 61 = .ok (.iload 5, 2) := by decide +kernel
theorem dX4_solve_63 : decode cX4_solve 63 = .ok (.invokevirtual 55, 3) := by decide +kernel
theorem dX4_solve_66 : decode cX4_solve 66 = .ok (.iinc 4 1, 3) := by decide +kernel
theorem dX4_solve_69 : decode cX4_solve 69 = .ok (.goto (-59), 3) := by decide +kernel
theorem dX4_solve_72 : decode cX4_solve 72 = .ok (.return_, 1) := by decide +kernel
theorem dX4_prepare_0 : decode cX4_prepare 0 = .ok (.aload_n 0, 1) := by decide +kernel
theorem dX4_prepare_1 : decode cX4_prepare 1 = .ok (.iconst 0, 1) := by decide +kernel
theorem dX4_prepare_2 : decode cX4_prepare 2 = .ok (.putfield 48, 3) := by decide +kernel
theorem dX4_prepare_5 : decode cX4_prepare 5 = .ok (.aload_n 0, 1) := by decide +kernel
theorem dX4_prepare_6 : decode cX4_prepare 6 = .ok (.iconst 0, 1) := by decide +kernel
theorem dX4_prepare_7 : decode cX4_prepare 7 = .ok (.putfield 52, 3) := by decide +kernel
theorem dX4_prepare_10 : decode cX4_prepare 10 = .ok (.aload_n 0, 1) := by decide +kernel
theorem dX4_prepare_11 : decode cX4_prepare 11 = .ok (.aload_n 1, 1) := by decide +kernel
theorem dX4_prepare_12 : decode cX4_prepare 12 = .ok (.getfield 59, 3) := by decide +kernel
theorem dX4_prepare_15 : decode cX4_prepare 15 = .ok (.putfield 64, 3) := by decide +kernel
theorem dX4_prepare_18 : decode cX4_prepare 18 = .ok (.aload_n 0, 1) := by decide +kernel
theorem dX4_prepare_19 : decode cX4_prepare 19 = .ok (.aload_n 1, 1) := by decide +kernel
theorem dX4_prepare_20 : decode cX4_prepare 20 = .ok (.getfield 65, 3) := by decide +kernel
theorem dX4_prepare_23 : decode cX4_prepare 23 = .ok (.putfield 68, 3) := by decide +kernel
theorem dX4_prepare_26 : decode cX4_prepare 26 = .ok (.iconst 0, 1) := by decide +kernel
theorem dX4_prepare_27 : decode cX4_prepare 27 = .ok (.istore 4, 2) := by decide +kernel
theorem dX4_prepare_29 : decode cX4_prepare 29 = .ok (.iload 4, 2) := by decide +kernel
theorem dX4_prepare_31 : decode cX4_prepare 31 = .ok (.aload_n 0, 1) := by decide +kernel
theorem dX4_prepare_32 : decode cX4_prepare 32 = .ok (.getfield 64, 3) := by decide +kernel
theorem dX4_prepare_35 : decode cX4_prepare 35 = .ok (.if_icmp .ge 23, 3) := by decide +kernel
theorem dX4_prepare_38 : decode cX4_prepare 38 = .ok (.aload_n 0, 1) := by decide +kernel
theorem dX4_prepare_39 : decode cX4_prepare 39 = .ok (.getfield 19, 3) := by decide +kernel
theorem dX4_prepare_42 : decode cX4_prepare 42 = .ok (.iload 4, 2) := by decide +kernel
theorem dX4_prepare_44 : decode cX4_prepare 44 = .ok (.aload_n 1, 1) := by decide +kernel
theorem dX4_prepare_45 : decode cX4_prepare 45 = .ok (.getfield 69, 3) := by decide +kernel
theorem dX4_prepare_48 : decode cX4_prepare 48 = .ok (.iload 4, 2) := by decide +kernel
theorem dX4_prepare_50 : decode cX4_prepare 50 = .ok (.iaload, 1) := by decide +kernel
theorem dX4_prepare_51 : decode cX4_prepare 51 = .ok (.iastore, 1) := by decide +kernel
theorem dX4_prepare_52 : decode cX4_prepare 52 = .ok (.iinc 4 1, 3) := by decide +kernel
theorem dX4_prepare_55 : decode cX4_prepare 55 = .ok (.goto (-26), 3) := by decide +kernel
theorem dX4_prepare_58 : decode cX4_prepare 58 = .ok (.iconst 0, 1) := by decide +kernel
theorem dX4_prepare_59 : decode cX4_prepare 59 = .ok (.istore 4, 2) := by decide +kernel
theorem dX4_prepare_61 : decode cX4_prepare 61 = .ok (.iload 4, 2) := by decide +kernel
theorem dX4_prepare_63 : decode cX4_prepare 63 = .ok (.aload_n 0, 1) := by decide +kernel
theorem dX4_prepare_64 : decode cX4_prepare 64 = .ok (.getfield 68, 3) := by decide +kernel
theorem dX4_prepare_67 : decode cX4_prepare 67 = .ok (.if_icmp .ge 131, 3) := by decide +kernel
theorem dX4_prepare_70 : decode cX4_prepare 70 = .ok (.aload_n 1, 1) := by decide +kernel
theorem dX4_prepare_71 : decode cX4_prepare 71 = .ok (.getfield 72, 3) := by decide +kernel
theorem dX4_prepare_74 : decode cX4_prepare 74 = .ok (.iload 4, 2) := by decide +kernel
theorem dX4_prepare_76 : decode cX4_prepare 76 = .ok (.iaload, 1) := by decide +kernel
theorem dX4_prepare_77 : decode cX4_prepare 77 = .ok (.iload_n 3, 1) := by decide +kernel
theorem dX4_prepare_78 : decode cX4_prepare 78 = .ok (.if_icmp .ne 7, 3) := by decide +kernel
theorem dX4_prepare_81 : decode cX4_prepare 81 = .ok (.iconst 1, 1) := by decide +kernel
theorem dX4_prepare_82 : decode cX4_prepare 82 = .ok (.goto 4, 3) := by decide +kernel
theorem dX4_prepare_85 : decode cX4_prepare 85 = .ok (.iconst 0, 1) := by decide +kernel
theorem dX4_prepare_86 : decode cX4_prepare 86 = .ok (.istore 5, 2) := by decide +kernel
theorem dX4_prepare_88 : decode cX4_prepare 88 = .ok (.aload_n 0, 1) := by decide +kernel
theorem dX4_prepare_89 : decode cX4_prepare 89 = .ok (.getfield 22, 3) := by decide +kernel
theorem dX4_prepare_92 : decode cX4_prepare 92 = .ok (.iload 4, 2) := by decide +kernel
theorem dX4_prepare_94 : decode cX4_prepare 94 = .ok (.iload 5, 2) := by decide +kernel
theorem dX4_prepare_96 : decode cX4_prepare 96 = .ok (.ifCond .eq 10, 3) := by decide +kernel
theorem dX4_prepare_99 : decode cX4_prepare 99 = .ok (.aload_n 1, 1) := by decide +kernel
theorem dX4_prepare_100 : decode cX4_prepare 100 = .ok (.getfield 75, 3) := by decide +kernel
theorem dX4_prepare_103 : decode cX4_prepare 103 = .ok (.goto 4, 3) := by decide +kernel
theorem dX4_prepare_106 : decode cX4_prepare 106 = .ok (.iconst 0, 1) := by decide +kernel
theorem dX4_prepare_107 : decode cX4_prepare 107 = .ok (.iastore, 1) := by decide +kernel
theorem dX4_prepare_108 : decode cX4_prepare 108 = .ok (.iconst 0, 1) := by decide +kernel
theorem dX4_prepare_109 : decode cX4_prepare 109 = .ok (.istore 6, 2) := by decide +kernel
theorem dX4_prepare_111 : decode cX4_prepare 111 = .ok (.iload 6, 2) := by decide +kernel
theorem dX4_prepare_113 : decode cX4_prepare 113 = .ok (.aload_n 0, 1) := by decide +kernel
theorem dX4_prepare_114 : decode cX4_prepare 114 = .ok (.getfield 64, 3) := by decide +kernel
theorem dX4_prepare_117 : decode cX4_prepare 117 = .ok (.if_icmp .ge 75, 3) := by decide +kernel
theorem dX4_prepare_120 : decode cX4_prepare 120 = .ok (.iload 5, 2) := by decide +kernel
theorem dX4_prepare_122 : decode cX4_prepare 122 = .ok (.ifCond .eq 19, 3) := by decide +kernel
theorem dX4_prepare_125 : decode cX4_prepare 125 = .ok (.aload_n 1, 1) := by decide +kernel
theorem dX4_prepare_126 : decode cX4_prepare 126 = .ok (.aload_n 2, 1) := by decide +kernel
theorem dX4_prepare_127 : decode cX4_prepare 127 = .ok (.iload 6, 2) := by decide +kernel
theorem dX4_prepare_129 : decode cX4_prepare 129 = .ok (.iload 4, 2) := by decide +kernel
theorem dX4_prepare_131 : decode cX4_prepare 131 = .ok (.invokestatic 78, 3) := by decide +kernel
theorem dX4_prepare_134 : decode cX4_prepare 134 = .ok (.ifCond .eq 7, 3) := by decide +kernel
theorem dX4_prepare_137 : decode cX4_prepare 137 = .ok (.iconst 1, 1) := by decide +kernel
theorem dX4_prepare_138 : decode cX4_prepare 138 = .ok (.goto 4, 3) := by decide +kernel
theorem dX4_prepare_141 : decode cX4_prepare 141 = .ok (.iconst 0, 1) := by decide +kernel
theorem dX4_prepare_142 : decode cX4_prepare 142 = .ok (.istore 7, 2) := by decide +kernel
theorem dX4_prepare_144 : decode cX4_prepare 144 = .ok (.aload_n 0, 1) := by decide +kernel
theorem dX4_prepare_145 : decode cX4_prepare 145 = .ok (.getfield 9, 3) := by decide +kernel
theorem dX4_prepare_148 : decode cX4_prepare 148 = .ok (.iload 6, 2) := by decide +kernel
theorem dX4_prepare_150 : decode cX4_prepare 150 = .ok (.iload 4, 2) := by decide +kernel
theorem dX4_prepare_152 : decode cX4_prepare 152 = .ok (.invokestatic 82, 3) := by decide +kernel
theorem dX4_prepare_155 : decode cX4_prepare 155 = .ok (.iload 7, 2) := by decide +kernel
theorem dX4_prepare_157 : decode cX4_prepare 157 = .ok (.ifCond .eq 14, 3) := by decide +kernel
theorem dX4_prepare_160 : decode cX4_prepare 160 = .ok (.aload_n 1, 1) := by decide +kernel
theorem dX4_prepare_161 : decode cX4_prepare 161 = .ok (.iload 6, 2) := by decide +kernel
theorem dX4_prepare_163 : decode cX4_prepare 163 = .ok (.iload 4, 2) := by decide +kernel
theorem dX4_prepare_165 : decode cX4_prepare 165 = .ok (.invokevirtual 86, 3) := by decide +kernel
theorem dX4_prepare_168 : decode cX4_prepare 168 = .ok (.goto 4, 3) := by decide +kernel
theorem dX4_prepare_171 : decode cX4_prepare 171 = .ok (.iconst (-1), 1) := by decide +kernel
theorem dX4_prepare_172 : decode cX4_prepare 172 = .ok (.iastore, 1) := by decide +kernel
theorem dX4_prepare_173 : decode cX4_prepare 173 = .ok (.aload_n 0, 1) := by decide +kernel
theorem dX4_prepare_174 : decode cX4_prepare 174 = .ok (.getfield 15, 3) := by decide +kernel
theorem dX4_prepare_177 : decode cX4_prepare 177 = .ok (.iload 6, 2) := by decide +kernel
theorem dX4_prepare_179 : decode cX4_prepare 179 = .ok (.iload 4, 2) := by decide +kernel
theorem dX4_prepare_181 : decode cX4_prepare 181 = .ok (.invokestatic 82, 3) := by decide +kernel
theorem dX4_prepare_184 : decode cX4_prepare 184 = .ok (.iconst 0, 1) := by decide +kernel
theorem dX4_prepare_185 : decode cX4_prepare 185 = .ok (.bastore, 1) := by decide +kernel
theorem dX4_prepare_186 : decode cX4_prepare 186 = .ok (.iinc 6 1, 3) := by decide +kernel
theorem dX4_prepare_189 : decode cX4_prepare 189 = .ok (.goto (-78), 3) := by decide +kernel
theorem dX4_prepare_192 : decode cX4_prepare 192 = .ok (.iinc 4 1, 3) := by decide +kernel
theorem dX4_prepare_195 : decode cX4_prepare 195 = .ok (.goto (-134), 3) := by decide +kernel
theorem dX4_prepare_198 : decode cX4_prepare 198 = .ok (.return_, 1) := by decide +kernel
theorem dX4_findPaths_0 : decode cX4_findPaths 0 = .ok (.aload_n 0, 1) := by decide +kernel
theorem dX4_findPaths_1 : decode cX4_findPaths 1 = .ok (.getfield 25, 3) := by decide +kernel
theorem dX4_findPaths_4 : decode cX4_findPaths 4 = .ok (.ldc 89, 2) := by decide +kernel
theorem dX4_findPaths_6 : decode cX4_findPaths 6 = .ok (.invokestatic 90, 3) := by decide +kernel
theorem dX4_findPaths_9 : decode cX4_findPaths 9 = .ok (.aload_n 0, 1) := by decide +kernel
theorem dX4_findPaths_10 : decode cX4_findPaths 10 = .ok (.getfield 28, 3) := by decide +kernel
theorem dX4_findPaths_13 : decode cX4_findPaths 13 = .ok (.iconst (-1), 1) := by decide +kernel
theorem dX4_findPaths_14 : decode cX4_findPaths 14 = .ok (.invokestatic 90, 3) := by decide +kernel
theorem dX4_findPaths_17 : decode cX4_findPaths 17 = .ok (.aload_n 0, 1) := by decide +kernel
theorem dX4_findPaths_18 : decode cX4_findPaths 18 = .ok (.getfield 34, 3) := by decide +kernel
theorem dX4_findPaths_21 : decode cX4_findPaths 21 = .ok (.iconst (-1), 1) := by decide +kernel
theorem dX4_findPaths_22 : decode cX4_findPaths 22 = .ok (.invokestatic 90, 3) := by decide +kernel
theorem dX4_findPaths_25 : decode cX4_findPaths 25 = .ok (.iconst 0, 1) := by decide +kernel
theorem dX4_findPaths_26 : decode cX4_findPaths 26 = .ok (.istore_n 1, 1) := by decide +kernel
theorem dX4_findPaths_27 : decode cX4_findPaths 27 = .ok (.iload_n 1, 1) := by decide +kernel
theorem dX4_findPaths_28 : decode cX4_findPaths 28 = .ok (.aload_n 0, 1) := by decide +kernel
theorem dX4_findPaths_29 : decode cX4_findPaths 29 = .ok (.getfield 68, 3) := by decide +kernel
theorem dX4_findPaths_32 : decode cX4_findPaths 32 = .ok (.if_icmp .ge 30, 3) := by decide +kernel
theorem dX4_findPaths_35 : decode cX4_findPaths 35 = .ok (.aload_n 0, 1) := by decide +kernel
theorem dX4_findPaths_36 : decode cX4_findPaths 36 = .ok (.getfield 31, 3) := by decide +kernel
theorem dX4_findPaths_39 : decode cX4_findPaths 39 = .ok (.iload_n 1, 1) := by decide +kernel
theorem dX4_findPaths_40 : decode cX4_findPaths 40 = .ok (.aload_n 0, 1) := by decide +kernel
theorem dX4_findPaths_41 : decode cX4_findPaths 41 = .ok (.getfield 22, 3) := by decide +kernel
theorem dX4_findPaths_44 : decode cX4_findPaths 44 = .ok (.iload_n 1, 1) := by decide +kernel
theorem dX4_findPaths_45 : decode cX4_findPaths 45 = .ok (.iaload, 1) := by decide +kernel
theorem dX4_findPaths_46 : decode cX4_findPaths 46 = .ok (.ifCond .le 7, 3) := by decide +kernel
theorem dX4_findPaths_49 : decode cX4_findPaths 49 = .ok (.iconst 0, 1) := by decide +kernel
theorem dX4_findPaths_50 : decode cX4_findPaths 50 = .ok (.goto 5, 3) := by decide +kernel
theorem dX4_findPaths_53 : decode cX4_findPaths 53 = .ok (.ldc 89, 2) := by decide +kernel
theorem dX4_findPaths_55 : decode cX4_findPaths 55 = .ok (.iastore, 1) := by decide +kernel
theorem dX4_findPaths_56 : decode cX4_findPaths 56 = .ok (.iinc 1 1, 3) := by decide +kernel
theorem dX4_findPaths_59 : decode cX4_findPaths 59 = .ok (.goto (-32), 3) := by decide +kernel
theorem dX4_findPaths_62 : decode cX4_findPaths 62 = .ok (.iconst 0, 1) := by decide +kernel
theorem dX4_findPaths_63 : decode cX4_findPaths 63 = .ok (.istore_n 1, 1) := by decide +kernel
theorem dX4_findPaths_64 : decode cX4_findPaths 64 = .ok (.iload_n 1, 1) := by decide +kernel
theorem dX4_findPaths_65 : decode cX4_findPaths 65 = .ok (.bipush 12, 2) := by decide +kernel
theorem dX4_findPaths_67 : decode cX4_findPaths 67 = .ok (.if_icmp .gt 24, 3) := by decide +kernel
theorem dX4_findPaths_70 : decode cX4_findPaths 70 = .ok (.aload_n 0, 1) := by decide +kernel
theorem dX4_findPaths_71 : decode cX4_findPaths 71 = .ok (.invokevirtual 96, 3) := by decide +kernel
theorem dX4_findPaths_74 : decode cX4_findPaths 74 = .ok (.ifCond .eq 10, 3) := by decide +kernel
theorem dX4_findPaths_77 : decode cX4_findPaths 77 = .ok (.aload_n 0, 1) := by decide +kernel
theorem dX4_findPaths_78 : decode cX4_findPaths 78 = .ok (.invokevirtual 100, 3) := by decide +kernel
theorem dX4_findPaths_81 : decode cX4_findPaths 81 = .ok (.ifCond .ne 4, 3) := by decide +kernel
theorem dX4_findPaths_84 : decode cX4_findPaths 84 = .ok (.return_, 1) := by decide +kernel
theorem dX4_findPaths_85 : decode cX4_findPaths 85 = .ok (.iinc 1 1, 3) := by decide +kernel
theorem dX4_findPaths_88 : decode cX4_findPaths 88 = .ok (.goto (-24), 3) := by decide +kernel
theorem dX4_findPaths_91 : decode cX4_findPaths 91 = .ok (.return_, 1) := by decide +kernel
theorem dX4_reachReviewers_0 : decode cX4_reachReviewers 0 = .ok (.iconst 0, 1) := by decide +kernel
theorem dX4_reachReviewers_1 : decode cX4_reachReviewers 1 = .ok (.istore_n 1, 1) := by decide +kernel
theorem dX4_reachReviewers_2 : decode cX4_reachReviewers 2 = .ok (.iconst 0, 1) := by decide +kernel
theorem dX4_reachReviewers_3 : decode cX4_reachReviewers 3 = .ok (.istore_n 2, 1) := by decide +kernel
theorem dX4_reachReviewers_4 : decode cX4_reachReviewers 4 = .ok (.iload_n 2, 1) := by decide +kernel
theorem dX4_reachReviewers_5 : decode cX4_reachReviewers 5 = .ok (.aload_n 0, 1) := by decide +kernel
theorem dX4_reachReviewers_6 : decode cX4_reachReviewers 6 = .ok (.getfield 68, 3) := by decide +kernel
theorem dX4_reachReviewers_9 : decode cX4_reachReviewers 9 = .ok (.if_icmp .ge 116, 3) := by decide +kernel
theorem dX4_reachReviewers_12 : decode cX4_reachReviewers 12 = .ok (.iconst 0, 1) := by decide +kernel
theorem dX4_reachReviewers_13 : decode cX4_reachReviewers 13 = .ok (.istore_n 3, 1) := by decide +kernel
theorem dX4_reachReviewers_14 : decode cX4_reachReviewers 14 = .ok (.iload_n 3, 1) := by decide +kernel
theorem dX4_reachReviewers_15 : decode cX4_reachReviewers 15 = .ok (.aload_n 0, 1) := by decide +kernel
theorem dX4_reachReviewers_16 : decode cX4_reachReviewers 16 = .ok (.getfield 64, 3) := by decide +kernel
theorem dX4_reachReviewers_19 : decode cX4_reachReviewers 19 = .ok (.if_icmp .ge 100, 3) := by decide +kernel
theorem dX4_reachReviewers_22 : decode cX4_reachReviewers 22 = .ok (.aload_n 0, 1) := by decide +kernel
theorem dX4_reachReviewers_23 : decode cX4_reachReviewers 23 = .ok (.getfield 31, 3) := by decide +kernel
theorem dX4_reachReviewers_26 : decode cX4_reachReviewers 26 = .ok (.iload_n 2, 1) := by decide +kernel
theorem dX4_reachReviewers_27 : decode cX4_reachReviewers 27 = .ok (.iaload, 1) := by decide +kernel
theorem dX4_reachReviewers_28 : decode cX4_reachReviewers 28 = .ok (.ldc 89, 2) := by decide +kernel
theorem dX4_reachReviewers_30 : decode cX4_reachReviewers 30 = .ok (.if_icmp .eq 89, 3) := by decide +kernel
theorem dX4_reachReviewers_33 : decode cX4_reachReviewers 33 = .ok (.iload_n 3, 1) := by decide +kernel
theorem dX4_reachReviewers_34 : decode cX4_reachReviewers 34 = .ok (.iload_n 2, 1) := by decide +kernel
theorem dX4_reachReviewers_35 : decode cX4_reachReviewers 35 = .ok (.invokestatic 82, 3) := by decide +kernel
theorem dX4_reachReviewers_38 : decode cX4_reachReviewers 38 = .ok (.istore 4, 2) := by decide +kernel
theorem dX4_reachReviewers_40 : decode cX4_reachReviewers 40 = .ok (.aload_n 0, 1) := by decide +kernel
theorem dX4_reachReviewers_41 : decode cX4_reachReviewers 41 = .ok (.getfield 9, 3) := by decide +kernel
theorem dX4_reachReviewers_44 : decode cX4_reachReviewers 44 = .ok (.iload 4, 2) := by decide +kernel
theorem dX4_reachReviewers_46 : decode cX4_reachReviewers 46 = .ok (.iaload, 1) := by decide +kernel
theorem dX4_reachReviewers_47 : decode cX4_reachReviewers 47 = .ok (.iconst (-1), 1) := by decide +kernel
theorem dX4_reachReviewers_48 : decode cX4_reachReviewers 48 = .ok (.if_icmp .eq 65, 3) := by decide +kernel
theorem dX4_reachReviewers_51 : decode cX4_reachReviewers 51 = .ok (.aload_n 0, 1) := by decide +kernel
theorem dX4_reachReviewers_52 : decode cX4_reachReviewers 52 = .ok (.getfield 15, 3) := by decide +kernel
theorem dX4_reachReviewers_55 : decode cX4_reachReviewers 55 = .ok (.iload 4, 2) := by decide +kernel
theorem dX4_reachReviewers_57 : decode cX4_reachReviewers 57 = .ok (.baload, 1) := by decide +kernel
theorem dX4_reachReviewers_58 : decode cX4_reachReviewers 58 = .ok (.ifCond .ne 55, 3) := by decide +kernel
theorem dX4_reachReviewers_61 : decode cX4_reachReviewers 61 = .ok (.aload_n 0, 1) := by decide +kernel
theorem dX4_reachReviewers_62 : decode cX4_reachReviewers 62 = .ok (.getfield 31, 3) := by decide +kernel
theorem dX4_reachReviewers_65 : decode cX4_reachReviewers 65 = .ok (.iload_n 2, 1) := by decide +kernel
theorem dX4_reachReviewers_66 : decode cX4_reachReviewers 66 = .ok (.iaload, 1) := by decide +kernel
theorem dX4_reachReviewers_67 : decode cX4_reachReviewers 67 = .ok (.aload_n 0, 1) := by decide +kernel
theorem dX4_reachReviewers_68 : decode cX4_reachReviewers 68 = .ok (.getfield 9, 3) := by decide +kernel
theorem dX4_reachReviewers_71 : decode cX4_reachReviewers 71 = .ok (.iload 4, 2) := by decide +kernel
theorem dX4_reachReviewers_73 : decode cX4_reachReviewers 73 = .ok (.iaload, 1) := by decide +kernel
theorem dX4_reachReviewers_74 : decode cX4_reachReviewers 74 = .ok (.iadd, 1) := by decide +kernel
theorem dX4_reachReviewers_75 : decode cX4_reachReviewers 75 = .ok (.aload_n 0, 1) := by decide +kernel
theorem dX4_reachReviewers_76 : decode cX4_reachReviewers 76 = .ok (.getfield 25, 3) := by decide +kernel
theorem dX4_reachReviewers_79 : decode cX4_reachReviewers 79 = .ok (.iload_n 3, 1) := by decide +kernel
theorem dX4_reachReviewers_80 : decode cX4_reachReviewers 80 = .ok (.iaload, 1) := by decide +kernel
theorem dX4_reachReviewers_81 : decode cX4_reachReviewers 81 = .ok (.if_icmp .le 32, 3) := by decide +kernel
theorem dX4_reachReviewers_84 : decode cX4_reachReviewers 84 = .ok (.aload_n 0, 1) := by decide +kernel
theorem dX4_reachReviewers_85 : decode cX4_reachReviewers 85 = .ok (.getfield 25, 3) := by decide +kernel
theorem dX4_reachReviewers_88 : decode cX4_reachReviewers 88 = .ok (.iload_n 3, 1) := by decide +kernel
theorem dX4_reachReviewers_89 : decode cX4_reachReviewers 89 = .ok (.aload_n 0, 1) := by decide +kernel
theorem dX4_reachReviewers_90 : decode cX4_reachReviewers 90 = .ok (.getfield 31, 3) := by decide +kernel
theorem dX4_reachReviewers_93 : decode cX4_reachReviewers 93 = .ok (.iload_n 2, 1) := by decide +kernel
theorem dX4_reachReviewers_94 : decode cX4_reachReviewers 94 = .ok (.iaload, 1) := by decide +kernel
theorem dX4_reachReviewers_95 : decode cX4_reachReviewers 95 = .ok (.aload_n 0, 1) := by decide +kernel
theorem dX4_reachReviewers_96 : decode cX4_reachReviewers 96 = .ok (.getfield 9, 3) := by decide +kernel
theorem dX4_reachReviewers_99 : decode cX4_reachReviewers 99 = .ok (.iload 4, 2) := by decide +kernel
theorem dX4_reachReviewers_101 : decode cX4_reachReviewers 101 = .ok (.iaload, 1) := by decide +kernel
theorem dX4_reachReviewers_102 : decode cX4_reachReviewers 102 = .ok (.iadd, 1) := by decide +kernel
theorem dX4_reachReviewers_103 : decode cX4_reachReviewers 103 = .ok (.iastore, 1) := by decide +kernel
theorem dX4_reachReviewers_104 : decode cX4_reachReviewers 104 = .ok (.aload_n 0, 1) := by decide +kernel
theorem dX4_reachReviewers_105 : decode cX4_reachReviewers 105 = .ok (.getfield 28, 3) := by decide +kernel
theorem dX4_reachReviewers_108 : decode cX4_reachReviewers 108 = .ok (.iload_n 3, 1) := by decide +kernel
theorem dX4_reachReviewers_109 : decode cX4_reachReviewers 109 = .ok (.iload_n 2, 1) := by decide +kernel
theorem dX4_reachReviewers_110 : decode cX4_reachReviewers 110 = .ok (.iastore, 1) := by decide +kernel
theorem dX4_reachReviewers_111 : decode cX4_reachReviewers 111 = .ok (.iconst 1, 1) := by decide +kernel
theorem dX4_reachReviewers_112 : decode cX4_reachReviewers 112 = .ok (.istore_n 1, 1) := by decide +kernel
theorem dX4_reachReviewers_113 : decode cX4_reachReviewers 113 = .ok (.iinc 3 1, 3) := by decide +kernel
theorem dX4_reachReviewers_116 : decode cX4_reachReviewers 116 = .ok (.goto (-102), 3) := by decide +kernel
theorem dX4_reachReviewers_119 : decode cX4_reachReviewers 119 = .ok (.iinc 2 1, 3) := by decide +kernel
theorem dX4_reachReviewers_122 : decode cX4_reachReviewers 122 = .ok (.goto (-118), 3) := by decide +kernel
theorem dX4_reachReviewers_125 : decode cX4_reachReviewers 125 = .ok (.iload_n 1, 1) := by decide +kernel
theorem dX4_reachReviewers_126 : decode cX4_reachReviewers 126 = .ok (.ireturn, 1) := by decide +kernel
theorem dX4_reachProposals_0 : decode cX4_reachProposals 0 = .ok (.iconst 0, 1) := by decide +kernel
theorem dX4_reachProposals_1 : decode cX4_reachProposals 1 = .ok (.istore_n 1, 1) := by decide +kernel
theorem dX4_reachProposals_2 : decode cX4_reachProposals 2 = .ok (.iconst 0, 1) := by decide +kernel
theorem dX4_reachProposals_3 : decode cX4_reachProposals 3 = .ok (.istore_n 2, 1) := by decide +kernel
theorem dX4_reachProposals_4 : decode cX4_reachProposals 4 = .ok (.iload_n 2, 1) := by decide +kernel
theorem dX4_reachProposals_5 : decode cX4_reachProposals 5 = .ok (.aload_n 0, 1) := by decide +kernel
theorem dX4_reachProposals_6 : decode cX4_reachProposals 6 = .ok (.getfield 64, 3) := by decide +kernel
theorem dX4_reachProposals_9 : decode cX4_reachProposals 9 = .ok (.if_icmp .ge 105, 3) := by decide +kernel
theorem dX4_reachProposals_12 : decode cX4_reachProposals 12 = .ok (.iconst 0, 1) := by decide +kernel
theorem dX4_reachProposals_13 : decode cX4_reachProposals 13 = .ok (.istore_n 3, 1) := by decide +kernel
theorem dX4_reachProposals_14 : decode cX4_reachProposals 14 = .ok (.iload_n 3, 1) := by decide +kernel
theorem dX4_reachProposals_15 : decode cX4_reachProposals 15 = .ok (.aload_n 0, 1) := by decide +kernel
theorem dX4_reachProposals_16 : decode cX4_reachProposals 16 = .ok (.getfield 68, 3) := by decide +kernel
theorem dX4_reachProposals_19 : decode cX4_reachProposals 19 = .ok (.if_icmp .ge 89, 3) := by decide +kernel
theorem dX4_reachProposals_22 : decode cX4_reachProposals 22 = .ok (.aload_n 0, 1) := by decide +kernel
theorem dX4_reachProposals_23 : decode cX4_reachProposals 23 = .ok (.getfield 25, 3) := by decide +kernel
theorem dX4_reachProposals_26 : decode cX4_reachProposals 26 = .ok (.iload_n 2, 1) := by decide +kernel
theorem dX4_reachProposals_27 : decode cX4_reachProposals 27 = .ok (.iaload, 1) := by decide +kernel
theorem dX4_reachProposals_28 : decode cX4_reachProposals 28 = .ok (.ldc 89, 2) := by decide +kernel
theorem dX4_reachProposals_30 : decode cX4_reachProposals 30 = .ok (.if_icmp .eq 78, 3) := by decide +kernel
theorem dX4_reachProposals_33 : decode cX4_reachProposals 33 = .ok (.iload_n 2, 1) := by decide +kernel
theorem dX4_reachProposals_34 : decode cX4_reachProposals 34 = .ok (.iload_n 3, 1) := by decide +kernel
theorem dX4_reachProposals_35 : decode cX4_reachProposals 35 = .ok (.invokestatic 82, 3) := by decide +kernel
theorem dX4_reachProposals_38 : decode cX4_reachProposals 38 = .ok (.istore 4, 2) := by decide +kernel
theorem dX4_reachProposals_40 : decode cX4_reachProposals 40 = .ok (.aload_n 0, 1) := by decide +kernel
theorem dX4_reachProposals_41 : decode cX4_reachProposals 41 = .ok (.getfield 15, 3) := by decide +kernel
theorem dX4_reachProposals_44 : decode cX4_reachProposals 44 = .ok (.iload 4, 2) := by decide +kernel
theorem dX4_reachProposals_46 : decode cX4_reachProposals 46 = .ok (.baload, 1) := by decide +kernel
theorem dX4_reachProposals_47 : decode cX4_reachProposals 47 = .ok (.ifCond .eq 55, 3) := by decide +kernel
theorem dX4_reachProposals_50 : decode cX4_reachProposals 50 = .ok (.aload_n 0, 1) := by decide +kernel
theorem dX4_reachProposals_51 : decode cX4_reachProposals 51 = .ok (.getfield 25, 3) := by decide +kernel
theorem dX4_reachProposals_54 : decode cX4_reachProposals 54 = .ok (.iload_n 2, 1) := by decide +kernel
theorem dX4_reachProposals_55 : decode cX4_reachProposals 55 = .ok (.iaload, 1) := by decide +kernel
theorem dX4_reachProposals_56 : decode cX4_reachProposals 56 = .ok (.aload_n 0, 1) := by decide +kernel
theorem dX4_reachProposals_57 : decode cX4_reachProposals 57 = .ok (.getfield 9, 3) := by decide +kernel
theorem dX4_reachProposals_60 : decode cX4_reachProposals 60 = .ok (.iload 4, 2) := by decide +kernel
theorem dX4_reachProposals_62 : decode cX4_reachProposals 62 = .ok (.iaload, 1) := by decide +kernel
theorem dX4_reachProposals_63 : decode cX4_reachProposals 63 = .ok (.isub, 1) := by decide +kernel
theorem dX4_reachProposals_64 : decode cX4_reachProposals 64 = .ok (.aload_n 0, 1) := by decide +kernel
theorem dX4_reachProposals_65 : decode cX4_reachProposals 65 = .ok (.getfield 31, 3) := by decide +kernel
theorem dX4_reachProposals_68 : decode cX4_reachProposals 68 = .ok (.iload_n 3, 1) := by decide +kernel
theorem dX4_reachProposals_69 : decode cX4_reachProposals 69 = .ok (.iaload, 1) := by decide +kernel
theorem dX4_reachProposals_70 : decode cX4_reachProposals 70 = .ok (.if_icmp .le 32, 3) := by decide +kernel
theorem dX4_reachProposals_73 : decode cX4_reachProposals 73 = .ok (.aload_n 0, 1) := by decide +kernel
theorem dX4_reachProposals_74 : decode cX4_reachProposals 74 = .ok (.getfield 31, 3) := by decide +kernel
theorem dX4_reachProposals_77 : decode cX4_reachProposals 77 = .ok (.iload_n 3, 1) := by decide +kernel
theorem dX4_reachProposals_78 : decode cX4_reachProposals 78 = .ok (.aload_n 0, 1) := by decide +kernel
theorem dX4_reachProposals_79 : decode cX4_reachProposals 79 = .ok (.getfield 25, 3) := by decide +kernel
theorem dX4_reachProposals_82 : decode cX4_reachProposals 82 = .ok (.iload_n 2, 1) := by decide +kernel
theorem dX4_reachProposals_83 : decode cX4_reachProposals 83 = .ok (.iaload, 1) := by decide +kernel
theorem dX4_reachProposals_84 : decode cX4_reachProposals 84 = .ok (.aload_n 0, 1) := by decide +kernel
theorem dX4_reachProposals_85 : decode cX4_reachProposals 85 = .ok (.getfield 9, 3) := by decide +kernel
theorem dX4_reachProposals_88 : decode cX4_reachProposals 88 = .ok (.iload 4, 2) := by decide +kernel
theorem dX4_reachProposals_90 : decode cX4_reachProposals 90 = .ok (.iaload, 1) := by decide +kernel
theorem dX4_reachProposals_91 : decode cX4_reachProposals 91 = .ok (.isub, 1) := by decide +kernel
theorem dX4_reachProposals_92 : decode cX4_reachProposals 92 = .ok (.iastore, 1) := by decide +kernel
theorem dX4_reachProposals_93 : decode cX4_reachProposals 93 = .ok (.aload_n 0, 1) := by decide +kernel
theorem dX4_reachProposals_94 : decode cX4_reachProposals 94 = .ok (.getfield 34, 3) := by decide +kernel
theorem dX4_reachProposals_97 : decode cX4_reachProposals 97 = .ok (.iload_n 3, 1) := by decide +kernel
theorem dX4_reachProposals_98 : decode cX4_reachProposals 98 = .ok (.iload_n 2, 1) := by decide +kernel
theorem dX4_reachProposals_99 : decode cX4_reachProposals 99 = .ok (.iastore, 1) := by decide +kernel
theorem dX4_reachProposals_100 : decode cX4_reachProposals 100 = .ok (.iconst 1, 1) := by decide +kernel
theorem dX4_reachProposals_101 : decode cX4_reachProposals 101 = .ok (.istore_n 1, 1) := by decide +kernel
theorem dX4_reachProposals_102 : decode cX4_reachProposals 102 = .ok (.iinc 3 1, 3) := by decide +kernel
theorem dX4_reachProposals_105 : decode cX4_reachProposals 105 = .ok (.goto (-91), 3) := by decide +kernel
theorem dX4_reachProposals_108 : decode cX4_reachProposals 108 = .ok (.iinc 2 1, 3) := by decide +kernel
theorem dX4_reachProposals_111 : decode cX4_reachProposals 111 = .ok (.goto (-107), 3) := by decide +kernel
theorem dX4_reachProposals_114 : decode cX4_reachProposals 114 = .ok (.iload_n 1, 1) := by decide +kernel
theorem dX4_reachProposals_115 : decode cX4_reachProposals 115 = .ok (.ireturn, 1) := by decide +kernel
theorem dX4_bestEnd_0 : decode cX4_bestEnd 0 = .ok (.iconst (-1), 1) := by decide +kernel
theorem dX4_bestEnd_1 : decode cX4_bestEnd 1 = .ok (.istore_n 1, 1) := by decide +kernel
theorem dX4_bestEnd_2 : decode cX4_bestEnd 2 = .ok (.iconst 0, 1) := by decide +kernel
theorem dX4_bestEnd_3 : decode cX4_bestEnd 3 = .ok (.istore_n 2, 1) := by decide +kernel
theorem dX4_bestEnd_4 : decode cX4_bestEnd 4 = .ok (.iload_n 2, 1) := by decide +kernel
theorem dX4_bestEnd_5 : decode cX4_bestEnd 5 = .ok (.aload_n 0, 1) := by decide +kernel
theorem dX4_bestEnd_6 : decode cX4_bestEnd 6 = .ok (.getfield 64, 3) := by decide +kernel
theorem dX4_bestEnd_9 : decode cX4_bestEnd 9 = .ok (.if_icmp .ge 50, 3) := by decide +kernel
theorem dX4_bestEnd_12 : decode cX4_bestEnd 12 = .ok (.aload_n 0, 1) := by decide +kernel
theorem dX4_bestEnd_13 : decode cX4_bestEnd 13 = .ok (.getfield 19, 3) := by decide +kernel
theorem dX4_bestEnd_16 : decode cX4_bestEnd 16 = .ok (.iload_n 2, 1) := by decide +kernel
theorem dX4_bestEnd_17 : decode cX4_bestEnd 17 = .ok (.iaload, 1) := by decide +kernel
theorem dX4_bestEnd_18 : decode cX4_bestEnd 18 = .ok (.ifCond .le 35, 3) := by decide +kernel
theorem dX4_bestEnd_21 : decode cX4_bestEnd 21 = .ok (.aload_n 0, 1) := by decide +kernel
theorem dX4_bestEnd_22 : decode cX4_bestEnd 22 = .ok (.getfield 28, 3) := by decide +kernel
theorem dX4_bestEnd_25 : decode cX4_bestEnd 25 = .ok (.iload_n 2, 1) := by decide +kernel
theorem dX4_bestEnd_26 : decode cX4_bestEnd 26 = .ok (.iaload, 1) := by decide +kernel
theorem dX4_bestEnd_27 : decode cX4_bestEnd 27 = .ok (.iconst (-1), 1) := by decide +kernel
theorem dX4_bestEnd_28 : decode cX4_bestEnd 28 = .ok (.if_icmp .eq 25, 3) := by decide +kernel
theorem dX4_bestEnd_31 : decode cX4_bestEnd 31 = .ok (.iload_n 1, 1) := by decide +kernel
theorem dX4_bestEnd_32 : decode cX4_bestEnd 32 = .ok (.iconst (-1), 1) := by decide +kernel
theorem dX4_bestEnd_33 : decode cX4_bestEnd 33 = .ok (.if_icmp .eq 18, 3) := by decide +kernel
theorem dX4_bestEnd_36 : decode cX4_bestEnd 36 = .ok (.aload_n 0, 1) := by decide +kernel
theorem dX4_bestEnd_37 : decode cX4_bestEnd 37 = .ok (.getfield 25, 3) := by decide +kernel
theorem dX4_bestEnd_40 : decode cX4_bestEnd 40 = .ok (.iload_n 2, 1) := by decide +kernel
theorem dX4_bestEnd_41 : decode cX4_bestEnd 41 = .ok (.iaload, 1) := by decide +kernel
theorem dX4_bestEnd_42 : decode cX4_bestEnd 42 = .ok (.aload_n 0, 1) := by decide +kernel
theorem dX4_bestEnd_43 : decode cX4_bestEnd 43 = .ok (.getfield 25, 3) := by decide +kernel
theorem dX4_bestEnd_46 : decode cX4_bestEnd 46 = .ok (.iload_n 1, 1) := by decide +kernel
theorem dX4_bestEnd_47 : decode cX4_bestEnd 47 = .ok (.iaload, 1) := by decide +kernel
theorem dX4_bestEnd_48 : decode cX4_bestEnd 48 = .ok (.if_icmp .le 5, 3) := by decide +kernel
theorem dX4_bestEnd_51 : decode cX4_bestEnd 51 = .ok (.iload_n 2, 1) := by decide +kernel
theorem dX4_bestEnd_52 : decode cX4_bestEnd 52 = .ok (.istore_n 1, 1) := by decide +kernel
theorem dX4_bestEnd_53 : decode cX4_bestEnd 53 = .ok (.iinc 2 1, 3) := by decide +kernel
theorem dX4_bestEnd_56 : decode cX4_bestEnd 56 = .ok (.goto (-52), 3) := by decide +kernel
theorem dX4_bestEnd_59 : decode cX4_bestEnd 59 = .ok (.iload_n 1, 1) := by decide +kernel
theorem dX4_bestEnd_60 : decode cX4_bestEnd 60 = .ok (.ireturn, 1) := by decide +kernel
theorem dX4_follow_0 : decode cX4_follow 0 = .ok (.aload_n 0, 1) := by decide +kernel
theorem dX4_follow_1 : decode cX4_follow 1 = .ok (.getfield 19, 3) := by decide +kernel
theorem dX4_follow_4 : decode cX4_follow 4 = .ok (.iload_n 1, 1) := by decide +kernel
theorem dX4_follow_5 : decode cX4_follow 5 = .ok (.dup2, 1) := by decide +kernel
theorem dX4_follow_6 : decode cX4_follow 6 = .ok (.iaload, 1) := by decide +kernel
theorem dX4_follow_7 : decode cX4_follow 7 = .ok (.iconst 1, 1) := by decide +kernel
theorem dX4_follow_8 : decode cX4_follow 8 = .ok (.isub, 1) := by decide +kernel
theorem dX4_follow_9 : decode cX4_follow 9 = .ok (.iastore, 1) := by decide +kernel
theorem dX4_follow_10 : decode cX4_follow 10 = .ok (.iload_n 1, 1) := by decide +kernel
theorem dX4_follow_11 : decode cX4_follow 11 = .ok (.istore_n 2, 1) := by decide +kernel
theorem dX4_follow_12 : decode cX4_follow 12 = .ok (.iconst 0, 1) := by decide +kernel
theorem dX4_follow_13 : decode cX4_follow 13 = .ok (.istore_n 3, 1) := by decide +kernel
theorem dX4_follow_14 : decode cX4_follow 14 = .ok (.iload_n 3, 1) := by decide +kernel
theorem dX4_follow_15 : decode cX4_follow 15 = .ok (.bipush 12, 2) := by decide +kernel
theorem dX4_follow_17 : decode cX4_follow 17 = .ok (.if_icmp .ge 80, 3) := by decide +kernel
theorem dX4_follow_20 : decode cX4_follow 20 = .ok (.iload_n 2, 1) := by decide +kernel
theorem dX4_follow_21 : decode cX4_follow 21 = .ok (.iconst (-1), 1) := by decide +kernel
theorem dX4_follow_22 : decode cX4_follow 22 = .ok (.if_icmp .eq 75, 3) := by decide +kernel
theorem dX4_follow_25 : decode cX4_follow 25 = .ok (.aload_n 0, 1) := by decide +kernel
theorem dX4_follow_26 : decode cX4_follow 26 = .ok (.getfield 28, 3) := by decide +kernel
theorem dX4_follow_29 : decode cX4_follow 29 = .ok (.iload_n 2, 1) := by decide +kernel
theorem dX4_follow_30 : decode cX4_follow 30 = .ok (.iaload, 1) := by decide +kernel
theorem dX4_follow_31 : decode cX4_follow 31 = .ok (.istore 4, 2) := by decide +kernel
theorem dX4_follow_33 : decode cX4_follow 33 = .ok (.iload 4, 2) := by decide +kernel
theorem dX4_follow_35 : decode cX4_follow 35 = .ok (.iconst (-1), 1) := by decide +kernel
theorem dX4_follow_36 : decode cX4_follow 36 = .ok (.if_icmp .ne 4, 3) := by decide +kernel
theorem dX4_follow_39 : decode cX4_follow 39 = .ok (.return_, 1) := by decide +kernel
theorem dX4_follow_40 : decode cX4_follow 40 = .ok (.aload_n 0, 1) := by decide +kernel
theorem dX4_follow_41 : decode cX4_follow 41 = .ok (.getfield 15, 3) := by decide +kernel
theorem dX4_follow_44 : decode cX4_follow 44 = .ok (.iload_n 2, 1) := by decide +kernel
theorem dX4_follow_45 : decode cX4_follow 45 = .ok (.iload 4, 2) := by decide +kernel
theorem dX4_follow_47 : decode cX4_follow 47 = .ok (.invokestatic 82, 3) := by decide +kernel
theorem dX4_follow_50 : decode cX4_follow 50 = .ok (.iconst 1, 1) := by decide +kernel
theorem dX4_follow_51 : decode cX4_follow 51 = .ok (.bastore, 1) := by decide +kernel
theorem dX4_follow_52 : decode cX4_follow 52 = .ok (.aload_n 0, 1) := by decide +kernel
theorem dX4_follow_53 : decode cX4_follow 53 = .ok (.getfield 34, 3) := by decide +kernel
theorem dX4_follow_56 : decode cX4_follow 56 = .ok (.iload 4, 2) := by decide +kernel
theorem dX4_follow_58 : decode cX4_follow 58 = .ok (.iaload, 1) := by decide +kernel
theorem dX4_follow_59 : decode cX4_follow 59 = .ok (.istore_n 2, 1) := by decide +kernel
theorem dX4_follow_60 : decode cX4_follow 60 = .ok (.iload_n 2, 1) := by decide +kernel
theorem dX4_follow_61 : decode cX4_follow 61 = .ok (.iconst (-1), 1) := by decide +kernel
theorem dX4_follow_62 : decode cX4_follow 62 = .ok (.if_icmp .ne 17, 3) := by decide +kernel
theorem dX4_follow_65 : decode cX4_follow 65 = .ok (.aload_n 0, 1) := by decide +kernel
theorem dX4_follow_66 : decode cX4_follow 66 = .ok (.getfield 22, 3) := by decide +kernel
theorem dX4_follow_69 : decode cX4_follow 69 = .ok (.iload 4, 2) := by decide +kernel
theorem dX4_follow_71 : decode cX4_follow 71 = .ok (.dup2, 1) := by decide +kernel
theorem dX4_follow_72 : decode cX4_follow 72 = .ok (.iaload, 1) := by decide +kernel
theorem dX4_follow_73 : decode cX4_follow 73 = .ok (.iconst 1, 1) := by decide +kernel
theorem dX4_follow_74 : decode cX4_follow 74 = .ok (.isub, 1) := by decide +kernel
theorem dX4_follow_75 : decode cX4_follow 75 = .ok (.iastore, 1) := by decide +kernel
theorem dX4_follow_76 : decode cX4_follow 76 = .ok (.goto 15, 3) := by decide +kernel
theorem dX4_follow_79 : decode cX4_follow 79 = .ok (.aload_n 0, 1) := by decide +kernel
theorem dX4_follow_80 : decode cX4_follow 80 = .ok (.getfield 15, 3) := by decide +kernel
theorem dX4_follow_83 : decode cX4_follow 83 = .ok (.iload_n 2, 1) := by decide +kernel
theorem dX4_follow_84 : decode cX4_follow 84 = .ok (.iload 4, 2) := by decide +kernel
theorem dX4_follow_86 : decode cX4_follow 86 = .ok (.invokestatic 82, 3) := by decide +kernel
theorem dX4_follow_89 : decode cX4_follow 89 = .ok (.iconst 0, 1) := by decide +kernel
theorem dX4_follow_90 : decode cX4_follow 90 = .ok (.bastore, 1) := by decide +kernel
theorem dX4_follow_91 : decode cX4_follow 91 = .ok (.iinc 3 1, 3) := by decide +kernel
theorem dX4_follow_94 : decode cX4_follow 94 = .ok (.goto (-80), 3) := by decide +kernel
theorem dX4_follow_97 : decode cX4_follow 97 = .ok (.return_, 1) := by decide +kernel
theorem dX5_init_0 : decode cX5_init 0 = .ok (.aload_n 0, 1) := by decide +kernel
theorem dX5_init_1 : decode cX5_init 1 = .ok (.invokespecial 3, 3) := by decide +kernel
theorem dX5_init_4 : decode cX5_init 4 = .ok (.aload_n 0, 1) := by decide +kernel
theorem dX5_init_5 : decode cX5_init 5 = .ok (.bipush 12, 2) := by decide +kernel
theorem dX5_init_7 : decode cX5_init 7 = .ok (.newarray .int, 2) := by decide +kernel
theorem dX5_init_9 : decode cX5_init 9 = .ok (.putfield 9, 3) := by decide +kernel
theorem dX5_init_12 : decode cX5_init 12 = .ok (.aload_n 0, 1) := by decide +kernel
theorem dX5_init_13 : decode cX5_init 13 = .ok (.bipush 12, 2) := by decide +kernel
theorem dX5_init_15 : decode cX5_init 15 = .ok (.newarray .int, 2) := by decide +kernel
theorem dX5_init_17 : decode cX5_init 17 = .ok (.putfield 15, 3) := by decide +kernel
theorem dX5_init_20 : decode cX5_init 20 = .ok (.aload_n 0, 1) := by decide +kernel
theorem dX5_init_21 : decode cX5_init 21 = .ok (.bipush 12, 2) := by decide +kernel
theorem dX5_init_23 : decode cX5_init 23 = .ok (.newarray .int, 2) := by decide +kernel
theorem dX5_init_25 : decode cX5_init 25 = .ok (.putfield 18, 3) := by decide +kernel
theorem dX5_init_28 : decode cX5_init 28 = .ok (.aload_n 0, 1) := by decide +kernel
theorem dX5_init_29 : decode cX5_init 29 = .ok (.bipush 16, 2) := by decide +kernel
theorem dX5_init_31 : decode cX5_init 31 = .ok (.newarray .int, 2) := by decide +kernel
theorem dX5_init_33 : decode cX5_init 33 = .ok (.putfield 21, 3) := by decide +kernel
theorem dX5_init_36 : decode cX5_init 36 = .ok (.aload_n 0, 1) := by decide +kernel
theorem dX5_init_37 : decode cX5_init 37 = .ok (.bipush 16, 2) := by decide +kernel
theorem dX5_init_39 : decode cX5_init 39 = .ok (.newarray .int, 2) := by decide +kernel
theorem dX5_init_41 : decode cX5_init 41 = .ok (.putfield 24, 3) := by decide +kernel
theorem dX5_init_44 : decode cX5_init 44 = .ok (.aload_n 0, 1) := by decide +kernel
theorem dX5_init_45 : decode cX5_init 45 = .ok (.bipush 16, 2) := by decide +kernel
theorem dX5_init_47 : decode cX5_init 47 = .ok (.newarray .int, 2) := by decide +kernel
theorem dX5_init_49 : decode cX5_init 49 = .ok (.putfield 27, 3) := by decide +kernel
theorem dX5_init_52 : decode cX5_init 52 = .ok (.aload_n 0, 1) := by decide +kernel
theorem dX5_init_53 : decode cX5_init 53 = .ok (.bipush 16, 2) := by decide +kernel
theorem dX5_init_55 : decode cX5_init 55 = .ok (.newarray .int, 2) := by decide +kernel
theorem dX5_init_57 : decode cX5_init 57 = .ok (.putfield 30, 3) := by decide +kernel
theorem dX5_init_60 : decode cX5_init 60 = .ok (.aload_n 0, 1) := by decide +kernel
theorem dX5_init_61 : decode cX5_init 61 = .ok (.bipush 16, 2) := by decide +kernel
theorem dX5_init_63 : decode cX5_init 63 = .ok (.newarray .int, 2) := by decide +kernel
theorem dX5_init_65 : decode cX5_init 65 = .ok (.putfield 33, 3) := by decide +kernel
theorem dX5_init_68 : decode cX5_init 68 = .ok (.aload_n 0, 1) := by decide +kernel
theorem dX5_init_69 : decode cX5_init 69 = .ok (.bipush 16, 2) := by decide +kernel
theorem dX5_init_71 : decode cX5_init 71 = .ok (.newarray .int, 2) := by decide +kernel
theorem dX5_init_73 : decode cX5_init 73 = .ok (.putfield 36, 3) := by decide +kernel
theorem dX5_init_76 : decode cX5_init 76 = .ok (.return_, 1) := by decide +kernel
theorem dX5_update_0 : decode cX5_update 0 = .ok (.iconst 0, 1) := by decide +kernel
theorem dX5_update_1 : decode cX5_update 1 = .ok (.istore_n 3, 1) := by decide +kernel
theorem dX5_update_2 : decode cX5_update 2 = .ok (.iload_n 3, 1) := by decide +kernel
theorem dX5_update_3 : decode cX5_update 3 = .ok (.aload_n 1, 1) := by decide +kernel
theorem dX5_update_4 : decode cX5_update 4 = .ok (.getfield 39, 3) := by decide +kernel
theorem dX5_update_7 : decode cX5_update 7 = .ok (.if_icmp .ge 15, 3) := by decide +kernel
theorem dX5_update_10 : decode cX5_update 10 = .ok (.aload_n 0, 1) := by decide +kernel
theorem dX5_update_11 : decode cX5_update 11 = .ok (.aload_n 2, 1) := by decide +kernel
theorem dX5_update_12 : decode cX5_update 12 = .ok (.iload_n 3, 1) := by decide +kernel
theorem dX5_update_13 : decode cX5_update 13 = .ok (.invokevirtual 45, 3) := by decide +kernel
theorem dX5_update_16 : decode cX5_update 16 = .ok (.iinc 3 1, 3) := by decide +kernel
theorem dX5_update_19 : decode cX5_update 19 = .ok (.goto (-17), 3) := by decide +kernel
theorem dX5_update_22 : decode cX5_update 22 = .ok (.aload_n 0, 1) := by decide +kernel
theorem dX5_update_23 : decode cX5_update 23 = .ok (.iconst 0, 1) := by decide +kernel
theorem dX5_update_24 : decode cX5_update 24 = .ok (.putfield 49, 3) := by decide +kernel
theorem dX5_update_27 : decode cX5_update 27 = .ok (.iconst 0, 1) := by decide +kernel
theorem dX5_update_28 : decode cX5_update 28 = .ok (.istore_n 3, 1) := by decide +kernel
theorem dX5_update_29 : decode cX5_update 29 = .ok (.iload_n 3, 1) := by decide +kernel
theorem dX5_update_30 : decode cX5_update 30 = .ok (.aload_n 1, 1) := by decide +kernel
theorem dX5_update_31 : decode cX5_update 31 = .ok (.getfield 52, 3) := by decide +kernel
theorem dX5_update_34 : decode cX5_update 34 = .ok (.if_icmp .ge 40, 3) := by decide +kernel
theorem dX5_update_37 : decode cX5_update 37 = .ok (.aload_n 0, 1) := by decide +kernel
theorem dX5_update_38 : decode cX5_update 38 = .ok (.getfield 33, 3) := by decide +kernel
theorem dX5_update_41 : decode cX5_update 41 = .ok (.iload_n 3, 1) := by decide +kernel
theorem dX5_update_42 : decode cX5_update 42 = .ok (.aload_n 1, 1) := by decide +kernel
theorem dX5_update_43 : decode cX5_update 43 = .ok (.getfield 55, 3) := by decide +kernel
theorem dX5_update_46 : decode cX5_update 46 = .ok (.iload_n 3, 1) := by decide +kernel
theorem dX5_update_47 : decode cX5_update 47 = .ok (.iaload, 1) := by decide +kernel
theorem dX5_update_48 : decode cX5_update 48 = .ok (.iastore, 1) := by decide +kernel
theorem dX5_update_49 : decode cX5_update 49 = .ok (.aload_n 0, 1) := by decide +kernel
theorem dX5_update_50 : decode cX5_update 50 = .ok (.aload_n 2, 1) := by decide +kernel
theorem dX5_update_51 : decode cX5_update 51 = .ok (.iload_n 3, 1) := by decide +kernel
theorem dX5_update_52 : decode cX5_update 52 = .ok (.invokevirtual 56, 3) := by decide +kernel
theorem dX5_update_55 : decode cX5_update 55 = .ok (.aload_n 0, 1) := by decide +kernel
theorem dX5_update_56 : decode cX5_update 56 = .ok (.iload_n 3, 1) := by decide +kernel
theorem dX5_update_57 : decode cX5_update 57 = .ok (.invokevirtual 59, 3) := by decide +kernel
theorem dX5_update_60 : decode cX5_update 60 = .ok (.ifCond .eq 8, 3) := by decide +kernel
theorem dX5_update_63 : decode cX5_update 63 = .ok (.aload_n 0, 1) := by decide +kernel
theorem dX5_update_64 : decode cX5_update 64 = .ok (.iload_n 3, 1) := by decide +kernel
theorem dX5_update_65 : decode cX5_update 65 = .ok (.invokevirtual 63, 3) := by decide +kernel
theorem dX5_update_68 : decode cX5_update 68 = .ok (.iinc 3 1, 3) := by decide +kernel
theorem dX5_update_71 : decode cX5_update 71 = .ok (.goto (-42), 3) := by decide +kernel
theorem dX5_update_74 : decode cX5_update 74 = .ok (.return_, 1) := by decide +kernel
theorem dX5_measureReviewer_0 : decode cX5_measureReviewer 0 = .ok (.iconst 0, 1) := by decide +kernel
theorem dX5_measureReviewer_1 : decode cX5_measureReviewer 1 = .ok (.istore_n 3, 1) := by decide +kernel
theorem dX5_measureReviewer_2 : decode cX5_measureReviewer 2 = .ok (.iconst 0, 1) := by decide +kernel
theorem dX5_measureReviewer_3 : decode cX5_measureReviewer 3 = .ok (.istore 4, 2) := by decide +kernel
theorem dX5_measureReviewer_5 : decode cX5_measureReviewer 5 = .ok (.iconst 0, 1) := by decide +kernel
theorem dX5_measureReviewer_6 : decode cX5_measureReviewer 6 = .ok (.istore 5, 2) := by decide +kernel
theorem dX5_measureReviewer_8 : decode cX5_measureReviewer 8 = .ok (.iload 5, 2) := by decide +kernel
theorem dX5_measureReviewer_10 : decode cX5_measureReviewer 10 = .ok (.bipush 16, 2) := by decide +kernel
theorem dX5_measureReviewer_12 : decode cX5_measureReviewer 12 = .ok (.if_icmp .ge 34, 3) := by decide +kernel
theorem dX5_measureReviewer_15 : decode cX5_measureReviewer 15 = .ok (.aload_n 1, 1) := by decide +kernel
theorem dX5_measureReviewer_16 : decode cX5_measureReviewer 16 = .ok (.iload_n 2, 1) := by decide +kernel
theorem dX5_measureReviewer_17 : decode cX5_measureReviewer 17 = .ok (.iload 5, 2) := by decide +kernel
theorem dX5_measureReviewer_19 : decode cX5_measureReviewer 19 = .ok (.invokevirtual 67, 3) := by decide +kernel
theorem dX5_measureReviewer_22 : decode cX5_measureReviewer 22 = .ok (.ifCond .eq 18, 3) := by decide +kernel
theorem dX5_measureReviewer_25 : decode cX5_measureReviewer 25 = .ok (.iinc 3 1, 3) := by decide +kernel
theorem dX5_measureReviewer_28 : decode cX5_measureReviewer 28 = .ok (.iload 4, 2) := by decide +kernel
theorem dX5_measureReviewer_30 : decode cX5_measureReviewer 30 = .ok (.aload_n 1, 1) := by decide +kernel
theorem dX5_measureReviewer_31 : decode cX5_measureReviewer 31 = .ok (.iload_n 2, 1) := by decide +kernel
theorem dX5_measureReviewer_32 : decode cX5_measureReviewer 32 = .ok (.iload 5, 2) := by decide +kernel
theorem dX5_measureReviewer_34 : decode cX5_measureReviewer 34 = .ok (.invokevirtual 73, 3) := by decide +kernel
theorem dX5_measureReviewer_37 : decode cX5_measureReviewer 37 = .ok (.iadd, 1) := by decide +kernel
theorem dX5_measureReviewer_38 : decode cX5_measureReviewer 38 = .ok (.istore 4, 2) := by decide +kernel
theorem dX5_measureReviewer_40 : decode cX5_measureReviewer 40 = .ok (.iinc 5 1, 3) := by decide +kernel
theorem dX5_measureReviewer_43 : decode cX5_measureReviewer 43 = .ok (.goto (-35), 3) := by decide +kernel
theorem dX5_measureReviewer_46 : decode cX5_measureReviewer 46 = .ok (.iconst 0, 1) := by decide +kernel
theorem dX5_measureReviewer_47 : decode cX5_measureReviewer 47 = .ok (.istore 5, 2) := by decide +kernel
theorem dX5_measureReviewer_49 : decode cX5_measureReviewer 49 = .ok (.iconst 0, 1) := by decide +kernel
theorem dX5_measureReviewer_50 : decode cX5_measureReviewer 50 = .ok (.istore 6, 2) := by decide +kernel
theorem dX5_measureReviewer_52 : decode cX5_measureReviewer 52 = .ok (.iload 6, 2) := by decide +kernel
theorem dX5_measureReviewer_54 : decode cX5_measureReviewer 54 = .ok (.bipush 16, 2) := by decide +kernel
theorem dX5_measureReviewer_56 : decode cX5_measureReviewer 56 = .ok (.if_icmp .ge 39, 3) := by decide +kernel
theorem dX5_measureReviewer_59 : decode cX5_measureReviewer 59 = .ok (.aload_n 1, 1) := by decide +kernel
theorem dX5_measureReviewer_60 : decode cX5_measureReviewer 60 = .ok (.iload_n 2, 1) := by decide +kernel
theorem dX5_measureReviewer_61 : decode cX5_measureReviewer 61 = .ok (.iload 6, 2) := by decide +kernel
theorem dX5_measureReviewer_63 : decode cX5_measureReviewer 63 = .ok (.invokevirtual 67, 3) := by decide +kernel
theorem dX5_measureReviewer_66 : decode cX5_measureReviewer 66 = .ok (.ifCond .eq 23, 3) := by decide +kernel
theorem dX5_measureReviewer_69 : decode cX5_measureReviewer 69 = .ok (.iload 5, 2) := by decide +kernel
theorem dX5_measureReviewer_71 : decode cX5_measureReviewer 71 = .ok (.iload_n 3, 1) := by decide +kernel
theorem dX5_measureReviewer_72 : decode cX5_measureReviewer 72 = .ok (.aload_n 1, 1) := by decide +kernel
theorem dX5_measureReviewer_73 : decode cX5_measureReviewer 73 = .ok (.iload_n 2, 1) := by decide +kernel
theorem dX5_measureReviewer_74 : decode cX5_measureReviewer 74 = .ok (.iload 6, 2) := by decide +kernel
theorem dX5_measureReviewer_76 : decode cX5_measureReviewer 76 = .ok (.invokevirtual 73, 3) := by decide +kernel
theorem dX5_measureReviewer_79 : decode cX5_measureReviewer 79 = .ok (.imul, 1) := by decide +kernel
theorem dX5_measureReviewer_80 : decode cX5_measureReviewer 80 = .ok (.iload 4, 2) := by decide +kernel
theorem dX5_measureReviewer_82 : decode cX5_measureReviewer 82 = .ok (.isub, 1) := by decide +kernel
theorem dX5_measureReviewer_83 : decode cX5_measureReviewer 83 = .ok (.invokestatic 77, 3) := by decide +kernel
theorem dX5_measureReviewer_86 : decode cX5_measureReviewer 86 = .ok (.iadd, 1) := by decide +kernel
theorem dX5_measureReviewer_87 : decode cX5_measureReviewer 87 = .ok (.istore 5, 2) := by decide +kernel
theorem dX5_measureReviewer_89 : decode cX5_measureReviewer 89 = .ok (.iinc 6 1, 3) := by decide +kernel
theorem dX5_measureReviewer_92 : decode cX5_measureReviewer 92 = .ok (.goto (-40), 3) := by decide +kernel
theorem dX5_measureReviewer_95 : decode cX5_measureReviewer 95 = .ok (.aload_n 0, 1) := by decide +kernel
theorem dX5_measureReviewer_96 : decode cX5_measureReviewer 96 = .ok (.getfield 9, 3) := by decide +kernel
theorem dX5_measureReviewer_99 : decode cX5_measureReviewer 99 = .ok (.iload_n 2, 1) := by decide +kernel
theorem dX5_measureReviewer_100 : decode cX5_measureReviewer 100 = .ok (.iload_n 3, 1) := by decide +kernel
theorem dX5_measureReviewer_101 : decode cX5_measureReviewer 101 = .ok (.iastore, 1) := by decide +kernel
theorem dX5_measureReviewer_102 : decode cX5_measureReviewer 102 = .ok (.aload_n 0, 1) := by decide +kernel
theorem dX5_measureReviewer_103 : decode cX5_measureReviewer 103 = .ok (.getfield 15, 3) := by decide +kernel
theorem dX5_measureReviewer_106 : decode cX5_measureReviewer 106 = .ok (.iload_n 2, 1) := by decide +kernel
theorem dX5_measureReviewer_107 : decode cX5_measureReviewer 107 = .ok (.iload 4, 2) := by decide +kernel
theorem dX5_measureReviewer_109 : decode cX5_measureReviewer 109 = .ok (.iastore, 1) := by decide +kernel
theorem dX5_measureReviewer_110 : decode cX5_measureReviewer 110 = .ok (.aload_n 0, 1) := by decide +kernel
theorem dX5_measureReviewer_111 : decode cX5_measureReviewer 111 = .ok (.getfield 18, 3) := by decide +kernel
theorem dX5_measureReviewer_114 : decode cX5_measureReviewer 114 = .ok (.iload_n 2, 1) := by decide +kernel
theorem dX5_measureReviewer_115 : decode cX5_measureReviewer 115 = .ok (.iload 5, 2) := by decide +kernel
theorem dX5_measureReviewer_117 : decode cX5_measureReviewer 117 = .ok (.iastore, 1) := by decide +kernel
theorem dX5_measureReviewer_118 : decode cX5_measureReviewer 118 = .ok (.return_, 1) := by decide +kernel
theorem dX5_measureProposal_0 : decode cX5_measureProposal 0 = .ok (.iconst 0, 1) := by decide +kernel
theorem dX5_measureProposal_1 : decode cX5_measureProposal 1 = .ok (.istore_n 3, 1) := by decide +kernel
theorem dX5_measureProposal_2 : decode cX5_measureProposal 2 = .ok (.iconst 0, 1) := by decide +kernel
theorem dX5_measureProposal_3 : decode cX5_measureProposal 3 = .ok (.istore 4, 2) := by decide +kernel
theorem dX5_measureProposal_5 : decode cX5_measureProposal 5 = .ok (.bipush 100, 2) := by decide +kernel
theorem dX5_measureProposal_7 : decode cX5_measureProposal 7 = .ok (.istore 5, 2) := by decide +kernel
theorem dX5_measureProposal_9 : decode cX5_measureProposal 9 = .ok (.iconst 0, 1) := by decide +kernel
theorem dX5_measureProposal_10 : decode cX5_measureProposal 10 = .ok (.istore 6, 2) := by decide +kernel
theorem dX5_measureProposal_12 : decode cX5_measureProposal 12 = .ok (.iconst 0, 1) := by decide +kernel
theorem dX5_measureProposal_13 : decode cX5_measureProposal 13 = .ok (.istore 7, 2) := by decide +kernel
theorem dX5_measureProposal_15 : decode cX5_measureProposal 15 = .ok (.iload 7, 2) := by decide +kernel
theorem dX5_measureProposal_17 : decode cX5_measureProposal 17 = .ok (.bipush 12, 2) := by decide +kernel
theorem dX5_measureProposal_19 : decode cX5_measureProposal 19 = .ok (.if_icmp .ge 70, 3) := by decide +kernel
theorem dX5_measureProposal_22 : decode cX5_measureProposal 22 = .ok (.aload_n 1, 1) := by decide +kernel
theorem dX5_measureProposal_23 : decode cX5_measureProposal 23 = .ok (.iload 7, 2) := by decide +kernel
theorem dX5_measureProposal_25 : decode cX5_measureProposal 25 = .ok (.iload_n 2, 1) := by decide +kernel
theorem dX5_measureProposal_26 : decode cX5_measureProposal 26 = .ok (.invokevirtual 67, 3) := by decide +kernel
theorem dX5_measureProposal_29 : decode cX5_measureProposal 29 = .ok (.ifCond .eq 54, 3) := by decide +kernel
theorem dX5_measureProposal_32 : decode cX5_measureProposal 32 = .ok (.aload_n 1, 1) := by decide +kernel
theorem dX5_measureProposal_33 : decode cX5_measureProposal 33 = .ok (.iload 7, 2) := by decide +kernel
theorem dX5_measureProposal_35 : decode cX5_measureProposal 35 = .ok (.iload_n 2, 1) := by decide +kernel
theorem dX5_measureProposal_36 : decode cX5_measureProposal 36 = .ok (.invokevirtual 73, 3) := by decide +kernel
theorem dX5_measureProposal_39 : decode cX5_measureProposal 39 = .ok (.istore 8, 2) := by decide +kernel
theorem dX5_measureProposal_41 : decode cX5_measureProposal 41 = .ok (.iinc 3 1, 3) := by decide +kernel
theorem dX5_measureProposal_44 : decode cX5_measureProposal 44 = .ok (.iload 4, 2) := by decide +kernel
theorem dX5_measureProposal_46 : decode cX5_measureProposal 46 = .ok (.aload_n 0, 1) := by decide +kernel
theorem dX5_measureProposal_47 : decode cX5_measureProposal 47 = .ok (.iload 7, 2) := by decide +kernel
theorem dX5_measureProposal_49 : decode cX5_measureProposal 49 = .ok (.iload 8, 2) := by decide +kernel
theorem dX5_measureProposal_51 : decode cX5_measureProposal 51 = .ok (.invokevirtual 83, 3) := by decide +kernel
theorem dX5_measureProposal_54 : decode cX5_measureProposal 54 = .ok (.iadd, 1) := by decide +kernel
theorem dX5_measureProposal_55 : decode cX5_measureProposal 55 = .ok (.istore 4, 2) := by decide +kernel
theorem dX5_measureProposal_57 : decode cX5_measureProposal 57 = .ok (.iload 5, 2) := by decide +kernel
theorem dX5_measureProposal_59 : decode cX5_measureProposal 59 = .ok (.iload 8, 2) := by decide +kernel
theorem dX5_measureProposal_61 : decode cX5_measureProposal 61 = .ok (.invokestatic 86, 3) := by decide +kernel
theorem dX5_measureProposal_64 : decode cX5_measureProposal 64 = .ok (.istore 5, 2) := by decide +kernel
theorem dX5_measureProposal_66 : decode cX5_measureProposal 66 = .ok (.iload 6, 2) := by decide +kernel
theorem dX5_measureProposal_68 : decode cX5_measureProposal 68 = .ok (.iload 8, 2) := by decide +kernel
theorem dX5_measureProposal_70 : decode cX5_measureProposal 70 = .ok (.bipush 80, 2) := by decide +kernel
theorem dX5_measureProposal_72 : decode cX5_measureProposal 72 = .ok (.if_icmp .lt 7, 3) := by decide +kernel
theorem dX5_measureProposal_75 : decode cX5_measureProposal 75 = .ok (.iconst 1, 1) := by decide +kernel
theorem dX5_measureProposal_76 : decode cX5_measureProposal 76 = .ok (.goto 4, 3) := by decide +kernel
theorem dX5_measureProposal_79 : decode cX5_measureProposal 79 = .ok (.iconst 0, 1) := by decide +kernel
theorem dX5_measureProposal_80 : decode cX5_measureProposal 80 = .ok (.iadd, 1) := by decide +kernel
theorem dX5_measureProposal_81 : decode cX5_measureProposal 81 = .ok (.istore 6, 2) := by decide +kernel
theorem dX5_measureProposal_83 : decode cX5_measureProposal 83 = .ok (.iinc 7 1, 3) := by decide +kernel
theorem dX5_measureProposal_86 : decode cX5_measureProposal 86 = .ok (.goto (-71), 3) := by decide +kernel
theorem dX5_measureProposal_89 : decode cX5_measureProposal 89 = .ok (.aload_n 0, 1) := by decide +kernel
theorem dX5_measureProposal_90 : decode cX5_measureProposal 90 = .ok (.getfield 21, 3) := by decide +kernel
theorem dX5_measureProposal_93 : decode cX5_measureProposal 93 = .ok (.iload_n 2, 1) := by decide +kernel
theorem dX5_measureProposal_94 : decode cX5_measureProposal 94 = .ok (.iload_n 3, 1) := by decide +kernel
theorem dX5_measureProposal_95 : decode cX5_measureProposal 95 = .ok (.iastore, 1) := by decide +kernel
theorem dX5_measureProposal_96 : decode cX5_measureProposal 96 = .ok (.aload_n 0, 1) := by decide +kernel
theorem dX5_measureProposal_97 : decode cX5_measureProposal 97 = .ok (.getfield 24, 3) := by decide +kernel
theorem dX5_measureProposal_100 : decode cX5_measureProposal 100 = .ok (.iload_n 2, 1) := by decide +kernel
theorem dX5_measureProposal_101 : decode cX5_measureProposal 101 = .ok (.iload_n 3, 1) := by decide +kernel
theorem dX5_measureProposal_102 : decode cX5_measureProposal 102 = .ok (.ifCond .ne 7, 3) := by decide +kernel
theorem dX5_measureProposal_105 : decode cX5_measureProposal 105 = .ok (.iconst 0, 1) := by decide +kernel
theorem dX5_measureProposal_106 : decode cX5_measureProposal 106 = .ok (.goto 9, 3) := by decide +kernel
theorem dX5_measureProposal_109 : decode cX5_measureProposal 109 = .ok (.iload 4, 2) := by decide +kernel
theorem dX5_measureProposal_111 : decode cX5_measureProposal 111 = .ok (.iload_n 3, 1) := by decide +kernel
theorem dX5_measureProposal_112 : decode cX5_measureProposal 112 = .ok (.invokestatic 89, 3) := by decide +kernel
theorem dX5_measureProposal_115 : decode cX5_measureProposal 115 = .ok (.iastore, 1) := by decide +kernel
theorem dX5_measureProposal_116 : decode cX5_measureProposal 116 = .ok (.aload_n 0, 1) := by decide +kernel
theorem dX5_measureProposal_117 : decode cX5_measureProposal 117 = .ok (.getfield 27, 3) := by decide +kernel
theorem dX5_measureProposal_120 : decode cX5_measureProposal 120 = .ok (.iload_n 2, 1) := by decide +kernel
theorem dX5_measureProposal_121 : decode cX5_measureProposal 121 = .ok (.iload 5, 2) := by decide +kernel
theorem dX5_measureProposal_123 : decode cX5_measureProposal 123 = .ok (.iastore, 1) := by decide +kernel
theorem dX5_measureProposal_124 : decode cX5_measureProposal 124 = .ok (.aload_n 0, 1) := by decide +kernel
theorem dX5_measureProposal_125 : decode cX5_measureProposal 125 = .ok (.getfield 30, 3) := by decide +kernel
theorem dX5_measureProposal_128 : decode cX5_measureProposal 128 = .ok (.iload_n 2, 1) := by decide +kernel
theorem dX5_measureProposal_129 : decode cX5_measureProposal 129 = .ok (.iload 6, 2) := by decide +kernel
theorem dX5_measureProposal_131 : decode cX5_measureProposal 131 = .ok (.iastore, 1) := by decide +kernel
theorem dX5_measureProposal_132 : decode cX5_measureProposal 132 = .ok (.return_, 1) := by decide +kernel
theorem dX5_adjustedScore_0 : decode cX5_adjustedScore 0 = .ok (.aload_n 0, 1) := by decide +kernel
theorem dX5_adjustedScore_1 : decode cX5_adjustedScore 1 = .ok (.getfield 9, 3) := by decide +kernel
theorem dX5_adjustedScore_4 : decode cX5_adjustedScore 4 = .ok (.iload_n 1, 1) := by decide +kernel
theorem dX5_adjustedScore_5 : decode cX5_adjustedScore 5 = .ok (.iaload, 1) := by decide +kernel
theorem dX5_adjustedScore_6 : decode cX5_adjustedScore 6 = .ok (.istore_n 3, 1) := by decide +kernel
theorem dX5_adjustedScore_7 : decode cX5_adjustedScore 7 = .ok (.aload_n 0, 1) := by decide +kernel
theorem dX5_adjustedScore_8 : decode cX5_adjustedScore 8 = .ok (.getfield 18, 3) := by decide +kernel
theorem dX5_adjustedScore_11 : decode cX5_adjustedScore 11 = .ok (.iload_n 1, 1) := by decide +kernel
theorem dX5_adjustedScore_12 : decode cX5_adjustedScore 12 = .ok (.iaload, 1) := by decide +kernel
theorem dX5_adjustedScore_13 : decode cX5_adjustedScore 13 = .ok (.ifCond .ne 6, 3) := by decide +kernel
theorem dX5_adjustedScore_16 : decode cX5_adjustedScore 16 = .ok (.ldc 92, 2) := by decide +kernel
theorem dX5_adjustedScore_18 : decode cX5_adjustedScore 18 = .ok (.ireturn, 1) := by decide +kernel
theorem dX5_adjustedScore_19 : decode cX5_adjustedScore 19 = .ok (.ldc 92, 2) := by decide +kernel
theorem dX5_adjustedScore_21 : decode cX5_adjustedScore 21 = .ok (.sipush 20000, 3) := by decide +kernel
theorem dX5_adjustedScore_24 : decode cX5_adjustedScore 24 = .ok (.iload_n 3, 1) := by decide +kernel
theorem dX5_adjustedScore_25 : decode cX5_adjustedScore 25 = .ok (.imul, 1) := by decide +kernel
theorem dX5_adjustedScore_26 : decode cX5_adjustedScore 26 = .ok (.iload_n 3, 1) := by decide +kernel
theorem dX5_adjustedScore_27 : decode cX5_adjustedScore 27 = .ok (.iload_n 2, 1) := by decide +kernel
theorem dX5_adjustedScore_28 : decode cX5_adjustedScore 28 = .ok (.imul, 1) := by decide +kernel
theorem dX5_adjustedScore_29 : decode cX5_adjustedScore 29 = .ok (.aload_n 0, 1) := by decide +kernel
theorem dX5_adjustedScore_30 : decode cX5_adjustedScore 30 = .ok (.getfield 15, 3) := by decide +kernel
theorem dX5_adjustedScore_33 : decode cX5_adjustedScore 33 = .ok (.iload_n 1, 1) := by decide +kernel
theorem dX5_adjustedScore_34 : decode cX5_adjustedScore 34 = .ok (.iaload, 1) := by decide +kernel
theorem dX5_adjustedScore_35 : decode cX5_adjustedScore 35 = .ok (.isub, 1) := by decide +kernel
theorem dX5_adjustedScore_36 : decode cX5_adjustedScore 36 = .ok (.imul, 1) := by decide +kernel
theorem dX5_adjustedScore_37 : decode cX5_adjustedScore 37 = .ok (.aload_n 0, 1) := by decide +kernel
theorem dX5_adjustedScore_38 : decode cX5_adjustedScore 38 = .ok (.getfield 18, 3) := by decide +kernel
theorem dX5_adjustedScore_41 : decode cX5_adjustedScore 41 = .ok (.iload_n 1, 1) := by decide +kernel
theorem dX5_adjustedScore_42 : decode cX5_adjustedScore 42 = .ok (.iaload, 1) := by decide +kernel
theorem dX5_adjustedScore_43 : decode cX5_adjustedScore 43 = .ok (.invokestatic 89, 3) := by decide +kernel
theorem dX5_adjustedScore_46 : decode cX5_adjustedScore 46 = .ok (.iadd, 1) := by decide +kernel
theorem dX5_adjustedScore_47 : decode cX5_adjustedScore 47 = .ok (.ireturn, 1) := by decide +kernel
theorem dX5_insert_0 : decode cX5_insert 0 = .ok (.aload_n 0, 1) := by decide +kernel
theorem dX5_insert_1 : decode cX5_insert 1 = .ok (.getfield 49, 3) := by decide +kernel
theorem dX5_insert_4 : decode cX5_insert 4 = .ok (.istore_n 2, 1) := by decide +kernel
theorem dX5_insert_5 : decode cX5_insert 5 = .ok (.iload_n 2, 1) := by decide +kernel
theorem dX5_insert_6 : decode cX5_insert 6 = .ok (.ifCond .le 39, 3) := by decide +kernel
theorem dX5_insert_9 : decode cX5_insert 9 = .ok (.aload_n 0, 1) := by decide +kernel
theorem dX5_insert_10 : decode cX5_insert 10 = .ok (.iload_n 1, 1) := by decide +kernel
theorem dX5_insert_11 : decode cX5_insert 11 = .ok (.aload_n 0, 1) := by decide +kernel
theorem dX5_insert_12 : decode cX5_insert 12 = .ok (.getfield 36, 3) := by decide +kernel
theorem dX5_insert_15 : decode cX5_insert 15 = .ok (.iload_n 2, 1) := by decide +kernel
theorem dX5_insert_16 : decode cX5_insert 16 = .ok (.iconst 1, 1) := by decide +kernel
theorem dX5_insert_17 : decode cX5_insert 17 = .ok (.isub, 1) := by decide +kernel
theorem dX5_insert_18 : decode cX5_insert 18 = .ok (.iaload, 1) := by decide +kernel
theorem dX5_insert_19 : decode cX5_insert 19 = .ok (.invokevirtual 93, 3) := by decide +kernel
theorem dX5_insert_22 : decode cX5_insert 22 = .ok (.ifCond .eq 23, 3) := by decide +kernel
theorem dX5_insert_25 : decode cX5_insert 25 = .ok (.aload_n 0, 1) := by decide +kernel
theorem dX5_insert_26 : decode cX5_insert 26 = .ok (.getfield 36, 3) := by decide +kernel
theorem dX5_insert_29 : decode cX5_insert 29 = .ok (.iload_n 2, 1) := by decide +kernel
theorem dX5_insert_30 : decode cX5_insert 30 = .ok (.aload_n 0, 1) := by decide +kernel
theorem dX5_insert_31 : decode cX5_insert 31 = .ok (.getfield 36, 3) := by decide +kernel
theorem dX5_insert_34 : decode cX5_insert 34 = .ok (.iload_n 2, 1) := by decide +kernel
theorem dX5_insert_35 : decode cX5_insert 35 = .ok (.iconst 1, 1) := by decide +kernel
theorem dX5_insert_36 : decode cX5_insert 36 = .ok (.isub, 1) := by decide +kernel
theorem dX5_insert_37 : decode cX5_insert 37 = .ok (.iaload, 1) := by decide +kernel
theorem dX5_insert_38 : decode cX5_insert 38 = .ok (.iastore, 1) := by decide +kernel
theorem dX5_insert_39 : decode cX5_insert 39 = .ok (.iinc 2 (-1), 3) := by decide +kernel
theorem dX5_insert_42 : decode cX5_insert 42 = .ok (.goto (-37), 3) := by decide +kernel
theorem dX5_insert_45 : decode cX5_insert 45 = .ok (.aload_n 0, 1) := by decide +kernel
theorem dX5_insert_46 : decode cX5_insert 46 = .ok (.getfield 36, 3) := by decide +kernel
theorem dX5_insert_49 : decode cX5_insert 49 = .ok (.iload_n 2, 1) := by decide +kernel
theorem dX5_insert_50 : decode cX5_insert 50 = .ok (.iload_n 1, 1) := by decide +kernel
theorem dX5_insert_51 : decode cX5_insert 51 = .ok (.iastore, 1) := by decide +kernel
theorem dX5_insert_52 : decode cX5_insert 52 = .ok (.aload_n 0, 1) := by decide +kernel
theorem dX5_insert_53 : decode cX5_insert 53 = .ok (.dup, 1) := by decide +kernel
theorem dX5_insert_54 : decode cX5_insert 54 = .ok (.getfield 49, 3) := by decide +kernel
theorem dX5_insert_57 : decode cX5_insert 57 = .ok (.iconst 1, 1) := by decide +kernel
theorem dX5_insert_58 : decode cX5_insert 58 = .ok (.iadd, 1) := by decide +kernel
theorem dX5_insert_59 : decode cX5_insert 59 = .ok (.putfield 49, 3) := by decide +kernel
theorem dX5_insert_62 : decode cX5_insert 62 = .ok (.return_, 1) := by decide +kernel
theorem dX5_isRanked_0 : decode cX5_isRanked 0 = .ok (.aload_n 0, 1) := by decide +kernel
theorem dX5_isRanked_1 : decode cX5_isRanked 1 = .ok (.getfield 21, 3) := by decide +kernel
theorem dX5_isRanked_4 : decode cX5_isRanked 4 = .ok (.iload_n 1, 1) := by decide +kernel
theorem dX5_isRanked_5 : decode cX5_isRanked 5 = .ok (.iaload, 1) := by decide +kernel
theorem dX5_isRanked_6 : decode cX5_isRanked 6 = .ok (.ifCond .le 7, 3) := by decide +kernel
theorem dX5_isRanked_9 : decode cX5_isRanked 9 = .ok (.iconst 1, 1) := by decide +kernel
theorem dX5_isRanked_10 : decode cX5_isRanked 10 = .ok (.goto 4, 3) := by decide +kernel
theorem dX5_isRanked_13 : decode cX5_isRanked 13 = .ok (.iconst 0, 1) := by decide +kernel
theorem dX5_isRanked_14 : decode cX5_isRanked 14 = .ok (.ireturn, 1) := by decide +kernel
theorem dX5_isBefore_0 : decode cX5_isBefore 0 = .ok (.aload_n 0, 1) := by decide +kernel
theorem dX5_isBefore_1 : decode cX5_isBefore 1 = .ok (.iload_n 1, 1) := by decide +kernel
theorem dX5_isBefore_2 : decode cX5_isBefore 2 = .ok (.iload_n 2, 1) := by decide +kernel
theorem dX5_isBefore_3 : decode cX5_isBefore 3 = .ok (.invokevirtual 96, 3) := by decide +kernel
theorem dX5_isBefore_6 : decode cX5_isBefore 6 = .ok (.istore_n 3, 1) := by decide +kernel
theorem dX5_isBefore_7 : decode cX5_isBefore 7 = .ok (.aload_n 0, 1) := by decide +kernel
theorem dX5_isBefore_8 : decode cX5_isBefore 8 = .ok (.iload_n 3, 1) := by decide +kernel
theorem dX5_isBefore_9 : decode cX5_isBefore 9 = .ok (.iload_n 1, 1) := by decide +kernel
theorem dX5_isBefore_10 : decode cX5_isBefore 10 = .ok (.invokevirtual 99, 3) := by decide +kernel
theorem dX5_isBefore_13 : decode cX5_isBefore 13 = .ok (.aload_n 0, 1) := by decide +kernel
theorem dX5_isBefore_14 : decode cX5_isBefore 14 = .ok (.iload_n 3, 1) := by decide +kernel
theorem dX5_isBefore_15 : decode cX5_isBefore 15 = .ok (.iload_n 2, 1) := by decide +kernel
theorem dX5_isBefore_16 : decode cX5_isBefore 16 = .ok (.invokevirtual 99, 3) := by decide +kernel
theorem dX5_isBefore_19 : decode cX5_isBefore 19 = .ok (.if_icmp .le 7, 3) := by decide +kernel
theorem dX5_isBefore_22 : decode cX5_isBefore 22 = .ok (.iconst 1, 1) := by decide +kernel
theorem dX5_isBefore_23 : decode cX5_isBefore 23 = .ok (.goto 4, 3) := by decide +kernel
theorem dX5_isBefore_26 : decode cX5_isBefore 26 = .ok (.iconst 0, 1) := by decide +kernel
theorem dX5_isBefore_27 : decode cX5_isBefore 27 = .ok (.ireturn, 1) := by decide +kernel
theorem dX5_separation_0 : decode cX5_separation 0 = .ok (.iconst 0, 1) := by decide +kernel
theorem dX5_separation_1 : decode cX5_separation 1 = .ok (.istore_n 3, 1) := by decide +kernel
theorem dX5_separation_2 : decode cX5_separation 2 = .ok (.iload_n 3, 1) := by decide +kernel
theorem dX5_separation_3 : decode cX5_separation 3 = .ok (.iconst 4, 1) := by decide +kernel
theorem dX5_separation_4 : decode cX5_separation 4 = .ok (.if_icmp .ge 26, 3) := by decide +kernel
theorem dX5_separation_7 : decode cX5_separation 7 = .ok (.aload_n 0, 1) := by decide +kernel
theorem dX5_separation_8 : decode cX5_separation 8 = .ok (.iload_n 3, 1) := by decide +kernel
theorem dX5_separation_9 : decode cX5_separation 9 = .ok (.iload_n 1, 1) := by decide +kernel
theorem dX5_separation_10 : decode cX5_separation 10 = .ok (.invokevirtual 99, 3) := by decide +kernel
theorem dX5_separation_13 : decode cX5_separation 13 = .ok (.aload_n 0, 1) := by decide +kernel
theorem dX5_separation_14 : decode cX5_separation 14 = .ok (.iload_n 3, 1) := by decide +kernel
theorem dX5_separation_15 : decode cX5_separation 15 = .ok (.iload_n 2, 1) := by decide +kernel
theorem dX5_separation_16 : decode cX5_separation 16 = .ok (.invokevirtual 99, 3) := by decide +kernel
theorem dX5_separation_19 : decode cX5_separation 19 = .ok (.if_icmp .eq 5, 3) := by decide +kernel
theorem dX5_separation_22 : decode cX5_separation 22 = .ok (.iload_n 3, 1) := by decide +kernel
theorem dX5_separation_23 : decode cX5_separation 23 = .ok (.ireturn, 1) := by decide +kernel
theorem dX5_separation_24 : decode cX5_separation 24 = .ok (.iinc 3 1, 3) := by decide +kernel
theorem dX5_separation_27 : decode cX5_separation 27 = .ok (.goto (-25), 3) := by decide +kernel
theorem dX5_separation_30 : decode cX5_separation 30 = .ok (.iconst 4, 1) := by decide +kernel
theorem dX5_separation_31 : decode cX5_separation 31 = .ok (.ireturn, 1) := by decide +kernel
theorem dX5_merit_0 : decode cX5_merit 0 = .ok (.iload_n 1, 1) := by decide +kernel
theorem dX5_merit_1 : decode cX5_merit 1 = .ok (.tableswitch 60 0 3 #[31, 38, 45, 52], 31) := by decide +kernel
theorem dX5_merit_32 : decode cX5_merit 32 = .ok (.aload_n 0, 1) := by decide +kernel
theorem dX5_merit_33 : decode cX5_merit 33 = .ok (.getfield 24, 3) := by decide +kernel
theorem dX5_merit_36 : decode cX5_merit 36 = .ok (.iload_n 2, 1) := by decide +kernel
theorem dX5_merit_37 : decode cX5_merit 37 = .ok (.iaload, 1) := by decide +kernel
theorem dX5_merit_38 : decode cX5_merit 38 = .ok (.ireturn, 1) := by decide +kernel
theorem dX5_merit_39 : decode cX5_merit 39 = .ok (.aload_n 0, 1) := by decide +kernel
theorem dX5_merit_40 : decode cX5_merit 40 = .ok (.getfield 27, 3) := by decide +kernel
theorem dX5_merit_43 : decode cX5_merit 43 = .ok (.iload_n 2, 1) := by decide +kernel
theorem dX5_merit_44 : decode cX5_merit 44 = .ok (.iaload, 1) := by decide +kernel
theorem dX5_merit_45 : decode cX5_merit 45 = .ok (.ireturn, 1) := by decide +kernel
theorem dX5_merit_46 : decode cX5_merit 46 = .ok (.aload_n 0, 1) := by decide +kernel
theorem dX5_merit_47 : decode cX5_merit 47 = .ok (.getfield 30, 3) := by decide +kernel
theorem dX5_merit_50 : decode cX5_merit 50 = .ok (.iload_n 2, 1) := by decide +kernel
theorem dX5_merit_51 : decode cX5_merit 51 = .ok (.iaload, 1) := by decide +kernel
theorem dX5_merit_52 : decode cX5_merit 52 = .ok (.ireturn, 1) := by decide +kernel
theorem dX5_merit_53 : decode cX5_merit 53 = .ok (.aload_n 0, 1) := by decide +kernel
theorem dX5_merit_54 : decode cX5_merit 54 = .ok (.getfield 33, 3) := by decide +kernel
theorem dX5_merit_57 : decode cX5_merit 57 = .ok (.iload_n 2, 1) := by decide +kernel
theorem dX5_merit_58 : decode cX5_merit 58 = .ok (.iaload, 1) := by decide +kernel
theorem dX5_merit_59 : decode cX5_merit 59 = .ok (.ineg, 1) := by decide +kernel
theorem dX5_merit_60 : decode cX5_merit 60 = .ok (.ireturn, 1) := by decide +kernel
theorem dX5_merit_61 : decode cX5_merit 61 = .ok (.iload_n 2, 1) := by decide +kernel
theorem dX5_merit_62 : decode cX5_merit 62 = .ok (.ineg, 1) := by decide +kernel
theorem dX5_merit_63 : decode cX5_merit 63 = .ok (.ireturn, 1) := by decide +kernel
theorem dX6_init_0 : decode cX6_init 0 = .ok (.aload_n 0, 1) := by decide +kernel
theorem dX6_init_1 : decode cX6_init 1 = .ok (.invokespecial 3, 3) := by decide +kernel
theorem dX6_init_4 : decode cX6_init 4 = .ok (.aload_n 0, 1) := by decide +kernel
theorem dX6_init_5 : decode cX6_init 5 = .ok (.iconst 4, 1) := by decide +kernel
theorem dX6_init_6 : decode cX6_init 6 = .ok (.newarray .int, 2) := by decide +kernel
theorem dX6_init_8 : decode cX6_init 8 = .ok (.putfield 9, 3) := by decide +kernel
theorem dX6_init_11 : decode cX6_init 11 = .ok (.aload_n 0, 1) := by decide +kernel
theorem dX6_init_12 : decode cX6_init 12 = .ok (.bipush 12, 2) := by decide +kernel
theorem dX6_init_14 : decode cX6_init 14 = .ok (.newarray .int, 2) := by decide +kernel
theorem dX6_init_16 : decode cX6_init 16 = .ok (.putfield 15, 3) := by decide +kernel
theorem dX6_init_19 : decode cX6_init 19 = .ok (.aload_n 0, 1) := by decide +kernel
theorem dX6_init_20 : decode cX6_init 20 = .ok (.bipush 12, 2) := by decide +kernel
theorem dX6_init_22 : decode cX6_init 22 = .ok (.newarray .int, 2) := by decide +kernel
theorem dX6_init_24 : decode cX6_init 24 = .ok (.putfield 18, 3) := by decide +kernel
theorem dX6_init_27 : decode cX6_init 27 = .ok (.aload_n 0, 1) := by decide +kernel
theorem dX6_init_28 : decode cX6_init 28 = .ok (.bipush 12, 2) := by decide +kernel
theorem dX6_init_30 : decode cX6_init 30 = .ok (.newarray .int, 2) := by decide +kernel
theorem dX6_init_32 : decode cX6_init 32 = .ok (.putfield 21, 3) := by decide +kernel
theorem dX6_init_35 : decode cX6_init 35 = .ok (.aload_n 0, 1) := by decide +kernel
theorem dX6_init_36 : decode cX6_init 36 = .ok (.bipush 12, 2) := by decide +kernel
theorem dX6_init_38 : decode cX6_init 38 = .ok (.newarray .int, 2) := by decide +kernel
theorem dX6_init_40 : decode cX6_init 40 = .ok (.putfield 24, 3) := by decide +kernel
theorem dX6_init_43 : decode cX6_init 43 = .ok (.aload_n 0, 1) := by decide +kernel
theorem dX6_init_44 : decode cX6_init 44 = .ok (.bipush 12, 2) := by decide +kernel
theorem dX6_init_46 : decode cX6_init 46 = .ok (.newarray .int, 2) := by decide +kernel
theorem dX6_init_48 : decode cX6_init 48 = .ok (.putfield 27, 3) := by decide +kernel
theorem dX6_init_51 : decode cX6_init 51 = .ok (.aload_n 0, 1) := by decide +kernel
theorem dX6_init_52 : decode cX6_init 52 = .ok (.bipush 16, 2) := by decide +kernel
theorem dX6_init_54 : decode cX6_init 54 = .ok (.newarray .int, 2) := by decide +kernel
theorem dX6_init_56 : decode cX6_init 56 = .ok (.putfield 30, 3) := by decide +kernel
theorem dX6_init_59 : decode cX6_init 59 = .ok (.aload_n 0, 1) := by decide +kernel
theorem dX6_init_60 : decode cX6_init 60 = .ok (.bipush 16, 2) := by decide +kernel
theorem dX6_init_62 : decode cX6_init 62 = .ok (.newarray .int, 2) := by decide +kernel
theorem dX6_init_64 : decode cX6_init 64 = .ok (.putfield 33, 3) := by decide +kernel
theorem dX6_init_67 : decode cX6_init 67 = .ok (.aload_n 0, 1) := by decide +kernel
theorem dX6_init_68 : decode cX6_init 68 = .ok (.bipush 16, 2) := by decide +kernel
theorem dX6_init_70 : decode cX6_init 70 = .ok (.newarray .int, 2) := by decide +kernel
theorem dX6_init_72 : decode cX6_init 72 = .ok (.putfield 36, 3) := by decide +kernel
theorem dX6_init_75 : decode cX6_init 75 = .ok (.aload_n 0, 1) := by decide +kernel
theorem dX6_init_76 : decode cX6_init 76 = .ok (.bipush 16, 2) := by decide +kernel
theorem dX6_init_78 : decode cX6_init 78 = .ok (.newarray .int, 2) := by decide +kernel
theorem dX6_init_80 : decode cX6_init 80 = .ok (.putfield 39, 3) := by decide +kernel
theorem dX6_init_83 : decode cX6_init 83 = .ok (.aload_n 0, 1) := by decide +kernel
theorem dX6_init_84 : decode cX6_init 84 = .ok (.bipush 16, 2) := by decide +kernel
theorem dX6_init_86 : decode cX6_init 86 = .ok (.newarray .int, 2) := by decide +kernel
theorem dX6_init_88 : decode cX6_init 88 = .ok (.putfield 42, 3) := by decide +kernel
theorem dX6_init_91 : decode cX6_init 91 = .ok (.aload_n 0, 1) := by decide +kernel
theorem dX6_init_92 : decode cX6_init 92 = .ok (.iconst 2, 1) := by decide +kernel
theorem dX6_init_93 : decode cX6_init 93 = .ok (.putfield 45, 3) := by decide +kernel
theorem dX6_init_96 : decode cX6_init 96 = .ok (.aload_n 0, 1) := by decide +kernel
theorem dX6_init_97 : decode cX6_init 97 = .ok (.bipush 20, 2) := by decide +kernel
theorem dX6_init_99 : decode cX6_init 99 = .ok (.putfield 49, 3) := by decide +kernel
theorem dX6_init_102 : decode cX6_init 102 = .ok (.return_, 1) := by decide +kernel
theorem dX6_clear_0 : decode cX6_clear 0 = .ok (.aload_n 0, 1) := by decide +kernel
theorem dX6_clear_1 : decode cX6_clear 1 = .ok (.iconst 0, 1) := by decide +kernel
theorem dX6_clear_2 : decode cX6_clear 2 = .ok (.putfield 52, 3) := by decide +kernel
theorem dX6_clear_5 : decode cX6_clear 5 = .ok (.aload_n 0, 1) := by decide +kernel
theorem dX6_clear_6 : decode cX6_clear 6 = .ok (.iconst 0, 1) := by decide +kernel
theorem dX6_clear_7 : decode cX6_clear 7 = .ok (.putfield 55, 3) := by decide +kernel
theorem dX6_clear_10 : decode cX6_clear 10 = .ok (.aload_n 0, 1) := by decide +kernel
theorem dX6_clear_11 : decode cX6_clear 11 = .ok (.iconst 0, 1) := by decide +kernel
theorem dX6_clear_12 : decode cX6_clear 12 = .ok (.putfield 58, 3) := by decide +kernel
theorem dX6_clear_15 : decode cX6_clear 15 = .ok (.aload_n 0, 1) := by decide +kernel
theorem dX6_clear_16 : decode cX6_clear 16 = .ok (.getfield 27, 3) := by decide +kernel
theorem dX6_clear_19 : decode cX6_clear 19 = .ok (.iconst 0, 1) := by decide +kernel
theorem dX6_clear_20 : decode cX6_clear 20 = .ok (.invokestatic 61, 3) := by decide +kernel
theorem dX6_clear_23 : decode cX6_clear 23 = .ok (.aload_n 0, 1) := by decide +kernel
theorem dX6_clear_24 : decode cX6_clear 24 = .ok (.iconst 2, 1) := by decide +kernel
theorem dX6_clear_25 : decode cX6_clear 25 = .ok (.putfield 45, 3) := by decide +kernel
theorem dX6_clear_28 : decode cX6_clear 28 = .ok (.aload_n 0, 1) := by decide +kernel
theorem dX6_clear_29 : decode cX6_clear 29 = .ok (.bipush 20, 2) := by decide +kernel
theorem dX6_clear_31 : decode cX6_clear 31 = .ok (.putfield 49, 3) := by decide +kernel
theorem dX6_clear_34 : decode cX6_clear 34 = .ok (.aload_n 0, 1) := by decide +kernel
theorem dX6_clear_35 : decode cX6_clear 35 = .ok (.iconst 0, 1) := by decide +kernel
theorem dX6_clear_36 : decode cX6_clear 36 = .ok (.putfield 67, 3) := by decide +kernel
theorem dX6_clear_39 : decode cX6_clear 39 = .ok (.aload_n 0, 1) := by decide +kernel
theorem dX6_clear_40 : decode cX6_clear 40 = .ok (.iconst 0, 1) := by decide +kernel
theorem dX6_clear_41 : decode cX6_clear 41 = .ok (.putfield 70, 3) := by decide +kernel
theorem dX6_clear_44 : decode cX6_clear 44 = .ok (.return_, 1) := by decide +kernel
theorem dX6_matchOf_0 : decode cX6_matchOf 0 = .ok (.iconst 1, 1) := by decide +kernel
theorem dX6_matchOf_1 : decode cX6_matchOf 1 = .ok (.aload_n 0, 1) := by decide +kernel
theorem dX6_matchOf_2 : decode cX6_matchOf 2 = .ok (.getfield 36, 3) := by decide +kernel
theorem dX6_matchOf_5 : decode cX6_matchOf 5 = .ok (.iload_n 2, 1) := by decide +kernel
theorem dX6_matchOf_6 : decode cX6_matchOf 6 = .ok (.iaload, 1) := by decide +kernel
theorem dX6_matchOf_7 : decode cX6_matchOf 7 = .ok (.ishl, 1) := by decide +kernel
theorem dX6_matchOf_8 : decode cX6_matchOf 8 = .ok (.istore_n 3, 1) := by decide +kernel
theorem dX6_matchOf_9 : decode cX6_matchOf 9 = .ok (.iload_n 3, 1) := by decide +kernel
theorem dX6_matchOf_10 : decode cX6_matchOf 10 = .ok (.iconst 1, 1) := by decide +kernel
theorem dX6_matchOf_11 : decode cX6_matchOf 11 = .ok (.ishl, 1) := by decide +kernel
theorem dX6_matchOf_12 : decode cX6_matchOf 12 = .ok (.iload_n 3, 1) := by decide +kernel
theorem dX6_matchOf_13 : decode cX6_matchOf 13 = .ok (.iconst 1, 1) := by decide +kernel
theorem dX6_matchOf_14 : decode cX6_matchOf 14 = .ok (.ishr, 1) := by decide +kernel
theorem dX6_matchOf_15 : decode cX6_matchOf 15 = .ok (.ior, 1) := by decide +kernel
theorem dX6_matchOf_16 : decode cX6_matchOf 16 = .ok (.istore 4, 2) := by decide +kernel
theorem dX6_matchOf_18 : decode cX6_matchOf 18 = .ok (.aload_n 0, 1) := by decide +kernel
theorem dX6_matchOf_19 : decode cX6_matchOf 19 = .ok (.getfield 24, 3) := by decide +kernel
theorem dX6_matchOf_22 : decode cX6_matchOf 22 = .ok (.iload_n 1, 1) := by decide +kernel
theorem dX6_matchOf_23 : decode cX6_matchOf 23 = .ok (.iaload, 1) := by decide +kernel
theorem dX6_matchOf_24 : decode cX6_matchOf 24 = .ok (.iload_n 3, 1) := by decide +kernel
theorem dX6_matchOf_25 : decode cX6_matchOf 25 = .ok (.iand, 1) := by decide +kernel
theorem dX6_matchOf_26 : decode cX6_matchOf 26 = .ok (.ifCond .eq 5, 3) := by decide +kernel
theorem dX6_matchOf_29 : decode cX6_matchOf 29 = .ok (.iconst 2, 1) := by decide +kernel
theorem dX6_matchOf_30 : decode cX6_matchOf 30 = .ok (.ireturn, 1) := by decide +kernel
theorem dX6_matchOf_31 : decode cX6_matchOf 31 = .ok (.aload_n 0, 1) := by decide +kernel
theorem dX6_matchOf_32 : decode cX6_matchOf 32 = .ok (.getfield 24, 3) := by decide +kernel
theorem dX6_matchOf_35 : decode cX6_matchOf 35 = .ok (.iload_n 1, 1) := by decide +kernel
theorem dX6_matchOf_36 : decode cX6_matchOf 36 = .ok (.iaload, 1) := by decide +kernel
theorem dX6_matchOf_37 : decode cX6_matchOf 37 = .ok (.iload 4, 2) := by decide +kernel
theorem dX6_matchOf_39 : decode cX6_matchOf 39 = .ok (.iand, 1) := by decide +kernel
theorem dX6_matchOf_40 : decode cX6_matchOf 40 = .ok (.ifCond .eq 7, 3) := by decide +kernel
theorem dX6_matchOf_43 : decode cX6_matchOf 43 = .ok (.iconst 1, 1) := by decide +kernel
theorem dX6_matchOf_44 : decode cX6_matchOf 44 = .ok (.goto 4, 3) := by decide +kernel
theorem dX6_matchOf_47 : decode cX6_matchOf 47 = .ok (.iconst 0, 1) := by decide +kernel
theorem dX6_matchOf_48 : decode cX6_matchOf 48 = .ok (.ireturn, 1) := by decide +kernel
theorem dX7_init_0 : decode cX7_init 0 = .ok (.aload_n 0, 1) := by decide +kernel
theorem dX7_init_1 : decode cX7_init 1 = .ok (.invokespecial 3, 3) := by decide +kernel
theorem dX7_init_4 : decode cX7_init 4 = .ok (.aload_n 0, 1) := by decide +kernel
theorem dX7_init_5 : decode cX7_init 5 = .ok (.sipush 192, 3) := by decide +kernel
theorem dX7_init_8 : decode cX7_init 8 = .ok (.newarray .int, 2) := by decide +kernel
theorem dX7_init_10 : decode cX7_init 10 = .ok (.putfield 9, 3) := by decide +kernel
theorem dX7_init_13 : decode cX7_init 13 = .ok (.aload_n 0, 1) := by decide +kernel
theorem dX7_init_14 : decode cX7_init 14 = .ok (.bipush 12, 2) := by decide +kernel
theorem dX7_init_16 : decode cX7_init 16 = .ok (.newarray .int, 2) := by decide +kernel
theorem dX7_init_18 : decode cX7_init 18 = .ok (.putfield 15, 3) := by decide +kernel
theorem dX7_init_21 : decode cX7_init 21 = .ok (.return_, 1) := by decide +kernel
theorem dX7_restart_0 : decode cX7_restart 0 = .ok (.aload_n 0, 1) := by decide +kernel
theorem dX7_restart_1 : decode cX7_restart 1 = .ok (.getfield 9, 3) := by decide +kernel
theorem dX7_restart_4 : decode cX7_restart 4 = .ok (.iconst 0, 1) := by decide +kernel
theorem dX7_restart_5 : decode cX7_restart 5 = .ok (.invokestatic 18, 3) := by decide +kernel
theorem dX7_restart_8 : decode cX7_restart 8 = .ok (.aload_n 1, 1) := by decide +kernel
theorem dX7_restart_9 : decode cX7_restart 9 = .ok (.getfield 24, 3) := by decide +kernel
theorem dX7_restart_12 : decode cX7_restart 12 = .ok (.iconst 0, 1) := by decide +kernel
theorem dX7_restart_13 : decode cX7_restart 13 = .ok (.aload_n 0, 1) := by decide +kernel
theorem dX7_restart_14 : decode cX7_restart 14 = .ok (.getfield 15, 3) := by decide +kernel
theorem dX7_restart_17 : decode cX7_restart 17 = .ok (.iconst 0, 1) := by decide +kernel
theorem dX7_restart_18 : decode cX7_restart 18 = .ok (.bipush 12, 2) := by decide +kernel
theorem dX7_restart_20 : decode cX7_restart 20 = .ok (.invokestatic 29, 3) := by decide +kernel
theorem dX7_restart_23 : decode cX7_restart 23 = .ok (.aload_n 0, 1) := by decide +kernel
theorem dX7_restart_24 : decode cX7_restart 24 = .ok (.iconst 0, 1) := by decide +kernel
theorem dX7_restart_25 : decode cX7_restart 25 = .ok (.putfield 35, 3) := by decide +kernel
theorem dX7_restart_28 : decode cX7_restart 28 = .ok (.aload_n 0, 1) := by decide +kernel
theorem dX7_restart_29 : decode cX7_restart 29 = .ok (.aload_n 1, 1) := by decide +kernel
theorem dX7_restart_30 : decode cX7_restart 30 = .ok (.getfield 39, 3) := by decide +kernel
theorem dX7_restart_33 : decode cX7_restart 33 = .ok (.putfield 42, 3) := by decide +kernel
theorem dX7_restart_36 : decode cX7_restart 36 = .ok (.return_, 1) := by decide +kernel
theorem dX7_copyFrom_0 : decode cX7_copyFrom 0 = .ok (.aload_n 1, 1) := by decide +kernel
theorem dX7_copyFrom_1 : decode cX7_copyFrom 1 = .ok (.getfield 9, 3) := by decide +kernel
theorem dX7_copyFrom_4 : decode cX7_copyFrom 4 = .ok (.iconst 0, 1) := by decide +kernel
theorem dX7_copyFrom_5 : decode cX7_copyFrom 5 = .ok (.aload_n 0, 1) := by decide +kernel
theorem dX7_copyFrom_6 : decode cX7_copyFrom 6 = .ok (.getfield 9, 3) := by decide +kernel
theorem dX7_copyFrom_9 : decode cX7_copyFrom 9 = .ok (.iconst 0, 1) := by decide +kernel
theorem dX7_copyFrom_10 : decode cX7_copyFrom 10 = .ok (.sipush 192, 3) := by decide +kernel
theorem dX7_copyFrom_13 : decode cX7_copyFrom 13 = .ok (.invokestatic 29, 3) := by decide +kernel
theorem dX7_copyFrom_16 : decode cX7_copyFrom 16 = .ok (.aload_n 1, 1) := by decide +kernel
theorem dX7_copyFrom_17 : decode cX7_copyFrom 17 = .ok (.getfield 15, 3) := by decide +kernel
theorem dX7_copyFrom_20 : decode cX7_copyFrom 20 = .ok (.iconst 0, 1) := by decide +kernel
theorem dX7_copyFrom_21 : decode cX7_copyFrom 21 = .ok (.aload_n 0, 1) := by decide +kernel
theorem dX7_copyFrom_22 : decode cX7_copyFrom 22 = .ok (.getfield 15, 3) := by decide +kernel
theorem dX7_copyFrom_25 : decode cX7_copyFrom 25 = .ok (.iconst 0, 1) := by decide +kernel
theorem dX7_copyFrom_26 : decode cX7_copyFrom 26 = .ok (.bipush 12, 2) := by decide +kernel
theorem dX7_copyFrom_28 : decode cX7_copyFrom 28 = .ok (.invokestatic 29, 3) := by decide +kernel
theorem dX7_copyFrom_31 : decode cX7_copyFrom 31 = .ok (.aload_n 0, 1) := by decide +kernel
theorem dX7_copyFrom_32 : decode cX7_copyFrom 32 = .ok (.aload_n 1, 1) := by decide +kernel
theorem dX7_copyFrom_33 : decode cX7_copyFrom 33 = .ok (.getfield 35, 3) := by decide +kernel
theorem dX7_copyFrom_36 : decode cX7_copyFrom 36 = .ok (.putfield 35, 3) := by decide +kernel
theorem dX7_copyFrom_39 : decode cX7_copyFrom 39 = .ok (.aload_n 0, 1) := by decide +kernel
theorem dX7_copyFrom_40 : decode cX7_copyFrom 40 = .ok (.aload_n 1, 1) := by decide +kernel
theorem dX7_copyFrom_41 : decode cX7_copyFrom 41 = .ok (.getfield 42, 3) := by decide +kernel
theorem dX7_copyFrom_44 : decode cX7_copyFrom 44 = .ok (.putfield 42, 3) := by decide +kernel
theorem dX7_copyFrom_47 : decode cX7_copyFrom 47 = .ok (.return_, 1) := by decide +kernel
theorem dX7_scoreAt_0 : decode cX7_scoreAt 0 = .ok (.aload_n 0, 1) := by decide +kernel
theorem dX7_scoreAt_1 : decode cX7_scoreAt 1 = .ok (.getfield 9, 3) := by decide +kernel
theorem dX7_scoreAt_4 : decode cX7_scoreAt 4 = .ok (.iload_n 1, 1) := by decide +kernel
theorem dX7_scoreAt_5 : decode cX7_scoreAt 5 = .ok (.iload_n 2, 1) := by decide +kernel
theorem dX7_scoreAt_6 : decode cX7_scoreAt 6 = .ok (.invokestatic 43, 3) := by decide +kernel
theorem dX7_scoreAt_9 : decode cX7_scoreAt 9 = .ok (.iaload, 1) := by decide +kernel
theorem dX7_scoreAt_10 : decode cX7_scoreAt 10 = .ok (.ireturn, 1) := by decide +kernel
theorem dX7_put_0 : decode cX7_put 0 = .ok (.aload_n 0, 1) := by decide +kernel
theorem dX7_put_1 : decode cX7_put 1 = .ok (.getfield 9, 3) := by decide +kernel
theorem dX7_put_4 : decode cX7_put 4 = .ok (.iload_n 1, 1) := by decide +kernel
theorem dX7_put_5 : decode cX7_put 5 = .ok (.iload_n 2, 1) := by decide +kernel
theorem dX7_put_6 : decode cX7_put 6 = .ok (.invokestatic 43, 3) := by decide +kernel
theorem dX7_put_9 : decode cX7_put 9 = .ok (.iload_n 3, 1) := by decide +kernel
theorem dX7_put_10 : decode cX7_put 10 = .ok (.iastore, 1) := by decide +kernel
theorem dX7_put_11 : decode cX7_put 11 = .ok (.return_, 1) := by decide +kernel
theorem dX7_hasReview_0 : decode cX7_hasReview 0 = .ok (.aload_n 0, 1) := by decide +kernel
theorem dX7_hasReview_1 : decode cX7_hasReview 1 = .ok (.iload_n 1, 1) := by decide +kernel
theorem dX7_hasReview_2 : decode cX7_hasReview 2 = .ok (.iload_n 2, 1) := by decide +kernel
theorem dX7_hasReview_3 : decode cX7_hasReview 3 = .ok (.invokevirtual 47, 3) := by decide +kernel
theorem dX7_hasReview_6 : decode cX7_hasReview 6 = .ok (.ifCond .eq 7, 3) := by decide +kernel
theorem dX7_hasReview_9 : decode cX7_hasReview 9 = .ok (.iconst 1, 1) := by decide +kernel
theorem dX7_hasReview_10 : decode cX7_hasReview 10 = .ok (.goto 4, 3) := by decide +kernel
theorem dX7_hasReview_13 : decode cX7_hasReview 13 = .ok (.iconst 0, 1) := by decide +kernel
theorem dX7_hasReview_14 : decode cX7_hasReview 14 = .ok (.ireturn, 1) := by decide +kernel
theorem dX7_hasScore_0 : decode cX7_hasScore 0 = .ok (.aload_n 0, 1) := by decide +kernel
theorem dX7_hasScore_1 : decode cX7_hasScore 1 = .ok (.iload_n 1, 1) := by decide +kernel
theorem dX7_hasScore_2 : decode cX7_hasScore 2 = .ok (.iload_n 2, 1) := by decide +kernel
theorem dX7_hasScore_3 : decode cX7_hasScore 3 = .ok (.invokevirtual 47, 3) := by decide +kernel
theorem dX7_hasScore_6 : decode cX7_hasScore 6 = .ok (.ifCond .le 7, 3) := by decide +kernel
theorem dX7_hasScore_9 : decode cX7_hasScore 9 = .ok (.iconst 1, 1) := by decide +kernel
theorem dX7_hasScore_10 : decode cX7_hasScore 10 = .ok (.goto 4, 3) := by decide +kernel
theorem dX7_hasScore_13 : decode cX7_hasScore 13 = .ok (.iconst 0, 1) := by decide +kernel
theorem dX7_hasScore_14 : decode cX7_hasScore 14 = .ok (.ireturn, 1) := by decide +kernel
theorem dX7_isDeclared_0 : decode cX7_isDeclared 0 = .ok (.aload_n 0, 1) := by decide +kernel
theorem dX7_isDeclared_1 : decode cX7_isDeclared 1 = .ok (.getfield 15, 3) := by decide +kernel
theorem dX7_isDeclared_4 : decode cX7_isDeclared 4 = .ok (.iload_n 1, 1) := by decide +kernel
theorem dX7_isDeclared_5 : decode cX7_isDeclared 5 = .ok (.iaload, 1) := by decide +kernel
theorem dX7_isDeclared_6 : decode cX7_isDeclared 6 = .ok (.iload_n 2, 1) := by decide +kernel
theorem dX7_isDeclared_7 : decode cX7_isDeclared 7 = .ok (.ishr, 1) := by decide +kernel
theorem dX7_isDeclared_8 : decode cX7_isDeclared 8 = .ok (.iconst 1, 1) := by decide +kernel
theorem dX7_isDeclared_9 : decode cX7_isDeclared 9 = .ok (.iand, 1) := by decide +kernel
theorem dX7_isDeclared_10 : decode cX7_isDeclared 10 = .ok (.ifCond .eq 7, 3) := by decide +kernel
theorem dX7_isDeclared_13 : decode cX7_isDeclared 13 = .ok (.iconst 1, 1) := by decide +kernel
theorem dX7_isDeclared_14 : decode cX7_isDeclared 14 = .ok (.goto 4, 3) := by decide +kernel
theorem dX7_isDeclared_17 : decode cX7_isDeclared 17 = .ok (.iconst 0, 1) := by decide +kernel
theorem dX7_isDeclared_18 : decode cX7_isDeclared 18 = .ok (.ireturn, 1) := by decide +kernel
theorem dX7_addConflict_0 : decode cX7_addConflict 0 = .ok (.aload_n 0, 1) := by decide +kernel
theorem dX7_addConflict_1 : decode cX7_addConflict 1 = .ok (.getfield 15, 3) := by decide +kernel
theorem dX7_addConflict_4 : decode cX7_addConflict 4 = .ok (.iload_n 1, 1) := by decide +kernel
theorem dX7_addConflict_5 : decode cX7_addConflict 5 = .ok (.dup2, 1) := by decide +kernel
theorem dX7_addConflict_6 : decode cX7_addConflict 6 = .ok (.iaload, 1) := by decide +kernel
theorem dX7_addConflict_7 : decode cX7_addConflict 7 = .ok (.iconst 1, 1) := by decide +kernel
theorem dX7_addConflict_8 : decode cX7_addConflict 8 = .ok (.iload_n 2, 1) := by decide +kernel
theorem dX7_addConflict_9 : decode cX7_addConflict 9 = .ok (.ishl, 1) := by decide +kernel
theorem dX7_addConflict_10 : decode cX7_addConflict 10 = .ok (.ior, 1) := by decide +kernel
theorem dX7_addConflict_11 : decode cX7_addConflict 11 = .ok (.iastore, 1) := by decide +kernel
theorem dX7_addConflict_12 : decode cX7_addConflict 12 = .ok (.return_, 1) := by decide +kernel
theorem dX7_isGranted_0 : decode cX7_isGranted 0 = .ok (.aload_n 0, 1) := by decide +kernel
theorem dX7_isGranted_1 : decode cX7_isGranted 1 = .ok (.getfield 35, 3) := by decide +kernel
theorem dX7_isGranted_4 : decode cX7_isGranted 4 = .ok (.iload_n 1, 1) := by decide +kernel
theorem dX7_isGranted_5 : decode cX7_isGranted 5 = .ok (.ishr, 1) := by decide +kernel
theorem dX7_isGranted_6 : decode cX7_isGranted 6 = .ok (.iconst 1, 1) := by decide +kernel
theorem dX7_isGranted_7 : decode cX7_isGranted 7 = .ok (.iand, 1) := by decide +kernel
theorem dX7_isGranted_8 : decode cX7_isGranted 8 = .ok (.ifCond .eq 7, 3) := by decide +kernel
theorem dX7_isGranted_11 : decode cX7_isGranted 11 = .ok (.iconst 1, 1) := by decide +kernel
theorem dX7_isGranted_12 : decode cX7_isGranted 12 = .ok (.goto 4, 3) := by decide +kernel
theorem dX7_isGranted_15 : decode cX7_isGranted 15 = .ok (.iconst 0, 1) := by decide +kernel
theorem dX7_isGranted_16 : decode cX7_isGranted 16 = .ok (.ireturn, 1) := by decide +kernel
theorem dX7_grantAppeal_0 : decode cX7_grantAppeal 0 = .ok (.aload_n 0, 1) := by decide +kernel
theorem dX7_grantAppeal_1 : decode cX7_grantAppeal 1 = .ok (.dup, 1) := by decide +kernel
theorem dX7_grantAppeal_2 : decode cX7_grantAppeal 2 = .ok (.getfield 35, 3) := by decide +kernel
theorem dX7_grantAppeal_5 : decode cX7_grantAppeal 5 = .ok (.iconst 1, 1) := by decide +kernel
theorem dX7_grantAppeal_6 : decode cX7_grantAppeal 6 = .ok (.iload_n 1, 1) := by decide +kernel
theorem dX7_grantAppeal_7 : decode cX7_grantAppeal 7 = .ok (.ishl, 1) := by decide +kernel
theorem dX7_grantAppeal_8 : decode cX7_grantAppeal 8 = .ok (.ior, 1) := by decide +kernel
theorem dX7_grantAppeal_9 : decode cX7_grantAppeal 9 = .ok (.putfield 35, 3) := by decide +kernel
theorem dX7_grantAppeal_12 : decode cX7_grantAppeal 12 = .ok (.return_, 1) := by decide +kernel
theorem dX7_reviewsOfReviewer_0 : decode cX7_reviewsOfReviewer 0 = .ok (.iconst 0, 1) := by decide +kernel
theorem dX7_reviewsOfReviewer_1 : decode cX7_reviewsOfReviewer 1 = .ok (.istore_n 2, 1) := by decide +kernel
theorem dX7_reviewsOfReviewer_2 : decode cX7_reviewsOfReviewer 2 = .ok (.iconst 0, 1) := by decide +kernel
theorem dX7_reviewsOfReviewer_3 : decode cX7_reviewsOfReviewer 3 = .ok (.istore_n 3, 1) := by decide +kernel
theorem dX7_reviewsOfReviewer_4 : decode cX7_reviewsOfReviewer 4 = .ok (.iload_n 3, 1) := by decide +kernel
theorem dX7_reviewsOfReviewer_5 : decode cX7_reviewsOfReviewer 5 = .ok (.bipush 16, 2) := by decide +kernel
theorem dX7_reviewsOfReviewer_7 : decode cX7_reviewsOfReviewer 7 = .ok (.if_icmp .ge 21, 3) := by decide +kernel
theorem dX7_reviewsOfReviewer_10 : decode cX7_reviewsOfReviewer 10 = .ok (.aload_n 0, 1) := by decide +kernel
theorem dX7_reviewsOfReviewer_11 : decode cX7_reviewsOfReviewer 11 = .ok (.iload_n 1, 1) := by decide +kernel
theorem dX7_reviewsOfReviewer_12 : decode cX7_reviewsOfReviewer 12 = .ok (.iload_n 3, 1) := by decide +kernel
theorem dX7_reviewsOfReviewer_13 : decode cX7_reviewsOfReviewer 13 = .ok (.invokevirtual 50, 3) := by decide +kernel
theorem dX7_reviewsOfReviewer_16 : decode cX7_reviewsOfReviewer 16 = .ok (.ifCond .eq 6, 3) := by decide +kernel
theorem dX7_reviewsOfReviewer_19 : decode cX7_reviewsOfReviewer 19 = .ok (.iinc 2 1, 3) := by decide +kernel
theorem dX7_reviewsOfReviewer_22 : decode cX7_reviewsOfReviewer 22 = .ok (.iinc 3 1, 3) := by decide +kernel
theorem dX7_reviewsOfReviewer_25 : decode cX7_reviewsOfReviewer 25 = .ok (.goto (-21), 3) := by decide +kernel
theorem dX7_reviewsOfReviewer_28 : decode cX7_reviewsOfReviewer 28 = .ok (.iload_n 2, 1) := by decide +kernel
theorem dX7_reviewsOfReviewer_29 : decode cX7_reviewsOfReviewer 29 = .ok (.ireturn, 1) := by decide +kernel
theorem dX7_reviewsOfProposal_0 : decode cX7_reviewsOfProposal 0 = .ok (.iconst 0, 1) := by decide +kernel
theorem dX7_reviewsOfProposal_1 : decode cX7_reviewsOfProposal 1 = .ok (.istore_n 2, 1) := by decide +kernel
theorem dX7_reviewsOfProposal_2 : decode cX7_reviewsOfProposal 2 = .ok (.iconst 0, 1) := by decide +kernel
theorem dX7_reviewsOfProposal_3 : decode cX7_reviewsOfProposal 3 = .ok (.istore_n 3, 1) := by decide +kernel
theorem dX7_reviewsOfProposal_4 : decode cX7_reviewsOfProposal 4 = .ok (.iload_n 3, 1) := by decide +kernel
theorem dX7_reviewsOfProposal_5 : decode cX7_reviewsOfProposal 5 = .ok (.bipush 12, 2) := by decide +kernel
theorem dX7_reviewsOfProposal_7 : decode cX7_reviewsOfProposal 7 = .ok (.if_icmp .ge 21, 3) := by decide +kernel
theorem dX7_reviewsOfProposal_10 : decode cX7_reviewsOfProposal 10 = .ok (.aload_n 0, 1) := by decide +kernel
theorem dX7_reviewsOfProposal_11 : decode cX7_reviewsOfProposal 11 = .ok (.iload_n 3, 1) := by decide +kernel
theorem dX7_reviewsOfProposal_12 : decode cX7_reviewsOfProposal 12 = .ok (.iload_n 1, 1) := by decide +kernel
theorem dX7_reviewsOfProposal_13 : decode cX7_reviewsOfProposal 13 = .ok (.invokevirtual 50, 3) := by decide +kernel
theorem dX7_reviewsOfProposal_16 : decode cX7_reviewsOfProposal 16 = .ok (.ifCond .eq 6, 3) := by decide +kernel
theorem dX7_reviewsOfProposal_19 : decode cX7_reviewsOfProposal 19 = .ok (.iinc 2 1, 3) := by decide +kernel
theorem dX7_reviewsOfProposal_22 : decode cX7_reviewsOfProposal 22 = .ok (.iinc 3 1, 3) := by decide +kernel
theorem dX7_reviewsOfProposal_25 : decode cX7_reviewsOfProposal 25 = .ok (.goto (-21), 3) := by decide +kernel
theorem dX7_reviewsOfProposal_28 : decode cX7_reviewsOfProposal 28 = .ok (.iload_n 2, 1) := by decide +kernel
theorem dX7_reviewsOfProposal_29 : decode cX7_reviewsOfProposal 29 = .ok (.ireturn, 1) := by decide +kernel
theorem dX7_countReviews_0 : decode cX7_countReviews 0 = .ok (.iconst 0, 1) := by decide +kernel
theorem dX7_countReviews_1 : decode cX7_countReviews 1 = .ok (.istore_n 1, 1) := by decide +kernel
theorem dX7_countReviews_2 : decode cX7_countReviews 2 = .ok (.aload_n 0, 1) := by decide +kernel
theorem dX7_countReviews_3 : decode cX7_countReviews 3 = .ok (.getfield 9, 3) := by decide +kernel
theorem dX7_countReviews_6 : decode cX7_countReviews 6 = .ok (.astore_n 2, 1) := by decide +kernel
theorem dX7_countReviews_7 : decode cX7_countReviews 7 = .ok (.aload_n 2, 1) := by decide +kernel
theorem dX7_countReviews_8 : decode cX7_countReviews 8 = .ok (.arraylength, 1) := by decide +kernel
theorem dX7_countReviews_9 : decode cX7_countReviews 9 = .ok (.istore_n 3, 1) := by decide +kernel
theorem dX7_countReviews_10 : decode cX7_countReviews 10 = .ok (.iconst 0, 1) := by decide +kernel
theorem dX7_countReviews_11 : decode cX7_countReviews 11 = .ok (.istore 4, 2) := by decide +kernel
theorem dX7_countReviews_13 : decode cX7_countReviews 13 = .ok (.iload 4, 2) := by decide +kernel
theorem dX7_countReviews_15 : decode cX7_countReviews 15 = .ok (.iload_n 3, 1) := by decide +kernel
theorem dX7_countReviews_16 : decode cX7_countReviews 16 = .ok (.if_icmp .ge 23, 3) := by decide +kernel
theorem dX7_countReviews_19 : decode cX7_countReviews 19 = .ok (.aload_n 2, 1) := by decide +kernel
theorem dX7_countReviews_20 : decode cX7_countReviews 20 = .ok (.iload 4, 2) := by decide +kernel
theorem dX7_countReviews_22 : decode cX7_countReviews 22 = .ok (.iaload, 1) := by decide +kernel
theorem dX7_countReviews_23 : decode cX7_countReviews 23 = .ok (.istore 5, 2) := by decide +kernel
theorem dX7_countReviews_25 : decode cX7_countReviews 25 = .ok (.iload 5, 2) := by decide +kernel
theorem dX7_countReviews_27 : decode cX7_countReviews 27 = .ok (.ifCond .eq 6, 3) := by decide +kernel
theorem dX7_countReviews_30 : decode cX7_countReviews 30 = .ok (.iinc 1 1, 3) := by decide +kernel
theorem dX7_countReviews_33 : decode cX7_countReviews 33 = .ok (.iinc 4 1, 3) := by decide +kernel
theorem dX7_countReviews_36 : decode cX7_countReviews 36 = .ok (.goto (-23), 3) := by decide +kernel
theorem dX7_countReviews_39 : decode cX7_countReviews 39 = .ok (.iload_n 1, 1) := by decide +kernel
theorem dX7_countReviews_40 : decode cX7_countReviews 40 = .ok (.ireturn, 1) := by decide +kernel
theorem dX7_countScores_0 : decode cX7_countScores 0 = .ok (.iconst 0, 1) := by decide +kernel
theorem dX7_countScores_1 : decode cX7_countScores 1 = .ok (.istore_n 1, 1) := by decide +kernel
theorem dX7_countScores_2 : decode cX7_countScores 2 = .ok (.aload_n 0, 1) := by decide +kernel
theorem dX7_countScores_3 : decode cX7_countScores 3 = .ok (.getfield 9, 3) := by decide +kernel
theorem dX7_countScores_6 : decode cX7_countScores 6 = .ok (.astore_n 2, 1) := by decide +kernel
theorem dX7_countScores_7 : decode cX7_countScores 7 = .ok (.aload_n 2, 1) := by decide +kernel
theorem dX7_countScores_8 : decode cX7_countScores 8 = .ok (.arraylength, 1) := by decide +kernel
theorem dX7_countScores_9 : decode cX7_countScores 9 = .ok (.istore_n 3, 1) := by decide +kernel
theorem dX7_countScores_10 : decode cX7_countScores 10 = .ok (.iconst 0, 1) := by decide +kernel
theorem dX7_countScores_11 : decode cX7_countScores 11 = .ok (.istore 4, 2) := by decide +kernel
theorem dX7_countScores_13 : decode cX7_countScores 13 = .ok (.iload 4, 2) := by decide +kernel
theorem dX7_countScores_15 : decode cX7_countScores 15 = .ok (.iload_n 3, 1) := by decide +kernel
theorem dX7_countScores_16 : decode cX7_countScores 16 = .ok (.if_icmp .ge 23, 3) := by decide +kernel
theorem dX7_countScores_19 : decode cX7_countScores 19 = .ok (.aload_n 2, 1) := by decide +kernel
theorem dX7_countScores_20 : decode cX7_countScores 20 = .ok (.iload 4, 2) := by decide +kernel
theorem dX7_countScores_22 : decode cX7_countScores 22 = .ok (.iaload, 1) := by decide +kernel
theorem dX7_countScores_23 : decode cX7_countScores 23 = .ok (.istore 5, 2) := by decide +kernel
theorem dX7_countScores_25 : decode cX7_countScores 25 = .ok (.iload 5, 2) := by decide +kernel
theorem dX7_countScores_27 : decode cX7_countScores 27 = .ok (.ifCond .le 6, 3) := by decide +kernel
theorem dX7_countScores_30 : decode cX7_countScores 30 = .ok (.iinc 1 1, 3) := by decide +kernel
theorem dX7_countScores_33 : decode cX7_countScores 33 = .ok (.iinc 4 1, 3) := by decide +kernel
theorem dX7_countScores_36 : decode cX7_countScores 36 = .ok (.goto (-23), 3) := by decide +kernel
theorem dX7_countScores_39 : decode cX7_countScores 39 = .ok (.iload_n 1, 1) := by decide +kernel
theorem dX7_countScores_40 : decode cX7_countScores 40 = .ok (.ireturn, 1) := by decide +kernel
theorem dX7_countDeclared_0 : decode cX7_countDeclared 0 = .ok (.iconst 0, 1) := by decide +kernel
theorem dX7_countDeclared_1 : decode cX7_countDeclared 1 = .ok (.istore_n 1, 1) := by decide +kernel
theorem dX7_countDeclared_2 : decode cX7_countDeclared 2 = .ok (.aload_n 0, 1) := by decide +kernel
theorem dX7_countDeclared_3 : decode cX7_countDeclared 3 = .ok (.getfield 15, 3) := by decide +kernel
theorem dX7_countDeclared_6 : decode cX7_countDeclared 6 = .ok (.astore_n 2, 1) := by decide +kernel
theorem dX7_countDeclared_7 : decode cX7_countDeclared 7 = .ok (.aload_n 2, 1) := by decide +kernel
theorem dX7_countDeclared_8 : decode cX7_countDeclared 8 = .ok (.arraylength, 1) := by decide +kernel
theorem dX7_countDeclared_9 : decode cX7_countDeclared 9 = .ok (.istore_n 3, 1) := by decide +kernel
theorem dX7_countDeclared_10 : decode cX7_countDeclared 10 = .ok (.iconst 0, 1) := by decide +kernel
theorem dX7_countDeclared_11 : decode cX7_countDeclared 11 = .ok (.istore 4, 2) := by decide +kernel
theorem dX7_countDeclared_13 : decode cX7_countDeclared 13 = .ok (.iload 4, 2) := by decide +kernel
theorem dX7_countDeclared_15 : decode cX7_countDeclared 15 = .ok (.iload_n 3, 1) := by decide +kernel
theorem dX7_countDeclared_16 : decode cX7_countDeclared 16 = .ok (.if_icmp .ge 23, 3) := by decide +kernel
theorem dX7_countDeclared_19 : decode cX7_countDeclared 19 = .ok (.aload_n 2, 1) := by decide +kernel
theorem dX7_countDeclared_20 : decode cX7_countDeclared 20 = .ok (.iload 4, 2) := by decide +kernel
theorem dX7_countDeclared_22 : decode cX7_countDeclared 22 = .ok (.iaload, 1) := by decide +kernel
theorem dX7_countDeclared_23 : decode cX7_countDeclared 23 = .ok (.istore 5, 2) := by decide +kernel
theorem dX7_countDeclared_25 : decode cX7_countDeclared 25 = .ok (.iload_n 1, 1) := by decide +kernel
theorem dX7_countDeclared_26 : decode cX7_countDeclared 26 = .ok (.iload 5, 2) := by decide +kernel
theorem dX7_countDeclared_28 : decode cX7_countDeclared 28 = .ok (.invokestatic 54, 3) := by decide +kernel
theorem dX7_countDeclared_31 : decode cX7_countDeclared 31 = .ok (.iadd, 1) := by decide +kernel
theorem dX7_countDeclared_32 : decode cX7_countDeclared 32 = .ok (.istore_n 1, 1) := by decide +kernel
theorem dX7_countDeclared_33 : decode cX7_countDeclared 33 = .ok (.iinc 4 1, 3) := by decide +kernel
theorem dX7_countDeclared_36 : decode cX7_countDeclared 36 = .ok (.goto (-23), 3) := by decide +kernel
theorem dX7_countDeclared_39 : decode cX7_countDeclared 39 = .ok (.iload_n 1, 1) := by decide +kernel
theorem dX7_countDeclared_40 : decode cX7_countDeclared 40 = .ok (.ireturn, 1) := by decide +kernel
theorem dX8_init_0 : decode cX8_init 0 = .ok (.aload_n 0, 1) := by decide +kernel
theorem dX8_init_1 : decode cX8_init 1 = .ok (.invokespecial 3, 3) := by decide +kernel
theorem dX8_init_4 : decode cX8_init 4 = .ok (.aload_n 0, 1) := by decide +kernel
theorem dX8_init_5 : decode cX8_init 5 = .ok (.sipush 800, 3) := by decide +kernel
theorem dX8_init_8 : decode cX8_init 8 = .ok (.newarray .byte, 2) := by decide +kernel
theorem dX8_init_10 : decode cX8_init 10 = .ok (.putfield 9, 3) := by decide +kernel
theorem dX8_init_13 : decode cX8_init 13 = .ok (.aload_n 0, 1) := by decide +kernel
theorem dX8_init_14 : decode cX8_init 14 = .ok (.iconst (-1), 1) := by decide +kernel
theorem dX8_init_15 : decode cX8_init 15 = .ok (.putfield 15, 3) := by decide +kernel
theorem dX8_init_18 : decode cX8_init 18 = .ok (.return_, 1) := by decide +kernel
theorem dX8_put_0 : decode cX8_put 0 = .ok (.bipush 24, 2) := by decide +kernel
theorem dX8_put_2 : decode cX8_put 2 = .ok (.istore_n 2, 1) := by decide +kernel
theorem dX8_put_3 : decode cX8_put 3 = .ok (.iload_n 2, 1) := by decide +kernel
theorem dX8_put_4 : decode cX8_put 4 = .ok (.ifCond .lt 42, 3) := by decide +kernel
theorem dX8_put_7 : decode cX8_put 7 = .ok (.aload_n 0, 1) := by decide +kernel
theorem dX8_put_8 : decode cX8_put 8 = .ok (.getfield 19, 3) := by decide +kernel
theorem dX8_put_11 : decode cX8_put 11 = .ok (.sipush 800, 3) := by decide +kernel
theorem dX8_put_14 : decode cX8_put 14 = .ok (.if_icmp .ge 32, 3) := by decide +kernel
theorem dX8_put_17 : decode cX8_put 17 = .ok (.aload_n 0, 1) := by decide +kernel
theorem dX8_put_18 : decode cX8_put 18 = .ok (.getfield 9, 3) := by decide +kernel
theorem dX8_put_21 : decode cX8_put 21 = .ok (.aload_n 0, 1) := by decide +kernel
theorem dX8_put_22 : decode cX8_put 22 = .ok (.getfield 19, 3) := by decide +kernel
theorem dX8_put_25 : decode cX8_put 25 = .ok (.iload_n 1, 1) := by decide +kernel
theorem dX8_put_26 : decode cX8_put 26 = .ok (.iload_n 2, 1) := by decide +kernel
theorem dX8_put_27 : decode cX8_put 27 = .ok (.ishr, 1) := by decide +kernel
theorem dX8_put_28 : decode cX8_put 28 = .ok (.i2b, 1) := by decide +kernel
theorem dX8_put_29 : decode cX8_put 29 = .ok (.bastore, 1) := by decide +kernel
theorem dX8_put_30 : decode cX8_put 30 = .ok (.aload_n 0, 1) := by decide +kernel
theorem dX8_put_31 : decode cX8_put 31 = .ok (.dup, 1) := by decide +kernel
theorem dX8_put_32 : decode cX8_put 32 = .ok (.getfield 19, 3) := by decide +kernel
theorem dX8_put_35 : decode cX8_put 35 = .ok (.iconst 1, 1) := by decide +kernel
theorem dX8_put_36 : decode cX8_put 36 = .ok (.iadd, 1) := by decide +kernel
theorem dX8_put_37 : decode cX8_put 37 = .ok (.putfield 19, 3) := by decide +kernel
theorem dX8_put_40 : decode cX8_put 40 = .ok (.iinc 2 (-8), 3) := by decide +kernel
theorem dX8_put_43 : decode cX8_put 43 = .ok (.goto (-40), 3) := by decide +kernel
theorem dX8_put_46 : decode cX8_put 46 = .ok (.return_, 1) := by decide +kernel
theorem dX8_read_0 : decode cX8_read 0 = .ok (.aload_n 1, 1) := by decide +kernel
theorem dX8_read_1 : decode cX8_read 1 = .ok (.invokevirtual 22, 3) := by decide +kernel
theorem dX8_read_4 : decode cX8_read 4 = .ok (.aload_n 0, 1) := by decide +kernel
theorem dX8_read_5 : decode cX8_read 5 = .ok (.iconst 0, 1) := by decide +kernel
theorem dX8_read_6 : decode cX8_read 6 = .ok (.putfield 27, 3) := by decide +kernel
theorem dX8_read_9 : decode cX8_read 9 = .ok (.aload_n 0, 1) := by decide +kernel
theorem dX8_read_10 : decode cX8_read 10 = .ok (.iconst (-1), 1) := by decide +kernel
theorem dX8_read_11 : decode cX8_read 11 = .ok (.putfield 15, 3) := by decide +kernel
theorem dX8_read_14 : decode cX8_read 14 = .ok (.aload_n 0, 1) := by decide +kernel
theorem dX8_read_15 : decode cX8_read 15 = .ok (.iconst 0, 1) := by decide +kernel
theorem dX8_read_16 : decode cX8_read 16 = .ok (.putfield 30, 3) := by decide +kernel
theorem dX8_read_19 : decode cX8_read 19 = .ok (.aload_n 0, 1) := by decide +kernel
theorem dX8_read_20 : decode cX8_read 20 = .ok (.invokevirtual 33, 3) := by decide +kernel
theorem dX8_read_23 : decode cX8_read 23 = .ok (.iconst 0, 1) := by decide +kernel
theorem dX8_read_24 : decode cX8_read 24 = .ok (.istore_n 2, 1) := by decide +kernel
theorem dX8_read_25 : decode cX8_read 25 = .ok (.iload_n 2, 1) := by decide +kernel
theorem dX8_read_26 : decode cX8_read 26 = .ok (.sipush 800, 3) := by decide +kernel
theorem dX8_read_29 : decode cX8_read 29 = .ok (.if_icmp .ge 32, 3) := by decide +kernel
theorem dX8_read_32 : decode cX8_read 32 = .ok (.aload_n 0, 1) := by decide +kernel
theorem dX8_read_33 : decode cX8_read 33 = .ok (.getfield 36, 3) := by decide +kernel
theorem dX8_read_36 : decode cX8_read 36 = .ok (.ifCond .eq 25, 3) := by decide +kernel
theorem dX8_read_39 : decode cX8_read 39 = .ok (.aload_n 0, 1) := by decide +kernel
theorem dX8_read_40 : decode cX8_read 40 = .ok (.getfield 27, 3) := by decide +kernel
theorem dX8_read_43 : decode cX8_read 43 = .ok (.ifCond .ne 18, 3) := by decide +kernel
theorem dX8_read_46 : decode cX8_read 46 = .ok (.aload_n 0, 1) := by decide +kernel
theorem dX8_read_47 : decode cX8_read 47 = .ok (.aload_n 1, 1) := by decide +kernel
theorem dX8_read_48 : decode cX8_read 48 = .ok (.invokevirtual 39, 3) := by decide +kernel
theorem dX8_read_51 : decode cX8_read 51 = .ok (.aload_n 0, 1) := by decide +kernel
theorem dX8_read_52 : decode cX8_read 52 = .ok (.invokevirtual 43, 3) := by decide +kernel
theorem dX8_read_55 : decode cX8_read 55 = .ok (.iinc 2 1, 3) := by decide +kernel
theorem dX8_read_58 : decode cX8_read 58 = .ok (.goto (-33), 3) := by decide +kernel
theorem dX8_read_61 : decode cX8_read 61 = .ok (.aload_n 0, 1) := by decide +kernel
theorem dX8_read_62 : decode cX8_read 62 = .ok (.getfield 27, 3) := by decide +kernel
theorem dX8_read_65 : decode cX8_read 65 = .ok (.ifCond .ne 7, 3) := by decide +kernel
theorem dX8_read_68 : decode cX8_read 68 = .ok (.iconst 1, 1) := by decide +kernel
theorem dX8_read_69 : decode cX8_read 69 = .ok (.goto 4, 3) := by decide +kernel
theorem dX8_read_72 : decode cX8_read 72 = .ok (.iconst 0, 1) := by decide +kernel
theorem dX8_read_73 : decode cX8_read 73 = .ok (.ireturn, 1) := by decide +kernel
theorem dX8_readStatement_0 : decode cX8_readStatement 0 = .ok (.aload_n 0, 1) := by decide +kernel
theorem dX8_readStatement_1 : decode cX8_readStatement 1 = .ok (.ldc 46, 2) := by decide +kernel
theorem dX8_readStatement_3 : decode cX8_readStatement 3 = .ok (.invokevirtual 48, 3) := by decide +kernel
theorem dX8_readStatement_6 : decode cX8_readStatement 6 = .ok (.ifCond .eq 11, 3) := by decide +kernel
theorem dX8_readStatement_9 : decode cX8_readStatement 9 = .ok (.aload_n 0, 1) := by decide +kernel
theorem dX8_readStatement_10 : decode cX8_readStatement 10 = .ok (.aload_n 1, 1) := by decide +kernel
theorem dX8_readStatement_11 : decode cX8_readStatement 11 = .ok (.invokevirtual 52, 3) := by decide +kernel
theorem dX8_readStatement_14 : decode cX8_readStatement 14 = .ok (.goto 59, 3) := by decide +kernel
theorem dX8_readStatement_17 : decode cX8_readStatement 17 = .ok (.aload_n 0, 1) := by decide +kernel
theorem dX8_readStatement_18 : decode cX8_readStatement 18 = .ok (.ldc 55, 2) := by decide +kernel
theorem dX8_readStatement_20 : decode cX8_readStatement 20 = .ok (.invokevirtual 48, 3) := by decide +kernel
theorem dX8_readStatement_23 : decode cX8_readStatement 23 = .ok (.ifCond .eq 11, 3) := by decide +kernel
theorem dX8_readStatement_26 : decode cX8_readStatement 26 = .ok (.aload_n 0, 1) := by decide +kernel
theorem dX8_readStatement_27 : decode cX8_readStatement 27 = .ok (.aload_n 1, 1) := by decide +kernel
theorem dX8_readStatement_28 : decode cX8_readStatement 28 = .ok (.invokevirtual 57, 3) := by decide +kernel
theorem dX8_readStatement_31 : decode cX8_readStatement 31 = .ok (.goto 42, 3) := by decide +kernel
theorem dX8_readStatement_34 : decode cX8_readStatement 34 = .ok (.aload_n 0, 1) := by decide +kernel
theorem dX8_readStatement_35 : decode cX8_readStatement 35 = .ok (.ldc 60, 2) := by decide +kernel
theorem dX8_readStatement_37 : decode cX8_readStatement 37 = .ok (.invokevirtual 48, 3) := by decide +kernel
theorem dX8_readStatement_40 : decode cX8_readStatement 40 = .ok (.ifCond .eq 11, 3) := by decide +kernel
theorem dX8_readStatement_43 : decode cX8_readStatement 43 = .ok (.aload_n 0, 1) := by decide +kernel
theorem dX8_readStatement_44 : decode cX8_readStatement 44 = .ok (.aload_n 1, 1) := by decide +kernel
theorem dX8_readStatement_45 : decode cX8_readStatement 45 = .ok (.invokevirtual 62, 3) := by decide +kernel
theorem dX8_readStatement_48 : decode cX8_readStatement 48 = .ok (.goto 25, 3) := by decide +kernel
theorem dX8_readStatement_51 : decode cX8_readStatement 51 = .ok (.aload_n 0, 1) := by decide +kernel
theorem dX8_readStatement_52 : decode cX8_readStatement 52 = .ok (.ldc 65, 2) := by decide +kernel
theorem dX8_readStatement_54 : decode cX8_readStatement 54 = .ok (.invokevirtual 48, 3) := by decide +kernel
theorem dX8_readStatement_57 : decode cX8_readStatement 57 = .ok (.ifCond .eq 11, 3) := by decide +kernel
theorem dX8_readStatement_60 : decode cX8_readStatement 60 = .ok (.aload_n 0, 1) := by decide +kernel
theorem dX8_readStatement_61 : decode cX8_readStatement 61 = .ok (.aload_n 1, 1) := by decide +kernel
theorem dX8_readStatement_62 : decode cX8_readStatement 62 = .ok (.invokevirtual 67, 3) := by decide +kernel
theorem dX8_readStatement_65 : decode cX8_readStatement 65 = .ok (.goto 8, 3) := by decide +kernel
theorem dX8_readStatement_68 : decode cX8_readStatement 68 = .ok (.aload_n 0, 1) := by decide +kernel
theorem dX8_readStatement_69 : decode cX8_readStatement 69 = .ok (.aload_n 1, 1) := by decide +kernel
theorem dX8_readStatement_70 : decode cX8_readStatement 70 = .ok (.invokevirtual 70, 3) := by decide +kernel
theorem dX8_readStatement_73 : decode cX8_readStatement 73 = .ok (.return_, 1) := by decide +kernel
theorem dX8_readPanel_0 : decode cX8_readPanel 0 = .ok (.aload_n 1, 1) := by decide +kernel
theorem dX8_readPanel_1 : decode cX8_readPanel 1 = .ok (.getfield 73, 3) := by decide +kernel
theorem dX8_readPanel_4 : decode cX8_readPanel 4 = .ok (.istore_n 2, 1) := by decide +kernel
theorem dX8_readPanel_5 : decode cX8_readPanel 5 = .ok (.iload_n 2, 1) := by decide +kernel
theorem dX8_readPanel_6 : decode cX8_readPanel 6 = .ok (.iconst 4, 1) := by decide +kernel
theorem dX8_readPanel_7 : decode cX8_readPanel 7 = .ok (.if_icmp .lt 9, 3) := by decide +kernel
theorem dX8_readPanel_10 : decode cX8_readPanel 10 = .ok (.aload_n 0, 1) := by decide +kernel
theorem dX8_readPanel_11 : decode cX8_readPanel 11 = .ok (.iconst 3, 1) := by decide +kernel
theorem dX8_readPanel_12 : decode cX8_readPanel 12 = .ok (.invokevirtual 76, 3) := by decide +kernel
theorem dX8_readPanel_15 : decode cX8_readPanel 15 = .ok (.return_, 1) := by decide +kernel
theorem dX8_readPanel_16 : decode cX8_readPanel 16 = .ok (.aload_n 0, 1) := by decide +kernel
theorem dX8_readPanel_17 : decode cX8_readPanel 17 = .ok (.invokevirtual 33, 3) := by decide +kernel
theorem dX8_readPanel_20 : decode cX8_readPanel 20 = .ok (.aload_n 1, 1) := by decide +kernel
theorem dX8_readPanel_21 : decode cX8_readPanel 21 = .ok (.getfield 80, 3) := by decide +kernel
theorem dX8_readPanel_24 : decode cX8_readPanel 24 = .ok (.iload_n 2, 1) := by decide +kernel
theorem dX8_readPanel_25 : decode cX8_readPanel 25 = .ok (.aload_n 0, 1) := by decide +kernel
theorem dX8_readPanel_26 : decode cX8_readPanel 26 = .ok (.iconst 0, 1) := by decide +kernel
theorem dX8_readPanel_27 : decode cX8_readPanel 27 = .ok (.ldc 84, 2) := by decide +kernel
theorem dX8_readPanel_29 : decode cX8_readPanel 29 = .ok (.invokevirtual 85, 3) := by decide +kernel
theorem dX8_readPanel_32 : decode cX8_readPanel 32 = .ok (.iastore, 1) := by decide +kernel
theorem dX8_readPanel_33 : decode cX8_readPanel 33 = .ok (.aload_n 1, 1) := by decide +kernel
theorem dX8_readPanel_34 : decode cX8_readPanel 34 = .ok (.iload_n 2, 1) := by decide +kernel
theorem dX8_readPanel_35 : decode cX8_readPanel 35 = .ok (.iconst 1, 1) := by decide +kernel
theorem dX8_readPanel_36 : decode cX8_readPanel 36 = .ok (.iadd, 1) := by decide +kernel
theorem dX8_readPanel_37 : decode cX8_readPanel 37 = .ok (.putfield 73, 3) := by decide +kernel
theorem dX8_readPanel_40 : decode cX8_readPanel 40 = .ok (.return_, 1) := by decide +kernel
theorem dX8_readReviewer_0 : decode cX8_readReviewer 0 = .ok (.aload_n 1, 1) := by decide +kernel
theorem dX8_readReviewer_1 : decode cX8_readReviewer 1 = .ok (.getfield 89, 3) := by decide +kernel
theorem dX8_readReviewer_4 : decode cX8_readReviewer 4 = .ok (.istore_n 2, 1) := by decide +kernel
theorem dX8_readReviewer_5 : decode cX8_readReviewer 5 = .ok (.iload_n 2, 1) := by decide +kernel
theorem dX8_readReviewer_6 : decode cX8_readReviewer 6 = .ok (.bipush 12, 2) := by decide +kernel
theorem dX8_readReviewer_8 : decode cX8_readReviewer 8 = .ok (.if_icmp .lt 9, 3) := by decide +kernel
theorem dX8_readReviewer_11 : decode cX8_readReviewer 11 = .ok (.aload_n 0, 1) := by decide +kernel
theorem dX8_readReviewer_12 : decode cX8_readReviewer 12 = .ok (.iconst 3, 1) := by decide +kernel
theorem dX8_readReviewer_13 : decode cX8_readReviewer 13 = .ok (.invokevirtual 76, 3) := by decide +kernel
theorem dX8_readReviewer_16 : decode cX8_readReviewer 16 = .ok (.return_, 1) := by decide +kernel
theorem dX8_readReviewer_17 : decode cX8_readReviewer 17 = .ok (.aload_n 0, 1) := by decide +kernel
theorem dX8_readReviewer_18 : decode cX8_readReviewer 18 = .ok (.invokevirtual 33, 3) := by decide +kernel
theorem dX8_readReviewer_21 : decode cX8_readReviewer 21 = .ok (.aload_n 1, 1) := by decide +kernel
theorem dX8_readReviewer_22 : decode cX8_readReviewer 22 = .ok (.getfield 92, 3) := by decide +kernel
theorem dX8_readReviewer_25 : decode cX8_readReviewer 25 = .ok (.iload_n 2, 1) := by decide +kernel
theorem dX8_readReviewer_26 : decode cX8_readReviewer 26 = .ok (.aload_n 0, 1) := by decide +kernel
theorem dX8_readReviewer_27 : decode cX8_readReviewer 27 = .ok (.iconst 0, 1) := by decide +kernel
theorem dX8_readReviewer_28 : decode cX8_readReviewer 28 = .ok (.aload_n 1, 1) := by decide +kernel
theorem dX8_readReviewer_29 : decode cX8_readReviewer 29 = .ok (.getfield 73, 3) := by decide +kernel
theorem dX8_readReviewer_32 : decode cX8_readReviewer 32 = .ok (.iconst 1, 1) := by decide +kernel
theorem dX8_readReviewer_33 : decode cX8_readReviewer 33 = .ok (.isub, 1) := by decide +kernel
theorem dX8_readReviewer_34 : decode cX8_readReviewer 34 = .ok (.invokevirtual 85, 3) := by decide +kernel
theorem dX8_readReviewer_37 : decode cX8_readReviewer 37 = .ok (.iastore, 1) := by decide +kernel
theorem dX8_readReviewer_38 : decode cX8_readReviewer 38 = .ok (.aload_n 1, 1) := by decide +kernel
theorem dX8_readReviewer_39 : decode cX8_readReviewer 39 = .ok (.getfield 95, 3) := by decide +kernel
theorem dX8_readReviewer_42 : decode cX8_readReviewer 42 = .ok (.iload_n 2, 1) := by decide +kernel
theorem dX8_readReviewer_43 : decode cX8_readReviewer 43 = .ok (.aload_n 0, 1) := by decide +kernel
theorem dX8_readReviewer_44 : decode cX8_readReviewer 44 = .ok (.iconst 0, 1) := by decide +kernel
theorem dX8_readReviewer_45 : decode cX8_readReviewer 45 = .ok (.bipush 9, 2) := by decide +kernel
theorem dX8_readReviewer_47 : decode cX8_readReviewer 47 = .ok (.invokevirtual 85, 3) := by decide +kernel
theorem dX8_readReviewer_50 : decode cX8_readReviewer 50 = .ok (.iastore, 1) := by decide +kernel
theorem dX8_readReviewer_51 : decode cX8_readReviewer 51 = .ok (.aload_n 1, 1) := by decide +kernel
theorem dX8_readReviewer_52 : decode cX8_readReviewer 52 = .ok (.getfield 98, 3) := by decide +kernel
theorem dX8_readReviewer_55 : decode cX8_readReviewer 55 = .ok (.iload_n 2, 1) := by decide +kernel
theorem dX8_readReviewer_56 : decode cX8_readReviewer 56 = .ok (.aload_n 0, 1) := by decide +kernel
theorem dX8_readReviewer_57 : decode cX8_readReviewer 57 = .ok (.iconst 1, 1) := by decide +kernel
theorem dX8_readReviewer_58 : decode cX8_readReviewer 58 = .ok (.bipush 10, 2) := by decide +kernel
theorem dX8_readReviewer_60 : decode cX8_readReviewer 60 = .ok (.invokevirtual 85, 3) := by decide +kernel
theorem dX8_readReviewer_63 : decode cX8_readReviewer 63 = .ok (.iastore, 1) := by decide +kernel
theorem dX8_readReviewer_64 : decode cX8_readReviewer 64 = .ok (.aload_n 0, 1) := by decide +kernel
theorem dX8_readReviewer_65 : decode cX8_readReviewer 65 = .ok (.invokevirtual 101, 3) := by decide +kernel
theorem dX8_readReviewer_68 : decode cX8_readReviewer 68 = .ok (.iconst 0, 1) := by decide +kernel
theorem dX8_readReviewer_69 : decode cX8_readReviewer 69 = .ok (.istore_n 3, 1) := by decide +kernel
theorem dX8_readReviewer_70 : decode cX8_readReviewer 70 = .ok (.iconst 0, 1) := by decide +kernel
theorem dX8_readReviewer_71 : decode cX8_readReviewer 71 = .ok (.istore 4, 2) := by decide +kernel
theorem dX8_readReviewer_73 : decode cX8_readReviewer 73 = .ok (.iload 4, 2) := by decide +kernel
theorem dX8_readReviewer_75 : decode cX8_readReviewer 75 = .ok (.sipush 800, 3) := by decide +kernel
theorem dX8_readReviewer_78 : decode cX8_readReviewer 78 = .ok (.if_icmp .ge 44, 3) := by decide +kernel
theorem dX8_readReviewer_81 : decode cX8_readReviewer 81 = .ok (.iload 4, 2) := by decide +kernel
theorem dX8_readReviewer_83 : decode cX8_readReviewer 83 = .ok (.ifCond .eq 11, 3) := by decide +kernel
theorem dX8_readReviewer_86 : decode cX8_readReviewer 86 = .ok (.aload_n 0, 1) := by decide +kernel
theorem dX8_readReviewer_87 : decode cX8_readReviewer 87 = .ok (.getfield 36, 3) := by decide +kernel
theorem dX8_readReviewer_90 : decode cX8_readReviewer 90 = .ok (.iconst 3, 1) := by decide +kernel
theorem dX8_readReviewer_91 : decode cX8_readReviewer 91 = .ok (.if_icmp .ne 31, 3) := by decide +kernel
theorem dX8_readReviewer_94 : decode cX8_readReviewer 94 = .ok (.aload_n 0, 1) := by decide +kernel
theorem dX8_readReviewer_95 : decode cX8_readReviewer 95 = .ok (.iconst 0, 1) := by decide +kernel
theorem dX8_readReviewer_96 : decode cX8_readReviewer 96 = .ok (.bipush 7, 2) := by decide +kernel
theorem dX8_readReviewer_98 : decode cX8_readReviewer 98 = .ok (.invokevirtual 85, 3) := by decide +kernel
theorem dX8_readReviewer_101 : decode cX8_readReviewer 101 = .ok (.istore 5, 2) := by decide +kernel
theorem dX8_readReviewer_103 : decode cX8_readReviewer 103 = .ok (.iload 5, 2) := by decide +kernel
theorem dX8_readReviewer_105 : decode cX8_readReviewer 105 = .ok (.iconst (-1), 1) := by decide +kernel
theorem dX8_readReviewer_106 : decode cX8_readReviewer 106 = .ok (.if_icmp .eq 10, 3) := by decide +kernel
theorem dX8_readReviewer_109 : decode cX8_readReviewer 109 = .ok (.iload_n 3, 1) := by decide +kernel
theorem dX8_readReviewer_110 : decode cX8_readReviewer 110 = .ok (.iconst 1, 1) := by decide +kernel
theorem dX8_readReviewer_111 : decode cX8_readReviewer 111 = .ok (.iload 5, 2) := by decide +kernel
theorem dX8_readReviewer_113 : decode cX8_readReviewer 113 = .ok (.ishl, 1) := by decide +kernel
theorem dX8_readReviewer_114 : decode cX8_readReviewer 114 = .ok (.ior, 1) := by decide +kernel
theorem dX8_readReviewer_115 : decode cX8_readReviewer 115 = .ok (.istore_n 3, 1) := by decide +kernel
theorem dX8_readReviewer_116 : decode cX8_readReviewer 116 = .ok (.iinc 4 1, 3) := by decide +kernel
theorem dX8_readReviewer_119 : decode cX8_readReviewer 119 = .ok (.goto (-46), 3) := by decide +kernel
theorem dX8_readReviewer_122 : decode cX8_readReviewer 122 = .ok (.aload_n 1, 1) := by decide +kernel
theorem dX8_readReviewer_123 : decode cX8_readReviewer 123 = .ok (.getfield 104, 3) := by decide +kernel
theorem dX8_readReviewer_126 : decode cX8_readReviewer 126 = .ok (.iload_n 2, 1) := by decide +kernel
theorem dX8_readReviewer_127 : decode cX8_readReviewer 127 = .ok (.iload_n 3, 1) := by decide +kernel
theorem dX8_readReviewer_128 : decode cX8_readReviewer 128 = .ok (.iastore, 1) := by decide +kernel
theorem dX8_readReviewer_129 : decode cX8_readReviewer 129 = .ok (.aload_n 1, 1) := by decide +kernel
theorem dX8_readReviewer_130 : decode cX8_readReviewer 130 = .ok (.iload_n 2, 1) := by decide +kernel
theorem dX8_readReviewer_131 : decode cX8_readReviewer 131 = .ok (.iconst 1, 1) := by decide +kernel
theorem dX8_readReviewer_132 : decode cX8_readReviewer 132 = .ok (.iadd, 1) := by decide +kernel
theorem dX8_readReviewer_133 : decode cX8_readReviewer 133 = .ok (.putfield 89, 3) := by decide +kernel
theorem dX8_readReviewer_136 : decode cX8_readReviewer 136 = .ok (.return_, 1) := by decide +kernel
theorem dX8_readTopicsWord_0 : decode cX8_readTopicsWord 0 = .ok (.aload_n 0, 1) := by decide +kernel
theorem dX8_readTopicsWord_1 : decode cX8_readTopicsWord 1 = .ok (.ldc 107, 2) := by decide +kernel
theorem dX8_readTopicsWord_3 : decode cX8_readTopicsWord 3 = .ok (.invokevirtual 48, 3) := by decide +kernel
theorem dX8_readTopicsWord_6 : decode cX8_readTopicsWord 6 = .ok (.ifCond .ne 9, 3) := by decide +kernel
theorem dX8_readTopicsWord_9 : decode cX8_readTopicsWord 9 = .ok (.aload_n 0, 1) := by decide +kernel
theorem dX8_readTopicsWord_10 : decode cX8_readTopicsWord 10 = .ok (.iconst 1, 1) := by decide +kernel
theorem dX8_readTopicsWord_11 : decode cX8_readTopicsWord 11 = .ok (.invokevirtual 76, 3) := by decide +kernel
theorem dX8_readTopicsWord_14 : decode cX8_readTopicsWord 14 = .ok (.return_, 1) := by decide +kernel
theorem dX8_readTopicsWord_15 : decode cX8_readTopicsWord 15 = .ok (.aload_n 0, 1) := by decide +kernel
theorem dX8_readTopicsWord_16 : decode cX8_readTopicsWord 16 = .ok (.invokevirtual 33, 3) := by decide +kernel
theorem dX8_readTopicsWord_19 : decode cX8_readTopicsWord 19 = .ok (.return_, 1) := by decide +kernel
theorem dX8_readProposal_0 : decode cX8_readProposal 0 = .ok (.aload_n 1, 1) := by decide +kernel
theorem dX8_readProposal_1 : decode cX8_readProposal 1 = .ok (.getfield 108, 3) := by decide +kernel
theorem dX8_readProposal_4 : decode cX8_readProposal 4 = .ok (.istore_n 2, 1) := by decide +kernel
theorem dX8_readProposal_5 : decode cX8_readProposal 5 = .ok (.iload_n 2, 1) := by decide +kernel
theorem dX8_readProposal_6 : decode cX8_readProposal 6 = .ok (.bipush 16, 2) := by decide +kernel
theorem dX8_readProposal_8 : decode cX8_readProposal 8 = .ok (.if_icmp .lt 9, 3) := by decide +kernel
theorem dX8_readProposal_11 : decode cX8_readProposal 11 = .ok (.aload_n 0, 1) := by decide +kernel
theorem dX8_readProposal_12 : decode cX8_readProposal 12 = .ok (.iconst 3, 1) := by decide +kernel
theorem dX8_readProposal_13 : decode cX8_readProposal 13 = .ok (.invokevirtual 76, 3) := by decide +kernel
theorem dX8_readProposal_16 : decode cX8_readProposal 16 = .ok (.return_, 1) := by decide +kernel
theorem dX8_readProposal_17 : decode cX8_readProposal 17 = .ok (.aload_n 0, 1) := by decide +kernel
theorem dX8_readProposal_18 : decode cX8_readProposal 18 = .ok (.invokevirtual 33, 3) := by decide +kernel
theorem dX8_readProposal_21 : decode cX8_readProposal 21 = .ok (.aload_n 1, 1) := by decide +kernel
theorem dX8_readProposal_22 : decode cX8_readProposal 22 = .ok (.getfield 111, 3) := by decide +kernel
theorem dX8_readProposal_25 : decode cX8_readProposal 25 = .ok (.iload_n 2, 1) := by decide +kernel
theorem dX8_readProposal_26 : decode cX8_readProposal 26 = .ok (.aload_n 0, 1) := by decide +kernel
theorem dX8_readProposal_27 : decode cX8_readProposal 27 = .ok (.iconst 0, 1) := by decide +kernel
theorem dX8_readProposal_28 : decode cX8_readProposal 28 = .ok (.aload_n 1, 1) := by decide +kernel
theorem dX8_readProposal_29 : decode cX8_readProposal 29 = .ok (.getfield 73, 3) := by decide +kernel
theorem dX8_readProposal_32 : decode cX8_readProposal 32 = .ok (.iconst 1, 1) := by decide +kernel
theorem dX8_readProposal_33 : decode cX8_readProposal 33 = .ok (.isub, 1) := by decide +kernel
theorem dX8_readProposal_34 : decode cX8_readProposal 34 = .ok (.invokevirtual 85, 3) := by decide +kernel
theorem dX8_readProposal_37 : decode cX8_readProposal 37 = .ok (.iastore, 1) := by decide +kernel
theorem dX8_readProposal_38 : decode cX8_readProposal 38 = .ok (.aload_n 1, 1) := by decide +kernel
theorem dX8_readProposal_39 : decode cX8_readProposal 39 = .ok (.getfield 114, 3) := by decide +kernel
theorem dX8_readProposal_42 : decode cX8_readProposal 42 = .ok (.iload_n 2, 1) := by decide +kernel
theorem dX8_readProposal_43 : decode cX8_readProposal 43 = .ok (.aload_n 0, 1) := by decide +kernel
theorem dX8_readProposal_44 : decode cX8_readProposal 44 = .ok (.iconst 0, 1) := by decide +kernel
theorem dX8_readProposal_45 : decode cX8_readProposal 45 = .ok (.bipush 9, 2) := by decide +kernel
theorem dX8_readProposal_47 : decode cX8_readProposal 47 = .ok (.invokevirtual 85, 3) := by decide +kernel
theorem dX8_readProposal_50 : decode cX8_readProposal 50 = .ok (.iastore, 1) := by decide +kernel
theorem dX8_readProposal_51 : decode cX8_readProposal 51 = .ok (.aload_n 1, 1) := by decide +kernel
theorem dX8_readProposal_52 : decode cX8_readProposal 52 = .ok (.getfield 117, 3) := by decide +kernel
theorem dX8_readProposal_55 : decode cX8_readProposal 55 = .ok (.iload_n 2, 1) := by decide +kernel
theorem dX8_readProposal_56 : decode cX8_readProposal 56 = .ok (.aload_n 0, 1) := by decide +kernel
theorem dX8_readProposal_57 : decode cX8_readProposal 57 = .ok (.iconst 0, 1) := by decide +kernel
theorem dX8_readProposal_58 : decode cX8_readProposal 58 = .ok (.bipush 7, 2) := by decide +kernel
theorem dX8_readProposal_60 : decode cX8_readProposal 60 = .ok (.invokevirtual 85, 3) := by decide +kernel
theorem dX8_readProposal_63 : decode cX8_readProposal 63 = .ok (.iastore, 1) := by decide +kernel
theorem dX8_readProposal_64 : decode cX8_readProposal 64 = .ok (.aload_n 0, 1) := by decide +kernel
theorem dX8_readProposal_65 : decode cX8_readProposal 65 = .ok (.iconst 1, 1) := by decide +kernel
theorem dX8_readProposal_66 : decode cX8_readProposal 66 = .ok (.sipush 9999, 3) := by decide +kernel
theorem dX8_readProposal_69 : decode cX8_readProposal 69 = .ok (.invokevirtual 85, 3) := by decide +kernel
theorem dX8_readProposal_72 : decode cX8_readProposal 72 = .ok (.istore_n 3, 1) := by decide +kernel
theorem dX8_readProposal_73 : decode cX8_readProposal 73 = .ok (.aload_n 1, 1) := by decide +kernel
theorem dX8_readProposal_74 : decode cX8_readProposal 74 = .ok (.getfield 120, 3) := by decide +kernel
theorem dX8_readProposal_77 : decode cX8_readProposal 77 = .ok (.iload_n 2, 1) := by decide +kernel
theorem dX8_readProposal_78 : decode cX8_readProposal 78 = .ok (.iload_n 3, 1) := by decide +kernel
theorem dX8_readProposal_79 : decode cX8_readProposal 79 = .ok (.iastore, 1) := by decide +kernel
theorem dX8_readProposal_80 : decode cX8_readProposal 80 = .ok (.aload_n 1, 1) := by decide +kernel
theorem dX8_readProposal_81 : decode cX8_readProposal 81 = .ok (.getfield 123, 3) := by decide +kernel
theorem dX8_readProposal_84 : decode cX8_readProposal 84 = .ok (.iload_n 2, 1) := by decide +kernel
theorem dX8_readProposal_85 : decode cX8_readProposal 85 = .ok (.iload_n 3, 1) := by decide +kernel
theorem dX8_readProposal_86 : decode cX8_readProposal 86 = .ok (.iastore, 1) := by decide +kernel
theorem dX8_readProposal_87 : decode cX8_readProposal 87 = .ok (.aload_n 0, 1) := by decide +kernel
theorem dX8_readProposal_88 : decode cX8_readProposal 88 = .ok (.ldc 126, 2) := by decide +kernel
theorem dX8_readProposal_90 : decode cX8_readProposal 90 = .ok (.invokevirtual 48, 3) := by decide +kernel
theorem dX8_readProposal_93 : decode cX8_readProposal 93 = .ok (.ifCond .eq 19, 3) := by decide +kernel
theorem dX8_readProposal_96 : decode cX8_readProposal 96 = .ok (.aload_n 0, 1) := by decide +kernel
theorem dX8_readProposal_97 : decode cX8_readProposal 97 = .ok (.invokevirtual 33, 3) := by decide +kernel
theorem dX8_readProposal_100 : decode cX8_readProposal 100 = .ok (.aload_n 1, 1) := by decide +kernel
theorem dX8_readProposal_101 : decode cX8_readProposal 101 = .ok (.getfield 123, 3) := by decide +kernel
theorem dX8_readProposal_104 : decode cX8_readProposal 104 = .ok (.iload_n 2, 1) := by decide +kernel
theorem dX8_readProposal_105 : decode cX8_readProposal 105 = .ok (.aload_n 0, 1) := by decide +kernel
theorem dX8_readProposal_106 : decode cX8_readProposal 106 = .ok (.iconst 1, 1) := by decide +kernel
theorem dX8_readProposal_107 : decode cX8_readProposal 107 = .ok (.iload_n 3, 1) := by decide +kernel
theorem dX8_readProposal_108 : decode cX8_readProposal 108 = .ok (.invokevirtual 85, 3) := by decide +kernel
theorem dX8_readProposal_111 : decode cX8_readProposal 111 = .ok (.iastore, 1) := by decide +kernel
theorem dX8_readProposal_112 : decode cX8_readProposal 112 = .ok (.aload_n 1, 1) := by decide +kernel
theorem dX8_readProposal_113 : decode cX8_readProposal 113 = .ok (.iload_n 2, 1) := by decide +kernel
theorem dX8_readProposal_114 : decode cX8_readProposal 114 = .ok (.iconst 1, 1) := by decide +kernel
theorem dX8_readProposal_115 : decode cX8_readProposal 115 = .ok (.iadd, 1) := by decide +kernel
theorem dX8_readProposal_116 : decode cX8_readProposal 116 = .ok (.putfield 108, 3) := by decide +kernel
theorem dX8_readProposal_119 : decode cX8_readProposal 119 = .ok (.return_, 1) := by decide +kernel
theorem dX8_readConflict_0 : decode cX8_readConflict 0 = .ok (.aload_n 0, 1) := by decide +kernel
theorem dX8_readConflict_1 : decode cX8_readConflict 1 = .ok (.invokevirtual 33, 3) := by decide +kernel
theorem dX8_readConflict_4 : decode cX8_readConflict 4 = .ok (.aload_n 0, 1) := by decide +kernel
theorem dX8_readConflict_5 : decode cX8_readConflict 5 = .ok (.iconst 0, 1) := by decide +kernel
theorem dX8_readConflict_6 : decode cX8_readConflict 6 = .ok (.aload_n 1, 1) := by decide +kernel
theorem dX8_readConflict_7 : decode cX8_readConflict 7 = .ok (.getfield 89, 3) := by decide +kernel
theorem dX8_readConflict_10 : decode cX8_readConflict 10 = .ok (.iconst 1, 1) := by decide +kernel
theorem dX8_readConflict_11 : decode cX8_readConflict 11 = .ok (.isub, 1) := by decide +kernel
theorem dX8_readConflict_12 : decode cX8_readConflict 12 = .ok (.invokevirtual 85, 3) := by decide +kernel
theorem dX8_readConflict_15 : decode cX8_readConflict 15 = .ok (.istore_n 2, 1) := by decide +kernel
theorem dX8_readConflict_16 : decode cX8_readConflict 16 = .ok (.aload_n 0, 1) := by decide +kernel
theorem dX8_readConflict_17 : decode cX8_readConflict 17 = .ok (.iconst 0, 1) := by decide +kernel
theorem dX8_readConflict_18 : decode cX8_readConflict 18 = .ok (.aload_n 1, 1) := by decide +kernel
theorem dX8_readConflict_19 : decode cX8_readConflict 19 = .ok (.getfield 108, 3) := by decide +kernel
theorem dX8_readConflict_22 : decode cX8_readConflict 22 = .ok (.iconst 1, 1) := by decide +kernel
theorem dX8_readConflict_23 : decode cX8_readConflict 23 = .ok (.isub, 1) := by decide +kernel
theorem dX8_readConflict_24 : decode cX8_readConflict 24 = .ok (.invokevirtual 85, 3) := by decide +kernel
theorem dX8_readConflict_27 : decode cX8_readConflict 27 = .ok (.istore_n 3, 1) := by decide +kernel
theorem dX8_readConflict_28 : decode cX8_readConflict 28 = .ok (.iload_n 2, 1) := by decide +kernel
theorem dX8_readConflict_29 : decode cX8_readConflict 29 = .ok (.iconst (-1), 1) := by decide +kernel
theorem dX8_readConflict_30 : decode cX8_readConflict 30 = .ok (.if_icmp .eq 20, 3) := by decide +kernel
theorem dX8_readConflict_33 : decode cX8_readConflict 33 = .ok (.iload_n 3, 1) := by decide +kernel
theorem dX8_readConflict_34 : decode cX8_readConflict 34 = .ok (.iconst (-1), 1) := by decide +kernel
theorem dX8_readConflict_35 : decode cX8_readConflict 35 = .ok (.if_icmp .eq 15, 3) := by decide +kernel
theorem dX8_readConflict_38 : decode cX8_readConflict 38 = .ok (.aload_n 1, 1) := by decide +kernel
theorem dX8_readConflict_39 : decode cX8_readConflict 39 = .ok (.getfield 127, 3) := by decide +kernel
theorem dX8_readConflict_42 : decode cX8_readConflict 42 = .ok (.iload_n 2, 1) := by decide +kernel
theorem dX8_readConflict_43 : decode cX8_readConflict 43 = .ok (.dup2, 1) := by decide +kernel
theorem dX8_readConflict_44 : decode cX8_readConflict 44 = .ok (.iaload, 1) := by decide +kernel
theorem dX8_readConflict_45 : decode cX8_readConflict 45 = .ok (.iconst 1, 1) := by decide +kernel
theorem dX8_readConflict_46 : decode cX8_readConflict 46 = .ok (.iload_n 3, 1) := by decide +kernel
theorem dX8_readConflict_47 : decode cX8_readConflict 47 = .ok (.ishl, 1) := by decide +kernel
theorem dX8_readConflict_48 : decode cX8_readConflict 48 = .ok (.ior, 1) := by decide +kernel
theorem dX8_readConflict_49 : decode cX8_readConflict 49 = .ok (.iastore, 1) := by decide +kernel
theorem dX8_readConflict_50 : decode cX8_readConflict 50 = .ok (.return_, 1) := by decide +kernel
theorem dX8_readSetting_0 : decode cX8_readSetting 0 = .ok (.aload_n 0, 1) := by decide +kernel
theorem dX8_readSetting_1 : decode cX8_readSetting 1 = .ok (.ldc 130, 2) := by decide +kernel
theorem dX8_readSetting_3 : decode cX8_readSetting 3 = .ok (.invokevirtual 48, 3) := by decide +kernel
theorem dX8_readSetting_6 : decode cX8_readSetting 6 = .ok (.ifCond .eq 20, 3) := by decide +kernel
theorem dX8_readSetting_9 : decode cX8_readSetting 9 = .ok (.aload_n 0, 1) := by decide +kernel
theorem dX8_readSetting_10 : decode cX8_readSetting 10 = .ok (.invokevirtual 33, 3) := by decide +kernel
theorem dX8_readSetting_13 : decode cX8_readSetting 13 = .ok (.aload_n 1, 1) := by decide +kernel
theorem dX8_readSetting_14 : decode cX8_readSetting 14 = .ok (.aload_n 0, 1) := by decide +kernel
theorem dX8_readSetting_15 : decode cX8_readSetting 15 = .ok (.iconst 1, 1) := by decide +kernel
theorem dX8_readSetting_16 : decode cX8_readSetting 16 = .ok (.iconst 4, 1) := by decide +kernel
theorem dX8_readSetting_17 : decode cX8_readSetting 17 = .ok (.invokevirtual 85, 3) := by decide +kernel
theorem dX8_readSetting_20 : decode cX8_readSetting 20 = .ok (.putfield 132, 3) := by decide +kernel
theorem dX8_readSetting_23 : decode cX8_readSetting 23 = .ok (.goto 89, 3) := by decide +kernel
theorem dX8_readSetting_26 : decode cX8_readSetting 26 = .ok (.aload_n 0, 1) := by decide +kernel
theorem dX8_readSetting_27 : decode cX8_readSetting 27 = .ok (.ldc 135, 2) := by decide +kernel
theorem dX8_readSetting_29 : decode cX8_readSetting 29 = .ok (.invokevirtual 48, 3) := by decide +kernel
theorem dX8_readSetting_32 : decode cX8_readSetting 32 = .ok (.ifCond .eq 21, 3) := by decide +kernel
theorem dX8_readSetting_35 : decode cX8_readSetting 35 = .ok (.aload_n 0, 1) := by decide +kernel
theorem dX8_readSetting_36 : decode cX8_readSetting 36 = .ok (.invokevirtual 33, 3) := by decide +kernel
theorem dX8_readSetting_39 : decode cX8_readSetting 39 = .ok (.aload_n 1, 1) := by decide +kernel
theorem dX8_readSetting_40 : decode cX8_readSetting 40 = .ok (.aload_n 0, 1) := by decide +kernel
theorem dX8_readSetting_41 : decode cX8_readSetting 41 = .ok (.iconst 0, 1) := by decide +kernel
theorem dX8_readSetting_42 : decode cX8_readSetting 42 = .ok (.ldc 84, 2) := by decide +kernel
theorem dX8_readSetting_44 : decode cX8_readSetting 44 = .ok (.invokevirtual 85, 3) := by decide +kernel
theorem dX8_readSetting_47 : decode cX8_readSetting 47 = .ok (.putfield 137, 3) := by decide +kernel
theorem dX8_readSetting_50 : decode cX8_readSetting 50 = .ok (.goto 62, 3) := by decide +kernel
theorem dX8_readSetting_53 : decode cX8_readSetting 53 = .ok (.aload_n 0, 1) := by decide +kernel
theorem dX8_readSetting_54 : decode cX8_readSetting 54 = .ok (.ldc 139, 2) := by decide +kernel
theorem dX8_readSetting_56 : decode cX8_readSetting 56 = .ok (.invokevirtual 48, 3) := by decide +kernel
theorem dX8_readSetting_59 : decode cX8_readSetting 59 = .ok (.ifCond .eq 21, 3) := by decide +kernel
theorem dX8_readSetting_62 : decode cX8_readSetting 62 = .ok (.aload_n 0, 1) := by decide +kernel
theorem dX8_readSetting_63 : decode cX8_readSetting 63 = .ok (.invokevirtual 33, 3) := by decide +kernel
theorem dX8_readSetting_66 : decode cX8_readSetting 66 = .ok (.aload_n 1, 1) := by decide +kernel
theorem dX8_readSetting_67 : decode cX8_readSetting 67 = .ok (.aload_n 0, 1) := by decide +kernel
theorem dX8_readSetting_68 : decode cX8_readSetting 68 = .ok (.iconst 0, 1) := by decide +kernel
theorem dX8_readSetting_69 : decode cX8_readSetting 69 = .ok (.ldc 84, 2) := by decide +kernel
theorem dX8_readSetting_71 : decode cX8_readSetting 71 = .ok (.invokevirtual 85, 3) := by decide +kernel
theorem dX8_readSetting_74 : decode cX8_readSetting 74 = .ok (.putfield 141, 3) := by decide +kernel
theorem dX8_readSetting_77 : decode cX8_readSetting 77 = .ok (.goto 35, 3) := by decide +kernel
theorem dX8_readSetting_80 : decode cX8_readSetting 80 = .ok (.aload_n 0, 1) := by decide +kernel
theorem dX8_readSetting_81 : decode cX8_readSetting 81 = .ok (.ldc 143, 2) := by decide +kernel
theorem dX8_readSetting_83 : decode cX8_readSetting 83 = .ok (.invokevirtual 48, 3) := by decide +kernel
theorem dX8_readSetting_86 : decode cX8_readSetting 86 = .ok (.ifCond .eq 21, 3) := by decide +kernel
theorem dX8_readSetting_89 : decode cX8_readSetting 89 = .ok (.aload_n 0, 1) := by decide +kernel
theorem dX8_readSetting_90 : decode cX8_readSetting 90 = .ok (.invokevirtual 33, 3) := by decide +kernel
theorem dX8_readSetting_93 : decode cX8_readSetting 93 = .ok (.aload_n 1, 1) := by decide +kernel
theorem dX8_readSetting_94 : decode cX8_readSetting 94 = .ok (.aload_n 0, 1) := by decide +kernel
theorem dX8_readSetting_95 : decode cX8_readSetting 95 = .ok (.iconst 0, 1) := by decide +kernel
theorem dX8_readSetting_96 : decode cX8_readSetting 96 = .ok (.bipush 99, 2) := by decide +kernel
theorem dX8_readSetting_98 : decode cX8_readSetting 98 = .ok (.invokevirtual 85, 3) := by decide +kernel
theorem dX8_readSetting_101 : decode cX8_readSetting 101 = .ok (.putfield 145, 3) := by decide +kernel
theorem dX8_readSetting_104 : decode cX8_readSetting 104 = .ok (.goto 8, 3) := by decide +kernel
theorem dX8_readSetting_107 : decode cX8_readSetting 107 = .ok (.aload_n 0, 1) := by decide +kernel
theorem dX8_readSetting_108 : decode cX8_readSetting 108 = .ok (.iconst 1, 1) := by decide +kernel
theorem dX8_readSetting_109 : decode cX8_readSetting 109 = .ok (.invokevirtual 76, 3) := by decide +kernel
theorem dX8_readSetting_112 : decode cX8_readSetting 112 = .ok (.return_, 1) := by decide +kernel
theorem dX8_readNumber_0 : decode cX8_readNumber 0 = .ok (.aload_n 0, 1) := by decide +kernel
theorem dX8_readNumber_1 : decode cX8_readNumber 1 = .ok (.getfield 36, 3) := by decide +kernel
theorem dX8_readNumber_4 : decode cX8_readNumber 4 = .ok (.iconst 3, 1) := by decide +kernel
theorem dX8_readNumber_5 : decode cX8_readNumber 5 = .ok (.if_icmp .eq 10, 3) := by decide +kernel
theorem dX8_readNumber_8 : decode cX8_readNumber 8 = .ok (.aload_n 0, 1) := by decide +kernel
theorem dX8_readNumber_9 : decode cX8_readNumber 9 = .ok (.iconst 1, 1) := by decide +kernel
theorem dX8_readNumber_10 : decode cX8_readNumber 10 = .ok (.invokevirtual 76, 3) := by decide +kernel
theorem dX8_readNumber_13 : decode cX8_readNumber 13 = .ok (.iconst (-1), 1) := by decide +kernel
theorem dX8_readNumber_14 : decode cX8_readNumber 14 = .ok (.ireturn, 1) := by decide +kernel
theorem dX8_readNumber_15 : decode cX8_readNumber 15 = .ok (.aload_n 0, 1) := by decide +kernel
theorem dX8_readNumber_16 : decode cX8_readNumber 16 = .ok (.getfield 147, 3) := by decide +kernel
theorem dX8_readNumber_19 : decode cX8_readNumber 19 = .ok (.iload_n 1, 1) := by decide +kernel
theorem dX8_readNumber_20 : decode cX8_readNumber 20 = .ok (.if_icmp .lt 11, 3) := by decide +kernel
theorem dX8_readNumber_23 : decode cX8_readNumber 23 = .ok (.aload_n 0, 1) := by decide +kernel
theorem dX8_readNumber_24 : decode cX8_readNumber 24 = .ok (.getfield 147, 3) := by decide +kernel
theorem dX8_readNumber_27 : decode cX8_readNumber 27 = .ok (.iload_n 2, 1) := by decide +kernel
theorem dX8_readNumber_28 : decode cX8_readNumber 28 = .ok (.if_icmp .le 10, 3) := by decide +kernel
theorem dX8_readNumber_31 : decode cX8_readNumber 31 = .ok (.aload_n 0, 1) := by decide +kernel
theorem dX8_readNumber_32 : decode cX8_readNumber 32 = .ok (.iconst 2, 1) := by decide +kernel
theorem dX8_readNumber_33 : decode cX8_readNumber 33 = .ok (.invokevirtual 76, 3) := by decide +kernel
theorem dX8_readNumber_36 : decode cX8_readNumber 36 = .ok (.iconst (-1), 1) := by decide +kernel
theorem dX8_readNumber_37 : decode cX8_readNumber 37 = .ok (.ireturn, 1) := by decide +kernel
theorem dX8_readNumber_38 : decode cX8_readNumber 38 = .ok (.aload_n 0, 1) := by decide +kernel
theorem dX8_readNumber_39 : decode cX8_readNumber 39 = .ok (.getfield 147, 3) := by decide +kernel
theorem dX8_readNumber_42 : decode cX8_readNumber 42 = .ok (.istore_n 3, 1) := by decide +kernel
theorem dX8_readNumber_43 : decode cX8_readNumber 43 = .ok (.aload_n 0, 1) := by decide +kernel
theorem dX8_readNumber_44 : decode cX8_readNumber 44 = .ok (.invokevirtual 33, 3) := by decide +kernel
theorem dX8_readNumber_47 : decode cX8_readNumber 47 = .ok (.iload_n 3, 1) := by decide +kernel
theorem dX8_readNumber_48 : decode cX8_readNumber 48 = .ok (.ireturn, 1) := by decide +kernel
theorem dX8_readSemicolon_0 : decode cX8_readSemicolon 0 = .ok (.aload_n 0, 1) := by decide +kernel
theorem dX8_readSemicolon_1 : decode cX8_readSemicolon 1 = .ok (.getfield 36, 3) := by decide +kernel
theorem dX8_readSemicolon_4 : decode cX8_readSemicolon 4 = .ok (.iconst 4, 1) := by decide +kernel
theorem dX8_readSemicolon_5 : decode cX8_readSemicolon 5 = .ok (.if_icmp .eq 9, 3) := by decide +kernel
theorem dX8_readSemicolon_8 : decode cX8_readSemicolon 8 = .ok (.aload_n 0, 1) := by decide +kernel
theorem dX8_readSemicolon_9 : decode cX8_readSemicolon 9 = .ok (.iconst 1, 1) := by decide +kernel
theorem dX8_readSemicolon_10 : decode cX8_readSemicolon 10 = .ok (.invokevirtual 76, 3) := by decide +kernel
theorem dX8_readSemicolon_13 : decode cX8_readSemicolon 13 = .ok (.return_, 1) := by decide +kernel
theorem dX8_readSemicolon_14 : decode cX8_readSemicolon 14 = .ok (.aload_n 0, 1) := by decide +kernel
theorem dX8_readSemicolon_15 : decode cX8_readSemicolon 15 = .ok (.invokevirtual 33, 3) := by decide +kernel
theorem dX8_readSemicolon_18 : decode cX8_readSemicolon 18 = .ok (.return_, 1) := by decide +kernel
theorem dX8_fail_0 : decode cX8_fail 0 = .ok (.aload_n 0, 1) := by decide +kernel
theorem dX8_fail_1 : decode cX8_fail 1 = .ok (.getfield 27, 3) := by decide +kernel
theorem dX8_fail_4 : decode cX8_fail 4 = .ok (.ifCond .ne 16, 3) := by decide +kernel
theorem dX8_fail_7 : decode cX8_fail 7 = .ok (.aload_n 0, 1) := by decide +kernel
theorem dX8_fail_8 : decode cX8_fail 8 = .ok (.iload_n 1, 1) := by decide +kernel
theorem dX8_fail_9 : decode cX8_fail 9 = .ok (.putfield 27, 3) := by decide +kernel
theorem dX8_fail_12 : decode cX8_fail 12 = .ok (.aload_n 0, 1) := by decide +kernel
theorem dX8_fail_13 : decode cX8_fail 13 = .ok (.aload_n 0, 1) := by decide +kernel
theorem dX8_fail_14 : decode cX8_fail 14 = .ok (.getfield 150, 3) := by decide +kernel
theorem dX8_fail_17 : decode cX8_fail 17 = .ok (.putfield 15, 3) := by decide +kernel
theorem dX8_fail_20 : decode cX8_fail 20 = .ok (.aload_n 0, 1) := by decide +kernel
theorem dX8_fail_21 : decode cX8_fail 21 = .ok (.iconst 5, 1) := by decide +kernel
theorem dX8_fail_22 : decode cX8_fail 22 = .ok (.putfield 36, 3) := by decide +kernel
theorem dX8_fail_25 : decode cX8_fail 25 = .ok (.return_, 1) := by decide +kernel
theorem dX8_isWord_0 : decode cX8_isWord 0 = .ok (.aload_n 0, 1) := by decide +kernel
theorem dX8_isWord_1 : decode cX8_isWord 1 = .ok (.getfield 36, 3) := by decide +kernel
theorem dX8_isWord_4 : decode cX8_isWord 4 = .ok (.iconst 2, 1) := by decide +kernel
theorem dX8_isWord_5 : decode cX8_isWord 5 = .ok (.if_icmp .ne 19, 3) := by decide +kernel
theorem dX8_isWord_8 : decode cX8_isWord 8 = .ok (.aload_n 0, 1) := by decide +kernel
theorem dX8_isWord_9 : decode cX8_isWord 9 = .ok (.getfield 30, 3) := by decide +kernel
theorem dX8_isWord_12 : decode cX8_isWord 12 = .ok (.aload_n 0, 1) := by decide +kernel
theorem dX8_isWord_13 : decode cX8_isWord 13 = .ok (.getfield 150, 3) := by decide +kernel
theorem dX8_isWord_16 : decode cX8_isWord 16 = .ok (.isub, 1) := by decide +kernel
theorem dX8_isWord_17 : decode cX8_isWord 17 = .ok (.aload_n 1, 1) := by decide +kernel
theorem dX8_isWord_18 : decode cX8_isWord 18 = .ok (.invokevirtual 153, 3) := by decide +kernel
theorem dX8_isWord_21 : decode cX8_isWord 21 = .ok (.if_icmp .eq 5, 3) := by decide +kernel
theorem dX8_isWord_24 : decode cX8_isWord 24 = .ok (.iconst 0, 1) := by decide +kernel
theorem dX8_isWord_25 : decode cX8_isWord 25 = .ok (.ireturn, 1) := by decide +kernel
theorem dX8_isWord_26 : decode cX8_isWord 26 = .ok (.iconst 0, 1) := by decide +kernel
theorem dX8_isWord_27 : decode cX8_isWord 27 = .ok (.istore_n 2, 1) := by decide +kernel
theorem dX8_isWord_28 : decode cX8_isWord 28 = .ok (.iload_n 2, 1) := by decide +kernel
theorem dX8_isWord_29 : decode cX8_isWord 29 = .ok (.aload_n 1, 1) := by decide +kernel
theorem dX8_isWord_30 : decode cX8_isWord 30 = .ok (.invokevirtual 153, 3) := by decide +kernel
theorem dX8_isWord_33 : decode cX8_isWord 33 = .ok (.if_icmp .ge 30, 3) := by decide +kernel
theorem dX8_isWord_36 : decode cX8_isWord 36 = .ok (.aload_n 0, 1) := by decide +kernel
theorem dX8_isWord_37 : decode cX8_isWord 37 = .ok (.getfield 9, 3) := by decide +kernel
theorem dX8_isWord_40 : decode cX8_isWord 40 = .ok (.aload_n 0, 1) := by decide +kernel
theorem dX8_isWord_41 : decode cX8_isWord 41 = .ok (.getfield 150, 3) := by decide +kernel
theorem dX8_isWord_44 : decode cX8_isWord 44 = .ok (.iload_n 2, 1) := by decide +kernel
theorem dX8_isWord_45 : decode cX8_isWord 45 = .ok (.iadd, 1) := by decide +kernel
theorem dX8_isWord_46 : decode cX8_isWord 46 = .ok (.baload, 1) := by decide +kernel
theorem dX8_isWord_47 : decode cX8_isWord 47 = .ok (.aload_n 1, 1) := by decide +kernel
theorem dX8_isWord_48 : decode cX8_isWord 48 = .ok (.iload_n 2, 1) := by decide +kernel
theorem dX8_isWord_49 : decode cX8_isWord 49 = .ok (.invokevirtual 158, 3) := by decide +kernel
theorem dX8_isWord_52 : decode cX8_isWord 52 = .ok (.if_icmp .eq 5, 3) := by decide +kernel
theorem dX8_isWord_55 : decode cX8_isWord 55 = .ok (.iconst 0, 1) := by decide +kernel
theorem dX8_isWord_56 : decode cX8_isWord 56 = .ok (.ireturn, 1) := by decide +kernel
theorem dX8_isWord_57 : decode cX8_isWord 57 = .ok (.iinc 2 1, 3) := by decide +kernel
theorem dX8_isWord_60 : decode cX8_isWord 60 = .ok (.goto (-32), 3) := by decide +kernel
theorem dX8_isWord_63 : decode cX8_isWord 63 = .ok (.iconst 1, 1) := by decide +kernel
theorem dX8_isWord_64 : decode cX8_isWord 64 = .ok (.ireturn, 1) := by decide +kernel
theorem dX8_nextToken_0 : decode cX8_nextToken 0 = .ok (.aload_n 0, 1) := by decide +kernel
theorem dX8_nextToken_1 : decode cX8_nextToken 1 = .ok (.getfield 30, 3) := by decide +kernel
theorem dX8_nextToken_4 : decode cX8_nextToken 4 = .ok (.aload_n 0, 1) := by decide +kernel
theorem dX8_nextToken_5 : decode cX8_nextToken 5 = .ok (.getfield 19, 3) := by decide +kernel
theorem dX8_nextToken_8 : decode cX8_nextToken 8 = .ok (.if_icmp .ge 32, 3) := by decide +kernel
theorem dX8_nextToken_11 : decode cX8_nextToken 11 = .ok (.aload_n 0, 1) := by decide +kernel
theorem dX8_nextToken_12 : decode cX8_nextToken 12 = .ok (.getfield 9, 3) := by decide +kernel
theorem dX8_nextToken_15 : decode cX8_nextToken 15 = .ok (.aload_n 0, 1) := by decide +kernel
theorem dX8_nextToken_16 : decode cX8_nextToken 16 = .ok (.getfield 30, 3) := by decide +kernel
theorem dX8_nextToken_19 : decode cX8_nextToken 19 = .ok (.baload, 1) := by decide +kernel
theorem dX8_nextToken_20 : decode cX8_nextToken 20 = .ok (.invokestatic 162, 3) := by decide +kernel
theorem dX8_nextToken_23 : decode cX8_nextToken 23 = .ok (.iconst 1, 1) := by decide +kernel
theorem dX8_nextToken_24 : decode cX8_nextToken 24 = .ok (.if_icmp .ne 16, 3) := by decide +kernel
theorem dX8_nextToken_27 : decode cX8_nextToken 27 = .ok (.aload_n 0, 1) := by decide +kernel
theorem dX8_nextToken_28 : decode cX8_nextToken 28 = .ok (.dup, 1) := by decide +kernel
theorem dX8_nextToken_29 : decode cX8_nextToken 29 = .ok (.getfield 30, 3) := by decide +kernel
theorem dX8_nextToken_32 : decode cX8_nextToken 32 = .ok (.iconst 1, 1) := by decide +kernel
theorem dX8_nextToken_33 : decode cX8_nextToken 33 = .ok (.iadd, 1) := by decide +kernel
theorem dX8_nextToken_34 : decode cX8_nextToken 34 = .ok (.putfield 30, 3) := by decide +kernel
theorem dX8_nextToken_37 : decode cX8_nextToken 37 = .ok (.goto (-37), 3) := by decide +kernel
theorem dX8_nextToken_40 : decode cX8_nextToken 40 = .ok (.aload_n 0, 1) := by decide +kernel
theorem dX8_nextToken_41 : decode cX8_nextToken 41 = .ok (.aload_n 0, 1) := by decide +kernel
theorem dX8_nextToken_42 : decode cX8_nextToken 42 = .ok (.getfield 30, 3) := by decide +kernel
theorem dX8_nextToken_45 : decode cX8_nextToken 45 = .ok (.putfield 150, 3) := by decide +kernel
theorem dX8_nextToken_48 : decode cX8_nextToken 48 = .ok (.aload_n 0, 1) := by decide +kernel
theorem dX8_nextToken_49 : decode cX8_nextToken 49 = .ok (.aload_n 0, 1) := by decide +kernel
theorem dX8_nextToken_50 : decode cX8_nextToken 50 = .ok (.getfield 30, 3) := by decide +kernel
theorem dX8_nextToken_53 : decode cX8_nextToken 53 = .ok (.aload_n 0, 1) := by decide +kernel
theorem dX8_nextToken_54 : decode cX8_nextToken 54 = .ok (.getfield 19, 3) := by decide +kernel
theorem dX8_nextToken_57 : decode cX8_nextToken 57 = .ok (.if_icmp .ge 18, 3) := by decide +kernel
theorem dX8_nextToken_60 : decode cX8_nextToken 60 = .ok (.aload_n 0, 1) := by decide +kernel
theorem dX8_nextToken_61 : decode cX8_nextToken 61 = .ok (.getfield 9, 3) := by decide +kernel
theorem dX8_nextToken_64 : decode cX8_nextToken 64 = .ok (.aload_n 0, 1) := by decide +kernel
theorem dX8_nextToken_65 : decode cX8_nextToken 65 = .ok (.getfield 30, 3) := by decide +kernel
theorem dX8_nextToken_68 : decode cX8_nextToken 68 = .ok (.baload, 1) := by decide +kernel
theorem dX8_nextToken_69 : decode cX8_nextToken 69 = .ok (.invokestatic 162, 3) := by decide +kernel
theorem dX8_nextToken_72 : decode cX8_nextToken 72 = .ok (.goto 4, 3) := by decide +kernel
theorem dX8_nextToken_75 : decode cX8_nextToken 75 = .ok (.iconst 0, 1) := by decide +kernel
theorem dX8_nextToken_76 : decode cX8_nextToken 76 = .ok (.putfield 36, 3) := by decide +kernel
theorem dX8_nextToken_79 : decode cX8_nextToken 79 = .ok (.aload_n 0, 1) := by decide +kernel
theorem dX8_nextToken_80 : decode cX8_nextToken 80 = .ok (.getfield 36, 3) := by decide +kernel
theorem dX8_nextToken_83 : decode cX8_nextToken 83 = .ok (.iconst 4, 1) := by decide +kernel
theorem dX8_nextToken_84 : decode cX8_nextToken 84 = .ok (.if_icmp .ne 16, 3) := by decide +kernel
theorem dX8_nextToken_87 : decode cX8_nextToken 87 = .ok (.aload_n 0, 1) := by decide +kernel
theorem dX8_nextToken_88 : decode cX8_nextToken 88 = .ok (.dup, 1) := by decide +kernel
theorem dX8_nextToken_89 : decode cX8_nextToken 89 = .ok (.getfield 30, 3) := by decide +kernel
theorem dX8_nextToken_92 : decode cX8_nextToken 92 = .ok (.iconst 1, 1) := by decide +kernel
theorem dX8_nextToken_93 : decode cX8_nextToken 93 = .ok (.iadd, 1) := by decide +kernel
theorem dX8_nextToken_94 : decode cX8_nextToken 94 = .ok (.putfield 30, 3) := by decide +kernel
theorem dX8_nextToken_97 : decode cX8_nextToken 97 = .ok (.goto 62, 3) := by decide +kernel
theorem dX8_nextToken_100 : decode cX8_nextToken 100 = .ok (.aload_n 0, 1) := by decide +kernel
theorem dX8_nextToken_101 : decode cX8_nextToken 101 = .ok (.getfield 36, 3) := by decide +kernel
theorem dX8_nextToken_104 : decode cX8_nextToken 104 = .ok (.iconst 2, 1) := by decide +kernel
theorem dX8_nextToken_105 : decode cX8_nextToken 105 = .ok (.if_icmp .eq 11, 3) := by decide +kernel
theorem dX8_nextToken_108 : decode cX8_nextToken 108 = .ok (.aload_n 0, 1) := by decide +kernel
theorem dX8_nextToken_109 : decode cX8_nextToken 109 = .ok (.getfield 36, 3) := by decide +kernel
theorem dX8_nextToken_112 : decode cX8_nextToken 112 = .ok (.iconst 3, 1) := by decide +kernel
theorem dX8_nextToken_113 : decode cX8_nextToken 113 = .ok (.if_icmp .ne 46, 3) := by decide +kernel
theorem dX8_nextToken_116 : decode cX8_nextToken 116 = .ok (.aload_n 0, 1) := by decide +kernel
theorem dX8_nextToken_117 : decode cX8_nextToken 117 = .ok (.getfield 30, 3) := by decide +kernel
theorem dX8_nextToken_120 : decode cX8_nextToken 120 = .ok (.aload_n 0, 1) := by decide +kernel
theorem dX8_nextToken_121 : decode cX8_nextToken 121 = .ok (.getfield 19, 3) := by decide +kernel
theorem dX8_nextToken_124 : decode cX8_nextToken 124 = .ok (.if_icmp .ge 35, 3) := by decide +kernel
theorem dX8_nextToken_127 : decode cX8_nextToken 127 = .ok (.aload_n 0, 1) := by decide +kernel
theorem dX8_nextToken_128 : decode cX8_nextToken 128 = .ok (.getfield 9, 3) := by decide +kernel
theorem dX8_nextToken_131 : decode cX8_nextToken 131 = .ok (.aload_n 0, 1) := by decide +kernel
theorem dX8_nextToken_132 : decode cX8_nextToken 132 = .ok (.getfield 30, 3) := by decide +kernel
theorem dX8_nextToken_135 : decode cX8_nextToken 135 = .ok (.baload, 1) := by decide +kernel
theorem dX8_nextToken_136 : decode cX8_nextToken 136 = .ok (.invokestatic 162, 3) := by decide +kernel
theorem dX8_nextToken_139 : decode cX8_nextToken 139 = .ok (.aload_n 0, 1) := by decide +kernel
theorem dX8_nextToken_140 : decode cX8_nextToken 140 = .ok (.getfield 36, 3) := by decide +kernel
theorem dX8_nextToken_143 : decode cX8_nextToken 143 = .ok (.if_icmp .ne 16, 3) := by decide +kernel
theorem dX8_nextToken_146 : decode cX8_nextToken 146 = .ok (.aload_n 0, 1) := by decide +kernel
theorem dX8_nextToken_147 : decode cX8_nextToken 147 = .ok (.dup, 1) := by decide +kernel
theorem dX8_nextToken_148 : decode cX8_nextToken 148 = .ok (.getfield 30, 3) := by decide +kernel
theorem dX8_nextToken_151 : decode cX8_nextToken 151 = .ok (.iconst 1, 1) := by decide +kernel
theorem dX8_nextToken_152 : decode cX8_nextToken 152 = .ok (.iadd, 1) := by decide +kernel
theorem dX8_nextToken_153 : decode cX8_nextToken 153 = .ok (.putfield 30, 3) := by decide +kernel
theorem dX8_nextToken_156 : decode cX8_nextToken 156 = .ok (.goto (-40), 3) := by decide +kernel
theorem dX8_nextToken_159 : decode cX8_nextToken 159 = .ok (.aload_n 0, 1) := by decide +kernel
theorem dX8_nextToken_160 : decode cX8_nextToken 160 = .ok (.getfield 36, 3) := by decide +kernel
theorem dX8_nextToken_163 : decode cX8_nextToken 163 = .ok (.iconst 3, 1) := by decide +kernel
theorem dX8_nextToken_164 : decode cX8_nextToken 164 = .ok (.if_icmp .ne 7, 3) := by decide +kernel
theorem dX8_nextToken_167 : decode cX8_nextToken 167 = .ok (.aload_n 0, 1) := by decide +kernel
theorem dX8_nextToken_168 : decode cX8_nextToken 168 = .ok (.invokevirtual 166, 3) := by decide +kernel
theorem dX8_nextToken_171 : decode cX8_nextToken 171 = .ok (.return_, 1) := by decide +kernel
theorem dX8_evaluate_0 : decode cX8_evaluate 0 = .ok (.aload_n 0, 1) := by decide +kernel
theorem dX8_evaluate_1 : decode cX8_evaluate 1 = .ok (.getfield 30, 3) := by decide +kernel
theorem dX8_evaluate_4 : decode cX8_evaluate 4 = .ok (.aload_n 0, 1) := by decide +kernel
theorem dX8_evaluate_5 : decode cX8_evaluate 5 = .ok (.getfield 150, 3) := by decide +kernel
theorem dX8_evaluate_8 : decode cX8_evaluate 8 = .ok (.isub, 1) := by decide +kernel
theorem dX8_evaluate_9 : decode cX8_evaluate 9 = .ok (.bipush 6, 2) := by decide +kernel
theorem dX8_evaluate_11 : decode cX8_evaluate 11 = .ok (.if_icmp .le 9, 3) := by decide +kernel
theorem dX8_evaluate_14 : decode cX8_evaluate 14 = .ok (.aload_n 0, 1) := by decide +kernel
theorem dX8_evaluate_15 : decode cX8_evaluate 15 = .ok (.iconst 5, 1) := by decide +kernel
theorem dX8_evaluate_16 : decode cX8_evaluate 16 = .ok (.putfield 36, 3) := by decide +kernel
theorem dX8_evaluate_19 : decode cX8_evaluate 19 = .ok (.return_, 1) := by decide +kernel
theorem dX8_evaluate_20 : decode cX8_evaluate 20 = .ok (.aload_n 0, 1) := by decide +kernel
theorem dX8_evaluate_21 : decode cX8_evaluate 21 = .ok (.iconst 0, 1) := by decide +kernel
theorem dX8_evaluate_22 : decode cX8_evaluate 22 = .ok (.putfield 147, 3) := by decide +kernel
theorem dX8_evaluate_25 : decode cX8_evaluate 25 = .ok (.aload_n 0, 1) := by decide +kernel
theorem dX8_evaluate_26 : decode cX8_evaluate 26 = .ok (.getfield 150, 3) := by decide +kernel
theorem dX8_evaluate_29 : decode cX8_evaluate 29 = .ok (.istore_n 1, 1) := by decide +kernel
theorem dX8_evaluate_30 : decode cX8_evaluate 30 = .ok (.iload_n 1, 1) := by decide +kernel
theorem dX8_evaluate_31 : decode cX8_evaluate 31 = .ok (.aload_n 0, 1) := by decide +kernel
theorem dX8_evaluate_32 : decode cX8_evaluate 32 = .ok (.getfield 30, 3) := by decide +kernel
theorem dX8_evaluate_35 : decode cX8_evaluate 35 = .ok (.if_icmp .ge 30, 3) := by decide +kernel
theorem dX8_evaluate_38 : decode cX8_evaluate 38 = .ok (.aload_n 0, 1) := by decide +kernel
theorem dX8_evaluate_39 : decode cX8_evaluate 39 = .ok (.bipush 10, 2) := by decide +kernel
theorem dX8_evaluate_41 : decode cX8_evaluate 41 = .ok (.aload_n 0, 1) := by decide +kernel
theorem dX8_evaluate_42 : decode cX8_evaluate 42 = .ok (.getfield 147, 3) := by decide +kernel
theorem dX8_evaluate_45 : decode cX8_evaluate 45 = .ok (.imul, 1) := by decide +kernel
theorem dX8_evaluate_46 : decode cX8_evaluate 46 = .ok (.aload_n 0, 1) := by decide +kernel
theorem dX8_evaluate_47 : decode cX8_evaluate 47 = .ok (.getfield 9, 3) := by decide +kernel
theorem dX8_evaluate_50 : decode cX8_evaluate 50 = .ok (.iload_n 1, 1) := by decide +kernel
theorem dX8_evaluate_51 : decode cX8_evaluate 51 = .ok (.baload, 1) := by decide +kernel
theorem dX8_evaluate_52 : decode cX8_evaluate 52 = .ok (.iadd, 1) := by decide +kernel
theorem dX8_evaluate_53 : decode cX8_evaluate 53 = .ok (.bipush 48, 2) := by decide +kernel
theorem dX8_evaluate_55 : decode cX8_evaluate 55 = .ok (.isub, 1) := by decide +kernel
theorem dX8_evaluate_56 : decode cX8_evaluate 56 = .ok (.putfield 147, 3) := by decide +kernel
theorem dX8_evaluate_59 : decode cX8_evaluate 59 = .ok (.iinc 1 1, 3) := by decide +kernel
theorem dX8_evaluate_62 : decode cX8_evaluate 62 = .ok (.goto (-32), 3) := by decide +kernel
theorem dX8_evaluate_65 : decode cX8_evaluate 65 = .ok (.return_, 1) := by decide +kernel
theorem dX8_kindOf_0 : decode cX8_kindOf 0 = .ok (.iload_n 0, 1) := by decide +kernel
theorem dX8_kindOf_1 : decode cX8_kindOf 1 = .ok (.bipush 10, 2) := by decide +kernel
theorem dX8_kindOf_3 : decode cX8_kindOf 3 = .ok (.if_icmp .eq 9, 3) := by decide +kernel
theorem dX8_kindOf_6 : decode cX8_kindOf 6 = .ok (.iload_n 0, 1) := by decide +kernel
theorem dX8_kindOf_7 : decode cX8_kindOf 7 = .ok (.bipush 32, 2) := by decide +kernel
theorem dX8_kindOf_9 : decode cX8_kindOf 9 = .ok (.if_icmp .ne 5, 3) := by decide +kernel
theorem dX8_kindOf_12 : decode cX8_kindOf 12 = .ok (.iconst 1, 1) := by decide +kernel
theorem dX8_kindOf_13 : decode cX8_kindOf 13 = .ok (.ireturn, 1) := by decide +kernel
theorem dX8_kindOf_14 : decode cX8_kindOf 14 = .ok (.iload_n 0, 1) := by decide +kernel
theorem dX8_kindOf_15 : decode cX8_kindOf 15 = .ok (.bipush 97, 2) := by decide +kernel
theorem dX8_kindOf_17 : decode cX8_kindOf 17 = .ok (.if_icmp .lt 11, 3) := by decide +kernel
theorem dX8_kindOf_20 : decode cX8_kindOf 20 = .ok (.iload_n 0, 1) := by decide +kernel
theorem dX8_kindOf_21 : decode cX8_kindOf 21 = .ok (.bipush 122, 2) := by decide +kernel
theorem dX8_kindOf_23 : decode cX8_kindOf 23 = .ok (.if_icmp .gt 5, 3) := by decide +kernel
theorem dX8_kindOf_26 : decode cX8_kindOf 26 = .ok (.iconst 2, 1) := by decide +kernel
theorem dX8_kindOf_27 : decode cX8_kindOf 27 = .ok (.ireturn, 1) := by decide +kernel
theorem dX8_kindOf_28 : decode cX8_kindOf 28 = .ok (.iload_n 0, 1) := by decide +kernel
theorem dX8_kindOf_29 : decode cX8_kindOf 29 = .ok (.bipush 48, 2) := by decide +kernel
theorem dX8_kindOf_31 : decode cX8_kindOf 31 = .ok (.if_icmp .lt 11, 3) := by decide +kernel
theorem dX8_kindOf_34 : decode cX8_kindOf 34 = .ok (.iload_n 0, 1) := by decide +kernel
theorem dX8_kindOf_35 : decode cX8_kindOf 35 = .ok (.bipush 57, 2) := by decide +kernel
theorem dX8_kindOf_37 : decode cX8_kindOf 37 = .ok (.if_icmp .gt 5, 3) := by decide +kernel
theorem dX8_kindOf_40 : decode cX8_kindOf 40 = .ok (.iconst 3, 1) := by decide +kernel
theorem dX8_kindOf_41 : decode cX8_kindOf 41 = .ok (.ireturn, 1) := by decide +kernel
theorem dX8_kindOf_42 : decode cX8_kindOf 42 = .ok (.iload_n 0, 1) := by decide +kernel
theorem dX8_kindOf_43 : decode cX8_kindOf 43 = .ok (.bipush 59, 2) := by decide +kernel
theorem dX8_kindOf_45 : decode cX8_kindOf 45 = .ok (.if_icmp .ne 7, 3) := by decide +kernel
theorem dX8_kindOf_48 : decode cX8_kindOf 48 = .ok (.iconst 4, 1) := by decide +kernel
theorem dX8_kindOf_49 : decode cX8_kindOf 49 = .ok (.goto 4, 3) := by decide +kernel
theorem dX8_kindOf_52 : decode cX8_kindOf 52 = .ok (.iconst 5, 1) := by decide +kernel
theorem dX8_kindOf_53 : decode cX8_kindOf 53 = .ok (.ireturn, 1) := by decide +kernel
theorem dX9_init_0 : decode cX9_init 0 = .ok (.aload_n 0, 1) := by decide +kernel
theorem dX9_init_1 : decode cX9_init 1 = .ok (.invokespecial 1, 3) := by decide +kernel
theorem dX9_init_4 : decode cX9_init 4 = .ok (.aload_n 0, 1) := by decide +kernel
theorem dX9_init_5 : decode cX9_init 5 = .ok (.new 7, 3) := by decide +kernel
theorem dX9_init_8 : decode cX9_init 8 = .ok (.dup, 1) := by decide +kernel
theorem dX9_init_9 : decode cX9_init 9 = .ok (.invokespecial 9, 3) := by decide +kernel
theorem dX9_init_12 : decode cX9_init 12 = .ok (.putfield 10, 3) := by decide +kernel
theorem dX9_init_15 : decode cX9_init 15 = .ok (.aload_n 0, 1) := by decide +kernel
theorem dX9_init_16 : decode cX9_init 16 = .ok (.new 16, 3) := by decide +kernel
theorem dX9_init_19 : decode cX9_init 19 = .ok (.dup, 1) := by decide +kernel
theorem dX9_init_20 : decode cX9_init 20 = .ok (.invokespecial 18, 3) := by decide +kernel
theorem dX9_init_23 : decode cX9_init 23 = .ok (.putfield 19, 3) := by decide +kernel
theorem dX9_init_26 : decode cX9_init 26 = .ok (.aload_n 0, 1) := by decide +kernel
theorem dX9_init_27 : decode cX9_init 27 = .ok (.new 23, 3) := by decide +kernel
theorem dX9_init_30 : decode cX9_init 30 = .ok (.dup, 1) := by decide +kernel
theorem dX9_init_31 : decode cX9_init 31 = .ok (.invokespecial 25, 3) := by decide +kernel
theorem dX9_init_34 : decode cX9_init 34 = .ok (.putfield 26, 3) := by decide +kernel
theorem dX9_init_37 : decode cX9_init 37 = .ok (.aload_n 0, 1) := by decide +kernel
theorem dX9_init_38 : decode cX9_init 38 = .ok (.new 30, 3) := by decide +kernel
theorem dX9_init_41 : decode cX9_init 41 = .ok (.dup, 1) := by decide +kernel
theorem dX9_init_42 : decode cX9_init 42 = .ok (.invokespecial 32, 3) := by decide +kernel
theorem dX9_init_45 : decode cX9_init 45 = .ok (.putfield 33, 3) := by decide +kernel
theorem dX9_init_48 : decode cX9_init 48 = .ok (.aload_n 0, 1) := by decide +kernel
theorem dX9_init_49 : decode cX9_init 49 = .ok (.new 37, 3) := by decide +kernel
theorem dX9_init_52 : decode cX9_init 52 = .ok (.dup, 1) := by decide +kernel
theorem dX9_init_53 : decode cX9_init 53 = .ok (.invokespecial 39, 3) := by decide +kernel
theorem dX9_init_56 : decode cX9_init 56 = .ok (.putfield 40, 3) := by decide +kernel
theorem dX9_init_59 : decode cX9_init 59 = .ok (.aload_n 0, 1) := by decide +kernel
theorem dX9_init_60 : decode cX9_init 60 = .ok (.new 44, 3) := by decide +kernel
theorem dX9_init_63 : decode cX9_init 63 = .ok (.dup, 1) := by decide +kernel
theorem dX9_init_64 : decode cX9_init 64 = .ok (.invokespecial 46, 3) := by decide +kernel
theorem dX9_init_67 : decode cX9_init 67 = .ok (.putfield 47, 3) := by decide +kernel
theorem dX9_init_70 : decode cX9_init 70 = .ok (.aload_n 0, 1) := by decide +kernel
theorem dX9_init_71 : decode cX9_init 71 = .ok (.new 51, 3) := by decide +kernel
theorem dX9_init_74 : decode cX9_init 74 = .ok (.dup, 1) := by decide +kernel
theorem dX9_init_75 : decode cX9_init 75 = .ok (.invokespecial 53, 3) := by decide +kernel
theorem dX9_init_78 : decode cX9_init 78 = .ok (.putfield 54, 3) := by decide +kernel
theorem dX9_init_81 : decode cX9_init 81 = .ok (.aload_n 0, 1) := by decide +kernel
theorem dX9_init_82 : decode cX9_init 82 = .ok (.new 58, 3) := by decide +kernel
theorem dX9_init_85 : decode cX9_init 85 = .ok (.dup, 1) := by decide +kernel
theorem dX9_init_86 : decode cX9_init 86 = .ok (.invokespecial 60, 3) := by decide +kernel
theorem dX9_init_89 : decode cX9_init 89 = .ok (.putfield 61, 3) := by decide +kernel
theorem dX9_init_92 : decode cX9_init 92 = .ok (.aload_n 0, 1) := by decide +kernel
theorem dX9_init_93 : decode cX9_init 93 = .ok (.new 58, 3) := by decide +kernel
theorem dX9_init_96 : decode cX9_init 96 = .ok (.dup, 1) := by decide +kernel
theorem dX9_init_97 : decode cX9_init 97 = .ok (.invokespecial 60, 3) := by decide +kernel
theorem dX9_init_100 : decode cX9_init 100 = .ok (.putfield 65, 3) := by decide +kernel
theorem dX9_init_103 : decode cX9_init 103 = .ok (.return_, 1) := by decide +kernel
theorem dX9_append_0 : decode cX9_append 0 = .ok (.aload_n 0, 1) := by decide +kernel
theorem dX9_append_1 : decode cX9_append 1 = .ok (.getfield 10, 3) := by decide +kernel
theorem dX9_append_4 : decode cX9_append 4 = .ok (.getfield 68, 3) := by decide +kernel
theorem dX9_append_7 : decode cX9_append 7 = .ok (.sipush 780, 3) := by decide +kernel
theorem dX9_append_10 : decode cX9_append 10 = .ok (.if_icmp .le 13, 3) := by decide +kernel
theorem dX9_append_13 : decode cX9_append 13 = .ok (.new 72, 3) := by decide +kernel
theorem dX9_append_16 : decode cX9_append 16 = .ok (.dup, 1) := by decide +kernel
theorem dX9_append_17 : decode cX9_append 17 = .ok (.ldc 74, 2) := by decide +kernel
theorem dX9_append_19 : decode cX9_append 19 = .ok (.invokespecial 76, 3) := by decide +kernel
theorem dX9_append_22 : decode cX9_append 22 = .ok (.athrow, 1) := by decide +kernel
theorem dX9_append_23 : decode cX9_append 23 = .ok (.aload_n 0, 1) := by decide +kernel
theorem dX9_append_24 : decode cX9_append 24 = .ok (.getfield 10, 3) := by decide +kernel
theorem dX9_append_27 : decode cX9_append 27 = .ok (.iload_n 1, 1) := by decide +kernel
theorem dX9_append_28 : decode cX9_append 28 = .ok (.invokevirtual 79, 3) := by decide +kernel
theorem dX9_append_31 : decode cX9_append 31 = .ok (.aload_n 0, 1) := by decide +kernel
theorem dX9_append_32 : decode cX9_append 32 = .ok (.getfield 10, 3) := by decide +kernel
theorem dX9_append_35 : decode cX9_append 35 = .ok (.iload_n 2, 1) := by decide +kernel
theorem dX9_append_36 : decode cX9_append 36 = .ok (.invokevirtual 79, 3) := by decide +kernel
theorem dX9_append_39 : decode cX9_append 39 = .ok (.aload_n 0, 1) := by decide +kernel
theorem dX9_append_40 : decode cX9_append 40 = .ok (.getfield 10, 3) := by decide +kernel
theorem dX9_append_43 : decode cX9_append 43 = .ok (.iload_n 3, 1) := by decide +kernel
theorem dX9_append_44 : decode cX9_append 44 = .ok (.invokevirtual 79, 3) := by decide +kernel
theorem dX9_append_47 : decode cX9_append 47 = .ok (.aload_n 0, 1) := by decide +kernel
theorem dX9_append_48 : decode cX9_append 48 = .ok (.getfield 10, 3) := by decide +kernel
theorem dX9_append_51 : decode cX9_append 51 = .ok (.iload 4, 2) := by decide +kernel
theorem dX9_append_53 : decode cX9_append 53 = .ok (.invokevirtual 79, 3) := by decide +kernel
theorem dX9_append_56 : decode cX9_append 56 = .ok (.aload_n 0, 1) := by decide +kernel
theorem dX9_append_57 : decode cX9_append 57 = .ok (.getfield 10, 3) := by decide +kernel
theorem dX9_append_60 : decode cX9_append 60 = .ok (.iload 5, 2) := by decide +kernel
theorem dX9_append_62 : decode cX9_append 62 = .ok (.invokevirtual 79, 3) := by decide +kernel
theorem dX9_append_65 : decode cX9_append 65 = .ok (.aload_n 0, 1) := by decide +kernel
theorem dX9_append_66 : decode cX9_append 66 = .ok (.getfield 10, 3) := by decide +kernel
theorem dX9_append_69 : decode cX9_append 69 = .ok (.getfield 68, 3) := by decide +kernel
theorem dX9_append_72 : decode cX9_append 72 = .ok (.ireturn, 1) := by decide +kernel
theorem dX9_truncate_0 : decode cX9_truncate 0 = .ok (.iload_n 1, 1) := by decide +kernel
theorem dX9_truncate_1 : decode cX9_truncate 1 = .ok (.ifCond .lt 14, 3) := by decide +kernel
theorem dX9_truncate_4 : decode cX9_truncate 4 = .ok (.iload_n 1, 1) := by decide +kernel
theorem dX9_truncate_5 : decode cX9_truncate 5 = .ok (.aload_n 0, 1) := by decide +kernel
theorem dX9_truncate_6 : decode cX9_truncate 6 = .ok (.getfield 10, 3) := by decide +kernel
theorem dX9_truncate_9 : decode cX9_truncate 9 = .ok (.getfield 68, 3) := by decide +kernel
theorem dX9_truncate_12 : decode cX9_truncate 12 = .ok (.if_icmp .le 13, 3) := by decide +kernel
theorem dX9_truncate_15 : decode cX9_truncate 15 = .ok (.new 83, 3) := by decide +kernel
theorem dX9_truncate_18 : decode cX9_truncate 18 = .ok (.dup, 1) := by decide +kernel
theorem dX9_truncate_19 : decode cX9_truncate 19 = .ok (.ldc 85, 2) := by decide +kernel
theorem dX9_truncate_21 : decode cX9_truncate 21 = .ok (.invokespecial 87, 3) := by decide +kernel
theorem dX9_truncate_24 : decode cX9_truncate 24 = .ok (.athrow, 1) := by decide +kernel
theorem dX9_truncate_25 : decode cX9_truncate 25 = .ok (.aload_n 0, 1) := by decide +kernel
theorem dX9_truncate_26 : decode cX9_truncate 26 = .ok (.getfield 10, 3) := by decide +kernel
theorem dX9_truncate_29 : decode cX9_truncate 29 = .ok (.iload_n 1, 1) := by decide +kernel
theorem dX9_truncate_30 : decode cX9_truncate 30 = .ok (.putfield 68, 3) := by decide +kernel
theorem dX9_truncate_33 : decode cX9_truncate 33 = .ok (.iload_n 1, 1) := by decide +kernel
theorem dX9_truncate_34 : decode cX9_truncate 34 = .ok (.ireturn, 1) := by decide +kernel
theorem dX9_load_0 : decode cX9_load 0 = .ok (.aload_n 0, 1) := by decide +kernel
theorem dX9_load_1 : decode cX9_load 1 = .ok (.getfield 10, 3) := by decide +kernel
theorem dX9_load_4 : decode cX9_load 4 = .ok (.aload_n 0, 1) := by decide +kernel
theorem dX9_load_5 : decode cX9_load 5 = .ok (.getfield 65, 3) := by decide +kernel
theorem dX9_load_8 : decode cX9_load 8 = .ok (.invokevirtual 88, 3) := by decide +kernel
theorem dX9_load_11 : decode cX9_load 11 = .ok (.istore_n 1, 1) := by decide +kernel
theorem dX9_load_12 : decode cX9_load 12 = .ok (.aload_n 0, 1) := by decide +kernel
theorem dX9_load_13 : decode cX9_load 13 = .ok (.getfield 10, 3) := by decide +kernel
theorem dX9_load_16 : decode cX9_load 16 = .ok (.iconst 0, 1) := by decide +kernel
theorem dX9_load_17 : decode cX9_load 17 = .ok (.putfield 68, 3) := by decide +kernel
theorem dX9_load_20 : decode cX9_load 20 = .ok (.iload_n 1, 1) := by decide +kernel
theorem dX9_load_21 : decode cX9_load 21 = .ok (.ifCond .ne 13, 3) := by decide +kernel
theorem dX9_load_24 : decode cX9_load 24 = .ok (.new 92, 3) := by decide +kernel
theorem dX9_load_27 : decode cX9_load 27 = .ok (.dup, 1) := by decide +kernel
theorem dX9_load_28 : decode cX9_load 28 = .ok (.ldc 94, 2) := by decide +kernel
theorem dX9_load_30 : decode cX9_load 30 = .ok (.invokespecial 96, 3) := by decide +kernel
theorem dX9_load_33 : decode cX9_load 33 = .ok (.athrow, 1) := by decide +kernel
theorem dX9_load_34 : decode cX9_load 34 = .ok (.aload_n 0, 1) := by decide +kernel
theorem dX9_load_35 : decode cX9_load 35 = .ok (.getfield 65, 3) := by decide +kernel
theorem dX9_load_38 : decode cX9_load 38 = .ok (.astore_n 2, 1) := by decide +kernel
theorem dX9_load_39 : decode cX9_load 39 = .ok (.aload_n 0, 1) := by decide +kernel
theorem dX9_load_40 : decode cX9_load 40 = .ok (.aload_n 0, 1) := by decide +kernel
theorem dX9_load_41 : decode cX9_load 41 = .ok (.getfield 61, 3) := by decide +kernel
theorem dX9_load_44 : decode cX9_load 44 = .ok (.putfield 65, 3) := by decide +kernel
theorem dX9_load_47 : decode cX9_load 47 = .ok (.aload_n 0, 1) := by decide +kernel
theorem dX9_load_48 : decode cX9_load 48 = .ok (.aload_n 2, 1) := by decide +kernel
theorem dX9_load_49 : decode cX9_load 49 = .ok (.putfield 61, 3) := by decide +kernel
theorem dX9_load_52 : decode cX9_load 52 = .ok (.aload_n 0, 1) := by decide +kernel
theorem dX9_load_53 : decode cX9_load 53 = .ok (.getfield 19, 3) := by decide +kernel
theorem dX9_load_56 : decode cX9_load 56 = .ok (.aload_n 0, 1) := by decide +kernel
theorem dX9_load_57 : decode cX9_load 57 = .ok (.getfield 61, 3) := by decide +kernel
theorem dX9_load_60 : decode cX9_load 60 = .ok (.invokevirtual 97, 3) := by decide +kernel
theorem dX9_load_63 : decode cX9_load 63 = .ok (.aload_n 0, 1) := by decide +kernel
theorem dX9_load_64 : decode cX9_load 64 = .ok (.getfield 26, 3) := by decide +kernel
theorem dX9_load_67 : decode cX9_load 67 = .ok (.invokevirtual 101, 3) := by decide +kernel
theorem dX9_load_70 : decode cX9_load 70 = .ok (.aload_n 0, 1) := by decide +kernel
theorem dX9_load_71 : decode cX9_load 71 = .ok (.getfield 61, 3) := by decide +kernel
theorem dX9_load_74 : decode cX9_load 74 = .ok (.getfield 104, 3) := by decide +kernel
theorem dX9_load_77 : decode cX9_load 77 = .ok (.ireturn, 1) := by decide +kernel
theorem dX9_errorCode_0 : decode cX9_errorCode 0 = .ok (.aload_n 0, 1) := by decide +kernel
theorem dX9_errorCode_1 : decode cX9_errorCode 1 = .ok (.getfield 10, 3) := by decide +kernel
theorem dX9_errorCode_4 : decode cX9_errorCode 4 = .ok (.getfield 107, 3) := by decide +kernel
theorem dX9_errorCode_7 : decode cX9_errorCode 7 = .ok (.ireturn, 1) := by decide +kernel
theorem dX9_errorPosition_0 : decode cX9_errorPosition 0 = .ok (.aload_n 0, 1) := by decide +kernel
theorem dX9_errorPosition_1 : decode cX9_errorPosition 1 = .ok (.getfield 10, 3) := by decide +kernel
theorem dX9_errorPosition_4 : decode cX9_errorPosition 4 = .ok (.getfield 110, 3) := by decide +kernel
theorem dX9_errorPosition_7 : decode cX9_errorPosition 7 = .ok (.ireturn, 1) := by decide +kernel
theorem dX9_count_0 : decode cX9_count 0 = .ok (.iload_n 1, 1) := by decide +kernel
theorem dX9_count_1 : decode cX9_count 1 = .ok (.tableswitch 102 0 6 #[43, 51, 59, 67, 75, 83, 91], 43) := by decide +kernel
theorem dX9_count_44 : decode cX9_count 44 = .ok (.aload_n 0, 1) := by decide +kernel
theorem dX9_count_45 : decode cX9_count 45 = .ok (.getfield 61, 3) := by decide +kernel
theorem dX9_count_48 : decode cX9_count 48 = .ok (.getfield 113, 3) := by decide +kernel
theorem dX9_count_51 : decode cX9_count 51 = .ok (.ireturn, 1) := by decide +kernel
theorem dX9_count_52 : decode cX9_count 52 = .ok (.aload_n 0, 1) := by decide +kernel
theorem dX9_count_53 : decode cX9_count 53 = .ok (.getfield 61, 3) := by decide +kernel
theorem dX9_count_56 : decode cX9_count 56 = .ok (.getfield 116, 3) := by decide +kernel
theorem dX9_count_59 : decode cX9_count 59 = .ok (.ireturn, 1) := by decide +kernel
theorem dX9_count_60 : decode cX9_count 60 = .ok (.aload_n 0, 1) := by decide +kernel
theorem dX9_count_61 : decode cX9_count 61 = .ok (.getfield 61, 3) := by decide +kernel
theorem dX9_count_64 : decode cX9_count 64 = .ok (.getfield 104, 3) := by decide +kernel
theorem dX9_count_67 : decode cX9_count 67 = .ok (.ireturn, 1) := by decide +kernel
theorem dX9_count_68 : decode cX9_count 68 = .ok (.aload_n 0, 1) := by decide +kernel
theorem dX9_count_69 : decode cX9_count 69 = .ok (.getfield 19, 3) := by decide +kernel
theorem dX9_count_72 : decode cX9_count 72 = .ok (.invokevirtual 119, 3) := by decide +kernel
theorem dX9_count_75 : decode cX9_count 75 = .ok (.ireturn, 1) := by decide +kernel
theorem dX9_count_76 : decode cX9_count 76 = .ok (.aload_n 0, 1) := by decide +kernel
theorem dX9_count_77 : decode cX9_count 77 = .ok (.getfield 19, 3) := by decide +kernel
theorem dX9_count_80 : decode cX9_count 80 = .ok (.invokevirtual 123, 3) := by decide +kernel
theorem dX9_count_83 : decode cX9_count 83 = .ok (.ireturn, 1) := by decide +kernel
theorem dX9_count_84 : decode cX9_count 84 = .ok (.aload_n 0, 1) := by decide +kernel
theorem dX9_count_85 : decode cX9_count 85 = .ok (.getfield 19, 3) := by decide +kernel
theorem dX9_count_88 : decode cX9_count 88 = .ok (.invokevirtual 126, 3) := by decide +kernel
theorem dX9_count_91 : decode cX9_count 91 = .ok (.ireturn, 1) := by decide +kernel
theorem dX9_count_92 : decode cX9_count 92 = .ok (.aload_n 0, 1) := by decide +kernel
theorem dX9_count_93 : decode cX9_count 93 = .ok (.getfield 19, 3) := by decide +kernel
theorem dX9_count_96 : decode cX9_count 96 = .ok (.getfield 129, 3) := by decide +kernel
theorem dX9_count_99 : decode cX9_count 99 = .ok (.invokestatic 132, 3) := by decide +kernel
theorem dX9_count_102 : decode cX9_count 102 = .ok (.ireturn, 1) := by decide +kernel
theorem dX9_count_103 : decode cX9_count 103 = .ok (.new 92, 3) := by decide +kernel
theorem dX9_count_106 : decode cX9_count 106 = .ok (.dup, 1) := by decide +kernel
theorem dX9_count_107 : decode cX9_count 107 = .ok (.ldc 138, 2) := by decide +kernel
theorem dX9_count_109 : decode cX9_count 109 = .ok (.invokespecial 96, 3) := by decide +kernel
theorem dX9_count_112 : decode cX9_count 112 = .ok (.athrow, 1) := by decide +kernel
theorem dX9_isConflict_0 : decode cX9_isConflict 0 = .ok (.aload_n 0, 1) := by decide +kernel
theorem dX9_isConflict_1 : decode cX9_isConflict 1 = .ok (.iload_n 1, 1) := by decide +kernel
theorem dX9_isConflict_2 : decode cX9_isConflict 2 = .ok (.iload_n 2, 1) := by decide +kernel
theorem dX9_isConflict_3 : decode cX9_isConflict 3 = .ok (.invokevirtual 140, 3) := by decide +kernel
theorem dX9_isConflict_6 : decode cX9_isConflict 6 = .ok (.aload_n 0, 1) := by decide +kernel
theorem dX9_isConflict_7 : decode cX9_isConflict 7 = .ok (.getfield 61, 3) := by decide +kernel
theorem dX9_isConflict_10 : decode cX9_isConflict 10 = .ok (.aload_n 0, 1) := by decide +kernel
theorem dX9_isConflict_11 : decode cX9_isConflict 11 = .ok (.getfield 19, 3) := by decide +kernel
theorem dX9_isConflict_14 : decode cX9_isConflict 14 = .ok (.iload_n 1, 1) := by decide +kernel
theorem dX9_isConflict_15 : decode cX9_isConflict 15 = .ok (.iload_n 2, 1) := by decide +kernel
theorem dX9_isConflict_16 : decode cX9_isConflict 16 = .ok (.invokestatic 144, 3) := by decide +kernel
theorem dX9_isConflict_19 : decode cX9_isConflict 19 = .ok (.ireturn, 1) := by decide +kernel
theorem dX9_match_0 : decode cX9_match 0 = .ok (.aload_n 0, 1) := by decide +kernel
theorem dX9_match_1 : decode cX9_match 1 = .ok (.iload_n 1, 1) := by decide +kernel
theorem dX9_match_2 : decode cX9_match 2 = .ok (.iload_n 2, 1) := by decide +kernel
theorem dX9_match_3 : decode cX9_match 3 = .ok (.invokevirtual 140, 3) := by decide +kernel
theorem dX9_match_6 : decode cX9_match 6 = .ok (.aload_n 0, 1) := by decide +kernel
theorem dX9_match_7 : decode cX9_match 7 = .ok (.getfield 61, 3) := by decide +kernel
theorem dX9_match_10 : decode cX9_match 10 = .ok (.iload_n 1, 1) := by decide +kernel
theorem dX9_match_11 : decode cX9_match 11 = .ok (.iload_n 2, 1) := by decide +kernel
theorem dX9_match_12 : decode cX9_match 12 = .ok (.invokevirtual 148, 3) := by decide +kernel
theorem dX9_match_15 : decode cX9_match 15 = .ok (.ireturn, 1) := by decide +kernel
theorem dX9_declare_0 : decode cX9_declare 0 = .ok (.aload_n 0, 1) := by decide +kernel
theorem dX9_declare_1 : decode cX9_declare 1 = .ok (.iload_n 1, 1) := by decide +kernel
theorem dX9_declare_2 : decode cX9_declare 2 = .ok (.iload_n 2, 1) := by decide +kernel
theorem dX9_declare_3 : decode cX9_declare 3 = .ok (.invokevirtual 140, 3) := by decide +kernel
theorem dX9_declare_6 : decode cX9_declare 6 = .ok (.aload_n 0, 1) := by decide +kernel
theorem dX9_declare_7 : decode cX9_declare 7 = .ok (.getfield 19, 3) := by decide +kernel
theorem dX9_declare_10 : decode cX9_declare 10 = .ok (.iload_n 1, 1) := by decide +kernel
theorem dX9_declare_11 : decode cX9_declare 11 = .ok (.iload_n 2, 1) := by decide +kernel
theorem dX9_declare_12 : decode cX9_declare 12 = .ok (.invokevirtual 152, 3) := by decide +kernel
theorem dX9_declare_15 : decode cX9_declare 15 = .ok (.ifCond .eq 13, 3) := by decide +kernel
theorem dX9_declare_18 : decode cX9_declare 18 = .ok (.new 72, 3) := by decide +kernel
theorem dX9_declare_21 : decode cX9_declare 21 = .ok (.dup, 1) := by decide +kernel
