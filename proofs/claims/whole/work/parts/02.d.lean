theorem dX9_declare_22 : decode cX9_declare 22 = .ok (.ldc 156, 2) := by decide +kernel
theorem dX9_declare_24 : decode cX9_declare 24 = .ok (.invokespecial 76, 3) := by decide +kernel
theorem dX9_declare_27 : decode cX9_declare 27 = .ok (.athrow, 1) := by decide +kernel
theorem dX9_declare_28 : decode cX9_declare 28 = .ok (.aload_n 0, 1) := by decide +kernel
theorem dX9_declare_29 : decode cX9_declare 29 = .ok (.getfield 26, 3) := by decide +kernel
theorem dX9_declare_32 : decode cX9_declare 32 = .ok (.aload_n 0, 1) := by decide +kernel
theorem dX9_declare_33 : decode cX9_declare 33 = .ok (.getfield 19, 3) := by decide +kernel
theorem dX9_declare_36 : decode cX9_declare 36 = .ok (.invokevirtual 158, 3) := by decide +kernel
theorem dX9_declare_39 : decode cX9_declare 39 = .ok (.aload_n 0, 1) := by decide +kernel
theorem dX9_declare_40 : decode cX9_declare 40 = .ok (.getfield 19, 3) := by decide +kernel
theorem dX9_declare_43 : decode cX9_declare 43 = .ok (.iload_n 1, 1) := by decide +kernel
theorem dX9_declare_44 : decode cX9_declare 44 = .ok (.iload_n 2, 1) := by decide +kernel
theorem dX9_declare_45 : decode cX9_declare 45 = .ok (.invokevirtual 162, 3) := by decide +kernel
theorem dX9_declare_48 : decode cX9_declare 48 = .ok (.ifCond .ne 7, 3) := by decide +kernel
theorem dX9_declare_51 : decode cX9_declare 51 = .ok (.iconst 1, 1) := by decide +kernel
theorem dX9_declare_52 : decode cX9_declare 52 = .ok (.goto 4, 3) := by decide +kernel
theorem dX9_declare_55 : decode cX9_declare 55 = .ok (.iconst 0, 1) := by decide +kernel
theorem dX9_declare_56 : decode cX9_declare 56 = .ok (.istore_n 3, 1) := by decide +kernel
theorem dX9_declare_57 : decode cX9_declare 57 = .ok (.aload_n 0, 1) := by decide +kernel
theorem dX9_declare_58 : decode cX9_declare 58 = .ok (.getfield 19, 3) := by decide +kernel
theorem dX9_declare_61 : decode cX9_declare 61 = .ok (.iload_n 1, 1) := by decide +kernel
theorem dX9_declare_62 : decode cX9_declare 62 = .ok (.iload_n 2, 1) := by decide +kernel
theorem dX9_declare_63 : decode cX9_declare 63 = .ok (.invokevirtual 165, 3) := by decide +kernel
theorem dX9_declare_66 : decode cX9_declare 66 = .ok (.iload_n 3, 1) := by decide +kernel
theorem dX9_declare_67 : decode cX9_declare 67 = .ok (.ireturn, 1) := by decide +kernel
theorem dX9_assign_0 : decode cX9_assign 0 = .ok (.aload_n 0, 1) := by decide +kernel
theorem dX9_assign_1 : decode cX9_assign 1 = .ok (.iload_n 1, 1) := by decide +kernel
theorem dX9_assign_2 : decode cX9_assign 2 = .ok (.iload_n 2, 1) := by decide +kernel
theorem dX9_assign_3 : decode cX9_assign 3 = .ok (.invokevirtual 140, 3) := by decide +kernel
theorem dX9_assign_6 : decode cX9_assign 6 = .ok (.aload_n 0, 1) := by decide +kernel
theorem dX9_assign_7 : decode cX9_assign 7 = .ok (.getfield 61, 3) := by decide +kernel
theorem dX9_assign_10 : decode cX9_assign 10 = .ok (.aload_n 0, 1) := by decide +kernel
theorem dX9_assign_11 : decode cX9_assign 11 = .ok (.getfield 19, 3) := by decide +kernel
theorem dX9_assign_14 : decode cX9_assign 14 = .ok (.iload_n 1, 1) := by decide +kernel
theorem dX9_assign_15 : decode cX9_assign 15 = .ok (.iload_n 2, 1) := by decide +kernel
theorem dX9_assign_16 : decode cX9_assign 16 = .ok (.invokestatic 168, 3) := by decide +kernel
theorem dX9_assign_19 : decode cX9_assign 19 = .ok (.ifCond .ne 13, 3) := by decide +kernel
theorem dX9_assign_22 : decode cX9_assign 22 = .ok (.new 92, 3) := by decide +kernel
theorem dX9_assign_25 : decode cX9_assign 25 = .ok (.dup, 1) := by decide +kernel
theorem dX9_assign_26 : decode cX9_assign 26 = .ok (.ldc 171, 2) := by decide +kernel
theorem dX9_assign_28 : decode cX9_assign 28 = .ok (.invokespecial 96, 3) := by decide +kernel
theorem dX9_assign_31 : decode cX9_assign 31 = .ok (.athrow, 1) := by decide +kernel
theorem dX9_assign_32 : decode cX9_assign 32 = .ok (.aload_n 0, 1) := by decide +kernel
theorem dX9_assign_33 : decode cX9_assign 33 = .ok (.iload_n 1, 1) := by decide +kernel
theorem dX9_assign_34 : decode cX9_assign 34 = .ok (.iload_n 2, 1) := by decide +kernel
theorem dX9_assign_35 : decode cX9_assign 35 = .ok (.invokevirtual 173, 3) := by decide +kernel
theorem dX9_assign_38 : decode cX9_assign 38 = .ok (.ifCond .eq 21, 3) := by decide +kernel
theorem dX9_assign_41 : decode cX9_assign 41 = .ok (.aload_n 0, 1) := by decide +kernel
theorem dX9_assign_42 : decode cX9_assign 42 = .ok (.getfield 19, 3) := by decide +kernel
theorem dX9_assign_45 : decode cX9_assign 45 = .ok (.iload_n 2, 1) := by decide +kernel
theorem dX9_assign_46 : decode cX9_assign 46 = .ok (.invokevirtual 176, 3) := by decide +kernel
theorem dX9_assign_49 : decode cX9_assign 49 = .ok (.aload_n 0, 1) := by decide +kernel
theorem dX9_assign_50 : decode cX9_assign 50 = .ok (.getfield 61, 3) := by decide +kernel
theorem dX9_assign_53 : decode cX9_assign 53 = .ok (.getfield 179, 3) := by decide +kernel
theorem dX9_assign_56 : decode cX9_assign 56 = .ok (.if_icmp .lt 13, 3) := by decide +kernel
theorem dX9_assign_59 : decode cX9_assign 59 = .ok (.new 72, 3) := by decide +kernel
theorem dX9_assign_62 : decode cX9_assign 62 = .ok (.dup, 1) := by decide +kernel
theorem dX9_assign_63 : decode cX9_assign 63 = .ok (.ldc 182, 2) := by decide +kernel
theorem dX9_assign_65 : decode cX9_assign 65 = .ok (.invokespecial 76, 3) := by decide +kernel
theorem dX9_assign_68 : decode cX9_assign 68 = .ok (.athrow, 1) := by decide +kernel
theorem dX9_assign_69 : decode cX9_assign 69 = .ok (.aload_n 0, 1) := by decide +kernel
theorem dX9_assign_70 : decode cX9_assign 70 = .ok (.getfield 26, 3) := by decide +kernel
theorem dX9_assign_73 : decode cX9_assign 73 = .ok (.aload_n 0, 1) := by decide +kernel
theorem dX9_assign_74 : decode cX9_assign 74 = .ok (.getfield 19, 3) := by decide +kernel
theorem dX9_assign_77 : decode cX9_assign 77 = .ok (.invokevirtual 158, 3) := by decide +kernel
theorem dX9_assign_80 : decode cX9_assign 80 = .ok (.aload_n 0, 1) := by decide +kernel
theorem dX9_assign_81 : decode cX9_assign 81 = .ok (.getfield 19, 3) := by decide +kernel
theorem dX9_assign_84 : decode cX9_assign 84 = .ok (.iload_n 1, 1) := by decide +kernel
theorem dX9_assign_85 : decode cX9_assign 85 = .ok (.iload_n 2, 1) := by decide +kernel
theorem dX9_assign_86 : decode cX9_assign 86 = .ok (.iconst (-1), 1) := by decide +kernel
theorem dX9_assign_87 : decode cX9_assign 87 = .ok (.invokevirtual 184, 3) := by decide +kernel
theorem dX9_assign_90 : decode cX9_assign 90 = .ok (.aload_n 0, 1) := by decide +kernel
theorem dX9_assign_91 : decode cX9_assign 91 = .ok (.getfield 19, 3) := by decide +kernel
theorem dX9_assign_94 : decode cX9_assign 94 = .ok (.iload_n 2, 1) := by decide +kernel
theorem dX9_assign_95 : decode cX9_assign 95 = .ok (.invokevirtual 176, 3) := by decide +kernel
theorem dX9_assign_98 : decode cX9_assign 98 = .ok (.ireturn, 1) := by decide +kernel
theorem dX9_unassign_0 : decode cX9_unassign 0 = .ok (.aload_n 0, 1) := by decide +kernel
theorem dX9_unassign_1 : decode cX9_unassign 1 = .ok (.iload_n 1, 1) := by decide +kernel
theorem dX9_unassign_2 : decode cX9_unassign 2 = .ok (.iload_n 2, 1) := by decide +kernel
theorem dX9_unassign_3 : decode cX9_unassign 3 = .ok (.invokevirtual 140, 3) := by decide +kernel
theorem dX9_unassign_6 : decode cX9_unassign 6 = .ok (.aload_n 0, 1) := by decide +kernel
theorem dX9_unassign_7 : decode cX9_unassign 7 = .ok (.iload_n 1, 1) := by decide +kernel
theorem dX9_unassign_8 : decode cX9_unassign 8 = .ok (.iload_n 2, 1) := by decide +kernel
theorem dX9_unassign_9 : decode cX9_unassign 9 = .ok (.invokevirtual 187, 3) := by decide +kernel
theorem dX9_unassign_12 : decode cX9_unassign 12 = .ok (.aload_n 0, 1) := by decide +kernel
theorem dX9_unassign_13 : decode cX9_unassign 13 = .ok (.getfield 26, 3) := by decide +kernel
theorem dX9_unassign_16 : decode cX9_unassign 16 = .ok (.aload_n 0, 1) := by decide +kernel
theorem dX9_unassign_17 : decode cX9_unassign 17 = .ok (.getfield 19, 3) := by decide +kernel
theorem dX9_unassign_20 : decode cX9_unassign 20 = .ok (.invokevirtual 158, 3) := by decide +kernel
theorem dX9_unassign_23 : decode cX9_unassign 23 = .ok (.aload_n 0, 1) := by decide +kernel
theorem dX9_unassign_24 : decode cX9_unassign 24 = .ok (.getfield 19, 3) := by decide +kernel
theorem dX9_unassign_27 : decode cX9_unassign 27 = .ok (.iload_n 1, 1) := by decide +kernel
theorem dX9_unassign_28 : decode cX9_unassign 28 = .ok (.iload_n 2, 1) := by decide +kernel
theorem dX9_unassign_29 : decode cX9_unassign 29 = .ok (.invokevirtual 190, 3) := by decide +kernel
theorem dX9_unassign_32 : decode cX9_unassign 32 = .ok (.istore_n 3, 1) := by decide +kernel
theorem dX9_unassign_33 : decode cX9_unassign 33 = .ok (.aload_n 0, 1) := by decide +kernel
theorem dX9_unassign_34 : decode cX9_unassign 34 = .ok (.getfield 19, 3) := by decide +kernel
theorem dX9_unassign_37 : decode cX9_unassign 37 = .ok (.iload_n 1, 1) := by decide +kernel
theorem dX9_unassign_38 : decode cX9_unassign 38 = .ok (.iload_n 2, 1) := by decide +kernel
theorem dX9_unassign_39 : decode cX9_unassign 39 = .ok (.iconst 0, 1) := by decide +kernel
theorem dX9_unassign_40 : decode cX9_unassign 40 = .ok (.invokevirtual 184, 3) := by decide +kernel
theorem dX9_unassign_43 : decode cX9_unassign 43 = .ok (.iload_n 3, 1) := by decide +kernel
theorem dX9_unassign_44 : decode cX9_unassign 44 = .ok (.ireturn, 1) := by decide +kernel
theorem dX9_assignAll_0 : decode cX9_assignAll 0 = .ok (.aload_n 0, 1) := by decide +kernel
theorem dX9_assignAll_1 : decode cX9_assignAll 1 = .ok (.iload_n 1, 1) := by decide +kernel
theorem dX9_assignAll_2 : decode cX9_assignAll 2 = .ok (.invokevirtual 193, 3) := by decide +kernel
theorem dX9_assignAll_5 : decode cX9_assignAll 5 = .ok (.aload_n 0, 1) := by decide +kernel
theorem dX9_assignAll_6 : decode cX9_assignAll 6 = .ok (.getfield 26, 3) := by decide +kernel
theorem dX9_assignAll_9 : decode cX9_assignAll 9 = .ok (.aload_n 0, 1) := by decide +kernel
theorem dX9_assignAll_10 : decode cX9_assignAll 10 = .ok (.getfield 19, 3) := by decide +kernel
theorem dX9_assignAll_13 : decode cX9_assignAll 13 = .ok (.invokevirtual 158, 3) := by decide +kernel
theorem dX9_assignAll_16 : decode cX9_assignAll 16 = .ok (.iconst 0, 1) := by decide +kernel
theorem dX9_assignAll_17 : decode cX9_assignAll 17 = .ok (.istore_n 2, 1) := by decide +kernel
theorem dX9_assignAll_18 : decode cX9_assignAll 18 = .ok (.iconst 1, 1) := by decide +kernel
theorem dX9_assignAll_19 : decode cX9_assignAll 19 = .ok (.istore_n 3, 1) := by decide +kernel
theorem dX9_assignAll_20 : decode cX9_assignAll 20 = .ok (.iload_n 3, 1) := by decide +kernel
theorem dX9_assignAll_21 : decode cX9_assignAll 21 = .ok (.aload_n 0, 1) := by decide +kernel
theorem dX9_assignAll_22 : decode cX9_assignAll 22 = .ok (.getfield 61, 3) := by decide +kernel
theorem dX9_assignAll_25 : decode cX9_assignAll 25 = .ok (.getfield 179, 3) := by decide +kernel
theorem dX9_assignAll_28 : decode cX9_assignAll 28 = .ok (.if_icmp .gt 69, 3) := by decide +kernel
theorem dX9_assignAll_31 : decode cX9_assignAll 31 = .ok (.iconst 0, 1) := by decide +kernel
theorem dX9_assignAll_32 : decode cX9_assignAll 32 = .ok (.istore 4, 2) := by decide +kernel
theorem dX9_assignAll_34 : decode cX9_assignAll 34 = .ok (.iload 4, 2) := by decide +kernel
theorem dX9_assignAll_36 : decode cX9_assignAll 36 = .ok (.aload_n 0, 1) := by decide +kernel
theorem dX9_assignAll_37 : decode cX9_assignAll 37 = .ok (.getfield 61, 3) := by decide +kernel
theorem dX9_assignAll_40 : decode cX9_assignAll 40 = .ok (.getfield 104, 3) := by decide +kernel
theorem dX9_assignAll_43 : decode cX9_assignAll 43 = .ok (.if_icmp .ge 48, 3) := by decide +kernel
theorem dX9_assignAll_46 : decode cX9_assignAll 46 = .ok (.aload_n 0, 1) := by decide +kernel
theorem dX9_assignAll_47 : decode cX9_assignAll 47 = .ok (.getfield 61, 3) := by decide +kernel
theorem dX9_assignAll_50 : decode cX9_assignAll 50 = .ok (.getfield 196, 3) := by decide +kernel
theorem dX9_assignAll_53 : decode cX9_assignAll 53 = .ok (.iload 4, 2) := by decide +kernel
theorem dX9_assignAll_55 : decode cX9_assignAll 55 = .ok (.iaload, 1) := by decide +kernel
theorem dX9_assignAll_56 : decode cX9_assignAll 56 = .ok (.iload_n 1, 1) := by decide +kernel
theorem dX9_assignAll_57 : decode cX9_assignAll 57 = .ok (.if_icmp .ne 28, 3) := by decide +kernel
theorem dX9_assignAll_60 : decode cX9_assignAll 60 = .ok (.aload_n 0, 1) := by decide +kernel
theorem dX9_assignAll_61 : decode cX9_assignAll 61 = .ok (.getfield 19, 3) := by decide +kernel
theorem dX9_assignAll_64 : decode cX9_assignAll 64 = .ok (.iload 4, 2) := by decide +kernel
theorem dX9_assignAll_66 : decode cX9_assignAll 66 = .ok (.invokevirtual 176, 3) := by decide +kernel
theorem dX9_assignAll_69 : decode cX9_assignAll 69 = .ok (.iload_n 3, 1) := by decide +kernel
theorem dX9_assignAll_70 : decode cX9_assignAll 70 = .ok (.if_icmp .ge 15, 3) := by decide +kernel
theorem dX9_assignAll_73 : decode cX9_assignAll 73 = .ok (.aload_n 0, 1) := by decide +kernel
theorem dX9_assignAll_74 : decode cX9_assignAll 74 = .ok (.iload 4, 2) := by decide +kernel
theorem dX9_assignAll_76 : decode cX9_assignAll 76 = .ok (.invokevirtual 200, 3) := by decide +kernel
theorem dX9_assignAll_79 : decode cX9_assignAll 79 = .ok (.ifCond .eq 6, 3) := by decide +kernel
theorem dX9_assignAll_82 : decode cX9_assignAll 82 = .ok (.iinc 2 1, 3) := by decide +kernel
theorem dX9_assignAll_85 : decode cX9_assignAll 85 = .ok (.iinc 4 1, 3) := by decide +kernel
theorem dX9_assignAll_88 : decode cX9_assignAll 88 = .ok (.goto (-54), 3) := by decide +kernel
theorem dX9_assignAll_91 : decode cX9_assignAll 91 = .ok (.iinc 3 1, 3) := by decide +kernel
theorem dX9_assignAll_94 : decode cX9_assignAll 94 = .ok (.goto (-74), 3) := by decide +kernel
theorem dX9_assignAll_97 : decode cX9_assignAll 97 = .ok (.iload_n 2, 1) := by decide +kernel
theorem dX9_assignAll_98 : decode cX9_assignAll 98 = .ok (.ireturn, 1) := by decide +kernel
theorem dX9_reviewerOf_0 : decode cX9_reviewerOf 0 = .ok (.aload_n 0, 1) := by decide +kernel
theorem dX9_reviewerOf_1 : decode cX9_reviewerOf 1 = .ok (.iload_n 1, 1) := by decide +kernel
theorem dX9_reviewerOf_2 : decode cX9_reviewerOf 2 = .ok (.invokevirtual 204, 3) := by decide +kernel
theorem dX9_reviewerOf_5 : decode cX9_reviewerOf 5 = .ok (.iconst 0, 1) := by decide +kernel
theorem dX9_reviewerOf_6 : decode cX9_reviewerOf 6 = .ok (.istore_n 3, 1) := by decide +kernel
theorem dX9_reviewerOf_7 : decode cX9_reviewerOf 7 = .ok (.iconst 0, 1) := by decide +kernel
theorem dX9_reviewerOf_8 : decode cX9_reviewerOf 8 = .ok (.istore 4, 2) := by decide +kernel
theorem dX9_reviewerOf_10 : decode cX9_reviewerOf 10 = .ok (.iload 4, 2) := by decide +kernel
theorem dX9_reviewerOf_12 : decode cX9_reviewerOf 12 = .ok (.aload_n 0, 1) := by decide +kernel
theorem dX9_reviewerOf_13 : decode cX9_reviewerOf 13 = .ok (.getfield 61, 3) := by decide +kernel
theorem dX9_reviewerOf_16 : decode cX9_reviewerOf 16 = .ok (.getfield 116, 3) := by decide +kernel
theorem dX9_reviewerOf_19 : decode cX9_reviewerOf 19 = .ok (.if_icmp .ge 33, 3) := by decide +kernel
theorem dX9_reviewerOf_22 : decode cX9_reviewerOf 22 = .ok (.aload_n 0, 1) := by decide +kernel
theorem dX9_reviewerOf_23 : decode cX9_reviewerOf 23 = .ok (.getfield 19, 3) := by decide +kernel
theorem dX9_reviewerOf_26 : decode cX9_reviewerOf 26 = .ok (.iload 4, 2) := by decide +kernel
theorem dX9_reviewerOf_28 : decode cX9_reviewerOf 28 = .ok (.iload_n 1, 1) := by decide +kernel
theorem dX9_reviewerOf_29 : decode cX9_reviewerOf 29 = .ok (.invokevirtual 152, 3) := by decide +kernel
theorem dX9_reviewerOf_32 : decode cX9_reviewerOf 32 = .ok (.ifCond .eq 14, 3) := by decide +kernel
theorem dX9_reviewerOf_35 : decode cX9_reviewerOf 35 = .ok (.iload_n 3, 1) := by decide +kernel
theorem dX9_reviewerOf_36 : decode cX9_reviewerOf 36 = .ok (.iload_n 2, 1) := by decide +kernel
theorem dX9_reviewerOf_37 : decode cX9_reviewerOf 37 = .ok (.if_icmp .ne 6, 3) := by decide +kernel
theorem dX9_reviewerOf_40 : decode cX9_reviewerOf 40 = .ok (.iload 4, 2) := by decide +kernel
theorem dX9_reviewerOf_42 : decode cX9_reviewerOf 42 = .ok (.ireturn, 1) := by decide +kernel
theorem dX9_reviewerOf_43 : decode cX9_reviewerOf 43 = .ok (.iinc 3 1, 3) := by decide +kernel
theorem dX9_reviewerOf_46 : decode cX9_reviewerOf 46 = .ok (.iinc 4 1, 3) := by decide +kernel
theorem dX9_reviewerOf_49 : decode cX9_reviewerOf 49 = .ok (.goto (-39), 3) := by decide +kernel
theorem dX9_reviewerOf_52 : decode cX9_reviewerOf 52 = .ok (.new 83, 3) := by decide +kernel
theorem dX9_reviewerOf_55 : decode cX9_reviewerOf 55 = .ok (.dup, 1) := by decide +kernel
theorem dX9_reviewerOf_56 : decode cX9_reviewerOf 56 = .ok (.ldc 207, 2) := by decide +kernel
theorem dX9_reviewerOf_58 : decode cX9_reviewerOf 58 = .ok (.invokespecial 87, 3) := by decide +kernel
theorem dX9_reviewerOf_61 : decode cX9_reviewerOf 61 = .ok (.athrow, 1) := by decide +kernel
theorem dX9_loadOf_0 : decode cX9_loadOf 0 = .ok (.aload_n 0, 1) := by decide +kernel
theorem dX9_loadOf_1 : decode cX9_loadOf 1 = .ok (.iload_n 1, 1) := by decide +kernel
theorem dX9_loadOf_2 : decode cX9_loadOf 2 = .ok (.invokevirtual 209, 3) := by decide +kernel
theorem dX9_loadOf_5 : decode cX9_loadOf 5 = .ok (.aload_n 0, 1) := by decide +kernel
theorem dX9_loadOf_6 : decode cX9_loadOf 6 = .ok (.getfield 19, 3) := by decide +kernel
theorem dX9_loadOf_9 : decode cX9_loadOf 9 = .ok (.iload_n 1, 1) := by decide +kernel
theorem dX9_loadOf_10 : decode cX9_loadOf 10 = .ok (.invokevirtual 212, 3) := by decide +kernel
theorem dX9_loadOf_13 : decode cX9_loadOf 13 = .ok (.ireturn, 1) := by decide +kernel
theorem dX9_matchSum_0 : decode cX9_matchSum 0 = .ok (.aload_n 0, 1) := by decide +kernel
theorem dX9_matchSum_1 : decode cX9_matchSum 1 = .ok (.iload_n 1, 1) := by decide +kernel
theorem dX9_matchSum_2 : decode cX9_matchSum 2 = .ok (.invokevirtual 193, 3) := by decide +kernel
theorem dX9_matchSum_5 : decode cX9_matchSum 5 = .ok (.iconst 0, 1) := by decide +kernel
theorem dX9_matchSum_6 : decode cX9_matchSum 6 = .ok (.istore_n 2, 1) := by decide +kernel
theorem dX9_matchSum_7 : decode cX9_matchSum 7 = .ok (.iconst 0, 1) := by decide +kernel
theorem dX9_matchSum_8 : decode cX9_matchSum 8 = .ok (.istore_n 3, 1) := by decide +kernel
theorem dX9_matchSum_9 : decode cX9_matchSum 9 = .ok (.iload_n 3, 1) := by decide +kernel
theorem dX9_matchSum_10 : decode cX9_matchSum 10 = .ok (.aload_n 0, 1) := by decide +kernel
theorem dX9_matchSum_11 : decode cX9_matchSum 11 = .ok (.getfield 61, 3) := by decide +kernel
theorem dX9_matchSum_14 : decode cX9_matchSum 14 = .ok (.getfield 104, 3) := by decide +kernel
theorem dX9_matchSum_17 : decode cX9_matchSum 17 = .ok (.if_icmp .ge 69, 3) := by decide +kernel
theorem dX9_matchSum_20 : decode cX9_matchSum 20 = .ok (.iconst 0, 1) := by decide +kernel
theorem dX9_matchSum_21 : decode cX9_matchSum 21 = .ok (.istore 4, 2) := by decide +kernel
theorem dX9_matchSum_23 : decode cX9_matchSum 23 = .ok (.iload 4, 2) := by decide +kernel
theorem dX9_matchSum_25 : decode cX9_matchSum 25 = .ok (.aload_n 0, 1) := by decide +kernel
theorem dX9_matchSum_26 : decode cX9_matchSum 26 = .ok (.getfield 61, 3) := by decide +kernel
theorem dX9_matchSum_29 : decode cX9_matchSum 29 = .ok (.getfield 116, 3) := by decide +kernel
theorem dX9_matchSum_32 : decode cX9_matchSum 32 = .ok (.if_icmp .ge 48, 3) := by decide +kernel
theorem dX9_matchSum_35 : decode cX9_matchSum 35 = .ok (.aload_n 0, 1) := by decide +kernel
theorem dX9_matchSum_36 : decode cX9_matchSum 36 = .ok (.getfield 61, 3) := by decide +kernel
theorem dX9_matchSum_39 : decode cX9_matchSum 39 = .ok (.getfield 196, 3) := by decide +kernel
theorem dX9_matchSum_42 : decode cX9_matchSum 42 = .ok (.iload_n 3, 1) := by decide +kernel
theorem dX9_matchSum_43 : decode cX9_matchSum 43 = .ok (.iaload, 1) := by decide +kernel
theorem dX9_matchSum_44 : decode cX9_matchSum 44 = .ok (.iload_n 1, 1) := by decide +kernel
theorem dX9_matchSum_45 : decode cX9_matchSum 45 = .ok (.if_icmp .ne 29, 3) := by decide +kernel
theorem dX9_matchSum_48 : decode cX9_matchSum 48 = .ok (.aload_n 0, 1) := by decide +kernel
theorem dX9_matchSum_49 : decode cX9_matchSum 49 = .ok (.getfield 19, 3) := by decide +kernel
theorem dX9_matchSum_52 : decode cX9_matchSum 52 = .ok (.iload 4, 2) := by decide +kernel
theorem dX9_matchSum_54 : decode cX9_matchSum 54 = .ok (.iload_n 3, 1) := by decide +kernel
theorem dX9_matchSum_55 : decode cX9_matchSum 55 = .ok (.invokevirtual 152, 3) := by decide +kernel
theorem dX9_matchSum_58 : decode cX9_matchSum 58 = .ok (.ifCond .eq 16, 3) := by decide +kernel
theorem dX9_matchSum_61 : decode cX9_matchSum 61 = .ok (.iload_n 2, 1) := by decide +kernel
theorem dX9_matchSum_62 : decode cX9_matchSum 62 = .ok (.aload_n 0, 1) := by decide +kernel
theorem dX9_matchSum_63 : decode cX9_matchSum 63 = .ok (.getfield 61, 3) := by decide +kernel
theorem dX9_matchSum_66 : decode cX9_matchSum 66 = .ok (.iload 4, 2) := by decide +kernel
theorem dX9_matchSum_68 : decode cX9_matchSum 68 = .ok (.iload_n 3, 1) := by decide +kernel
theorem dX9_matchSum_69 : decode cX9_matchSum 69 = .ok (.invokevirtual 148, 3) := by decide +kernel
theorem dX9_matchSum_72 : decode cX9_matchSum 72 = .ok (.iadd, 1) := by decide +kernel
theorem dX9_matchSum_73 : decode cX9_matchSum 73 = .ok (.istore_n 2, 1) := by decide +kernel
theorem dX9_matchSum_74 : decode cX9_matchSum 74 = .ok (.iinc 4 1, 3) := by decide +kernel
theorem dX9_matchSum_77 : decode cX9_matchSum 77 = .ok (.goto (-54), 3) := by decide +kernel
theorem dX9_matchSum_80 : decode cX9_matchSum 80 = .ok (.iinc 3 1, 3) := by decide +kernel
theorem dX9_matchSum_83 : decode cX9_matchSum 83 = .ok (.goto (-74), 3) := by decide +kernel
theorem dX9_matchSum_86 : decode cX9_matchSum 86 = .ok (.iload_n 2, 1) := by decide +kernel
theorem dX9_matchSum_87 : decode cX9_matchSum 87 = .ok (.ireturn, 1) := by decide +kernel
theorem dX9_mostReviews_0 : decode cX9_mostReviews 0 = .ok (.aload_n 0, 1) := by decide +kernel
theorem dX9_mostReviews_1 : decode cX9_mostReviews 1 = .ok (.iload_n 1, 1) := by decide +kernel
theorem dX9_mostReviews_2 : decode cX9_mostReviews 2 = .ok (.invokevirtual 193, 3) := by decide +kernel
theorem dX9_mostReviews_5 : decode cX9_mostReviews 5 = .ok (.aload_n 0, 1) := by decide +kernel
theorem dX9_mostReviews_6 : decode cX9_mostReviews 6 = .ok (.getfield 47, 3) := by decide +kernel
theorem dX9_mostReviews_9 : decode cX9_mostReviews 9 = .ok (.aload_n 0, 1) := by decide +kernel
theorem dX9_mostReviews_10 : decode cX9_mostReviews 10 = .ok (.getfield 61, 3) := by decide +kernel
theorem dX9_mostReviews_13 : decode cX9_mostReviews 13 = .ok (.aload_n 0, 1) := by decide +kernel
theorem dX9_mostReviews_14 : decode cX9_mostReviews 14 = .ok (.getfield 19, 3) := by decide +kernel
theorem dX9_mostReviews_17 : decode cX9_mostReviews 17 = .ok (.iload_n 1, 1) := by decide +kernel
theorem dX9_mostReviews_18 : decode cX9_mostReviews 18 = .ok (.invokevirtual 215, 3) := by decide +kernel
theorem dX9_mostReviews_21 : decode cX9_mostReviews 21 = .ok (.aload_n 0, 1) := by decide +kernel
theorem dX9_mostReviews_22 : decode cX9_mostReviews 22 = .ok (.getfield 47, 3) := by decide +kernel
theorem dX9_mostReviews_25 : decode cX9_mostReviews 25 = .ok (.getfield 219, 3) := by decide +kernel
theorem dX9_mostReviews_28 : decode cX9_mostReviews 28 = .ok (.ireturn, 1) := by decide +kernel
theorem dX9_bestMatchSum_0 : decode cX9_bestMatchSum 0 = .ok (.aload_n 0, 1) := by decide +kernel
theorem dX9_bestMatchSum_1 : decode cX9_bestMatchSum 1 = .ok (.iload_n 1, 1) := by decide +kernel
theorem dX9_bestMatchSum_2 : decode cX9_bestMatchSum 2 = .ok (.invokevirtual 193, 3) := by decide +kernel
theorem dX9_bestMatchSum_5 : decode cX9_bestMatchSum 5 = .ok (.aload_n 0, 1) := by decide +kernel
theorem dX9_bestMatchSum_6 : decode cX9_bestMatchSum 6 = .ok (.getfield 47, 3) := by decide +kernel
theorem dX9_bestMatchSum_9 : decode cX9_bestMatchSum 9 = .ok (.aload_n 0, 1) := by decide +kernel
theorem dX9_bestMatchSum_10 : decode cX9_bestMatchSum 10 = .ok (.getfield 61, 3) := by decide +kernel
theorem dX9_bestMatchSum_13 : decode cX9_bestMatchSum 13 = .ok (.aload_n 0, 1) := by decide +kernel
theorem dX9_bestMatchSum_14 : decode cX9_bestMatchSum 14 = .ok (.getfield 19, 3) := by decide +kernel
theorem dX9_bestMatchSum_17 : decode cX9_bestMatchSum 17 = .ok (.iload_n 1, 1) := by decide +kernel
theorem dX9_bestMatchSum_18 : decode cX9_bestMatchSum 18 = .ok (.invokevirtual 215, 3) := by decide +kernel
theorem dX9_bestMatchSum_21 : decode cX9_bestMatchSum 21 = .ok (.aload_n 0, 1) := by decide +kernel
theorem dX9_bestMatchSum_22 : decode cX9_bestMatchSum 22 = .ok (.getfield 47, 3) := by decide +kernel
theorem dX9_bestMatchSum_25 : decode cX9_bestMatchSum 25 = .ok (.getfield 222, 3) := by decide +kernel
theorem dX9_bestMatchSum_28 : decode cX9_bestMatchSum 28 = .ok (.ireturn, 1) := by decide +kernel
theorem dX9_setScore_0 : decode cX9_setScore 0 = .ok (.aload_n 0, 1) := by decide +kernel
theorem dX9_setScore_1 : decode cX9_setScore 1 = .ok (.iload_n 1, 1) := by decide +kernel
theorem dX9_setScore_2 : decode cX9_setScore 2 = .ok (.iload_n 2, 1) := by decide +kernel
theorem dX9_setScore_3 : decode cX9_setScore 3 = .ok (.invokevirtual 140, 3) := by decide +kernel
theorem dX9_setScore_6 : decode cX9_setScore 6 = .ok (.iload_n 3, 1) := by decide +kernel
theorem dX9_setScore_7 : decode cX9_setScore 7 = .ok (.iconst (-1), 1) := by decide +kernel
theorem dX9_setScore_8 : decode cX9_setScore 8 = .ok (.if_icmp .eq 24, 3) := by decide +kernel
theorem dX9_setScore_11 : decode cX9_setScore 11 = .ok (.iload_n 3, 1) := by decide +kernel
theorem dX9_setScore_12 : decode cX9_setScore 12 = .ok (.iconst 1, 1) := by decide +kernel
theorem dX9_setScore_13 : decode cX9_setScore 13 = .ok (.if_icmp .lt 9, 3) := by decide +kernel
theorem dX9_setScore_16 : decode cX9_setScore 16 = .ok (.iload_n 3, 1) := by decide +kernel
theorem dX9_setScore_17 : decode cX9_setScore 17 = .ok (.bipush 100, 2) := by decide +kernel
theorem dX9_setScore_19 : decode cX9_setScore 19 = .ok (.if_icmp .le 13, 3) := by decide +kernel
theorem dX9_setScore_22 : decode cX9_setScore 22 = .ok (.new 92, 3) := by decide +kernel
theorem dX9_setScore_25 : decode cX9_setScore 25 = .ok (.dup, 1) := by decide +kernel
theorem dX9_setScore_26 : decode cX9_setScore 26 = .ok (.ldc 225, 2) := by decide +kernel
theorem dX9_setScore_28 : decode cX9_setScore 28 = .ok (.invokespecial 96, 3) := by decide +kernel
theorem dX9_setScore_31 : decode cX9_setScore 31 = .ok (.athrow, 1) := by decide +kernel
theorem dX9_setScore_32 : decode cX9_setScore 32 = .ok (.aload_n 0, 1) := by decide +kernel
theorem dX9_setScore_33 : decode cX9_setScore 33 = .ok (.iload_n 1, 1) := by decide +kernel
theorem dX9_setScore_34 : decode cX9_setScore 34 = .ok (.iload_n 2, 1) := by decide +kernel
theorem dX9_setScore_35 : decode cX9_setScore 35 = .ok (.invokevirtual 187, 3) := by decide +kernel
theorem dX9_setScore_38 : decode cX9_setScore 38 = .ok (.aload_n 0, 1) := by decide +kernel
theorem dX9_setScore_39 : decode cX9_setScore 39 = .ok (.getfield 26, 3) := by decide +kernel
theorem dX9_setScore_42 : decode cX9_setScore 42 = .ok (.aload_n 0, 1) := by decide +kernel
theorem dX9_setScore_43 : decode cX9_setScore 43 = .ok (.getfield 19, 3) := by decide +kernel
theorem dX9_setScore_46 : decode cX9_setScore 46 = .ok (.invokevirtual 158, 3) := by decide +kernel
theorem dX9_setScore_49 : decode cX9_setScore 49 = .ok (.aload_n 0, 1) := by decide +kernel
theorem dX9_setScore_50 : decode cX9_setScore 50 = .ok (.getfield 19, 3) := by decide +kernel
theorem dX9_setScore_53 : decode cX9_setScore 53 = .ok (.iload_n 1, 1) := by decide +kernel
theorem dX9_setScore_54 : decode cX9_setScore 54 = .ok (.iload_n 2, 1) := by decide +kernel
theorem dX9_setScore_55 : decode cX9_setScore 55 = .ok (.invokevirtual 190, 3) := by decide +kernel
theorem dX9_setScore_58 : decode cX9_setScore 58 = .ok (.istore 4, 2) := by decide +kernel
theorem dX9_setScore_60 : decode cX9_setScore 60 = .ok (.aload_n 0, 1) := by decide +kernel
theorem dX9_setScore_61 : decode cX9_setScore 61 = .ok (.getfield 19, 3) := by decide +kernel
theorem dX9_setScore_64 : decode cX9_setScore 64 = .ok (.iload_n 1, 1) := by decide +kernel
theorem dX9_setScore_65 : decode cX9_setScore 65 = .ok (.iload_n 2, 1) := by decide +kernel
theorem dX9_setScore_66 : decode cX9_setScore 66 = .ok (.iload_n 3, 1) := by decide +kernel
theorem dX9_setScore_67 : decode cX9_setScore 67 = .ok (.invokevirtual 184, 3) := by decide +kernel
theorem dX9_setScore_70 : decode cX9_setScore 70 = .ok (.iload 4, 2) := by decide +kernel
theorem dX9_setScore_72 : decode cX9_setScore 72 = .ok (.ireturn, 1) := by decide +kernel
theorem dX9_adjusted_0 : decode cX9_adjusted 0 = .ok (.aload_n 0, 1) := by decide +kernel
theorem dX9_adjusted_1 : decode cX9_adjusted 1 = .ok (.iload_n 1, 1) := by decide +kernel
theorem dX9_adjusted_2 : decode cX9_adjusted 2 = .ok (.iload_n 2, 1) := by decide +kernel
theorem dX9_adjusted_3 : decode cX9_adjusted 3 = .ok (.invokevirtual 140, 3) := by decide +kernel
theorem dX9_adjusted_6 : decode cX9_adjusted 6 = .ok (.aload_n 0, 1) := by decide +kernel
theorem dX9_adjusted_7 : decode cX9_adjusted 7 = .ok (.iload_n 1, 1) := by decide +kernel
theorem dX9_adjusted_8 : decode cX9_adjusted 8 = .ok (.iload_n 2, 1) := by decide +kernel
theorem dX9_adjusted_9 : decode cX9_adjusted 9 = .ok (.invokevirtual 227, 3) := by decide +kernel
theorem dX9_adjusted_12 : decode cX9_adjusted 12 = .ok (.aload_n 0, 1) := by decide +kernel
theorem dX9_adjusted_13 : decode cX9_adjusted 13 = .ok (.getfield 33, 3) := by decide +kernel
theorem dX9_adjusted_16 : decode cX9_adjusted 16 = .ok (.aload_n 0, 1) := by decide +kernel
theorem dX9_adjusted_17 : decode cX9_adjusted 17 = .ok (.getfield 61, 3) := by decide +kernel
theorem dX9_adjusted_20 : decode cX9_adjusted 20 = .ok (.aload_n 0, 1) := by decide +kernel
theorem dX9_adjusted_21 : decode cX9_adjusted 21 = .ok (.getfield 19, 3) := by decide +kernel
theorem dX9_adjusted_24 : decode cX9_adjusted 24 = .ok (.invokevirtual 230, 3) := by decide +kernel
theorem dX9_adjusted_27 : decode cX9_adjusted 27 = .ok (.aload_n 0, 1) := by decide +kernel
theorem dX9_adjusted_28 : decode cX9_adjusted 28 = .ok (.getfield 33, 3) := by decide +kernel
theorem dX9_adjusted_31 : decode cX9_adjusted 31 = .ok (.iload_n 1, 1) := by decide +kernel
theorem dX9_adjusted_32 : decode cX9_adjusted 32 = .ok (.aload_n 0, 1) := by decide +kernel
theorem dX9_adjusted_33 : decode cX9_adjusted 33 = .ok (.getfield 19, 3) := by decide +kernel
theorem dX9_adjusted_36 : decode cX9_adjusted 36 = .ok (.iload_n 1, 1) := by decide +kernel
theorem dX9_adjusted_37 : decode cX9_adjusted 37 = .ok (.iload_n 2, 1) := by decide +kernel
theorem dX9_adjusted_38 : decode cX9_adjusted 38 = .ok (.invokevirtual 190, 3) := by decide +kernel
theorem dX9_adjusted_41 : decode cX9_adjusted 41 = .ok (.invokevirtual 234, 3) := by decide +kernel
theorem dX9_adjusted_44 : decode cX9_adjusted 44 = .ok (.ireturn, 1) := by decide +kernel
theorem dX9_normalized_0 : decode cX9_normalized 0 = .ok (.aload_n 0, 1) := by decide +kernel
theorem dX9_normalized_1 : decode cX9_normalized 1 = .ok (.iload_n 1, 1) := by decide +kernel
theorem dX9_normalized_2 : decode cX9_normalized 2 = .ok (.invokevirtual 204, 3) := by decide +kernel
theorem dX9_normalized_5 : decode cX9_normalized 5 = .ok (.aload_n 0, 1) := by decide +kernel
theorem dX9_normalized_6 : decode cX9_normalized 6 = .ok (.getfield 33, 3) := by decide +kernel
theorem dX9_normalized_9 : decode cX9_normalized 9 = .ok (.aload_n 0, 1) := by decide +kernel
theorem dX9_normalized_10 : decode cX9_normalized 10 = .ok (.getfield 61, 3) := by decide +kernel
theorem dX9_normalized_13 : decode cX9_normalized 13 = .ok (.aload_n 0, 1) := by decide +kernel
theorem dX9_normalized_14 : decode cX9_normalized 14 = .ok (.getfield 19, 3) := by decide +kernel
theorem dX9_normalized_17 : decode cX9_normalized 17 = .ok (.invokevirtual 230, 3) := by decide +kernel
theorem dX9_normalized_20 : decode cX9_normalized 20 = .ok (.aload_n 0, 1) := by decide +kernel
theorem dX9_normalized_21 : decode cX9_normalized 21 = .ok (.iload_n 1, 1) := by decide +kernel
theorem dX9_normalized_22 : decode cX9_normalized 22 = .ok (.invokevirtual 237, 3) := by decide +kernel
theorem dX9_normalized_25 : decode cX9_normalized 25 = .ok (.aload_n 0, 1) := by decide +kernel
theorem dX9_normalized_26 : decode cX9_normalized 26 = .ok (.getfield 33, 3) := by decide +kernel
theorem dX9_normalized_29 : decode cX9_normalized 29 = .ok (.getfield 240, 3) := by decide +kernel
theorem dX9_normalized_32 : decode cX9_normalized 32 = .ok (.iload_n 1, 1) := by decide +kernel
theorem dX9_normalized_33 : decode cX9_normalized 33 = .ok (.iaload, 1) := by decide +kernel
theorem dX9_normalized_34 : decode cX9_normalized 34 = .ok (.ireturn, 1) := by decide +kernel
theorem dX9_leniency_0 : decode cX9_leniency 0 = .ok (.aload_n 0, 1) := by decide +kernel
theorem dX9_leniency_1 : decode cX9_leniency 1 = .ok (.iload_n 1, 1) := by decide +kernel
theorem dX9_leniency_2 : decode cX9_leniency 2 = .ok (.invokevirtual 209, 3) := by decide +kernel
theorem dX9_leniency_5 : decode cX9_leniency 5 = .ok (.aload_n 0, 1) := by decide +kernel
theorem dX9_leniency_6 : decode cX9_leniency 6 = .ok (.getfield 33, 3) := by decide +kernel
theorem dX9_leniency_9 : decode cX9_leniency 9 = .ok (.aload_n 0, 1) := by decide +kernel
theorem dX9_leniency_10 : decode cX9_leniency 10 = .ok (.getfield 61, 3) := by decide +kernel
theorem dX9_leniency_13 : decode cX9_leniency 13 = .ok (.aload_n 0, 1) := by decide +kernel
theorem dX9_leniency_14 : decode cX9_leniency 14 = .ok (.getfield 19, 3) := by decide +kernel
theorem dX9_leniency_17 : decode cX9_leniency 17 = .ok (.invokevirtual 230, 3) := by decide +kernel
theorem dX9_leniency_20 : decode cX9_leniency 20 = .ok (.aload_n 0, 1) := by decide +kernel
theorem dX9_leniency_21 : decode cX9_leniency 21 = .ok (.getfield 33, 3) := by decide +kernel
theorem dX9_leniency_24 : decode cX9_leniency 24 = .ok (.getfield 243, 3) := by decide +kernel
theorem dX9_leniency_27 : decode cX9_leniency 27 = .ok (.iload_n 1, 1) := by decide +kernel
theorem dX9_leniency_28 : decode cX9_leniency 28 = .ok (.iaload, 1) := by decide +kernel
theorem dX9_leniency_29 : decode cX9_leniency 29 = .ok (.istore_n 2, 1) := by decide +kernel
theorem dX9_leniency_30 : decode cX9_leniency 30 = .ok (.iconst 0, 1) := by decide +kernel
theorem dX9_leniency_31 : decode cX9_leniency 31 = .ok (.istore_n 3, 1) := by decide +kernel
theorem dX9_leniency_32 : decode cX9_leniency 32 = .ok (.iconst 0, 1) := by decide +kernel
theorem dX9_leniency_33 : decode cX9_leniency 33 = .ok (.istore 4, 2) := by decide +kernel
theorem dX9_leniency_35 : decode cX9_leniency 35 = .ok (.iconst 0, 1) := by decide +kernel
theorem dX9_leniency_36 : decode cX9_leniency 36 = .ok (.istore 5, 2) := by decide +kernel
theorem dX9_leniency_38 : decode cX9_leniency 38 = .ok (.iload 5, 2) := by decide +kernel
theorem dX9_leniency_40 : decode cX9_leniency 40 = .ok (.aload_n 0, 1) := by decide +kernel
theorem dX9_leniency_41 : decode cX9_leniency 41 = .ok (.getfield 61, 3) := by decide +kernel
theorem dX9_leniency_44 : decode cX9_leniency 44 = .ok (.getfield 116, 3) := by decide +kernel
theorem dX9_leniency_47 : decode cX9_leniency 47 = .ok (.if_icmp .ge 59, 3) := by decide +kernel
theorem dX9_leniency_50 : decode cX9_leniency 50 = .ok (.aload_n 0, 1) := by decide +kernel
theorem dX9_leniency_51 : decode cX9_leniency 51 = .ok (.getfield 61, 3) := by decide +kernel
theorem dX9_leniency_54 : decode cX9_leniency 54 = .ok (.getfield 246, 3) := by decide +kernel
theorem dX9_leniency_57 : decode cX9_leniency 57 = .ok (.iload 5, 2) := by decide +kernel
theorem dX9_leniency_59 : decode cX9_leniency 59 = .ok (.iaload, 1) := by decide +kernel
theorem dX9_leniency_60 : decode cX9_leniency 60 = .ok (.aload_n 0, 1) := by decide +kernel
theorem dX9_leniency_61 : decode cX9_leniency 61 = .ok (.getfield 61, 3) := by decide +kernel
theorem dX9_leniency_64 : decode cX9_leniency 64 = .ok (.getfield 246, 3) := by decide +kernel
theorem dX9_leniency_67 : decode cX9_leniency 67 = .ok (.iload_n 1, 1) := by decide +kernel
theorem dX9_leniency_68 : decode cX9_leniency 68 = .ok (.iaload, 1) := by decide +kernel
theorem dX9_leniency_69 : decode cX9_leniency 69 = .ok (.if_icmp .ne 31, 3) := by decide +kernel
theorem dX9_leniency_72 : decode cX9_leniency 72 = .ok (.iload_n 3, 1) := by decide +kernel
theorem dX9_leniency_73 : decode cX9_leniency 73 = .ok (.aload_n 0, 1) := by decide +kernel
theorem dX9_leniency_74 : decode cX9_leniency 74 = .ok (.getfield 33, 3) := by decide +kernel
theorem dX9_leniency_77 : decode cX9_leniency 77 = .ok (.getfield 243, 3) := by decide +kernel
theorem dX9_leniency_80 : decode cX9_leniency 80 = .ok (.iload 5, 2) := by decide +kernel
theorem dX9_leniency_82 : decode cX9_leniency 82 = .ok (.iaload, 1) := by decide +kernel
theorem dX9_leniency_83 : decode cX9_leniency 83 = .ok (.iadd, 1) := by decide +kernel
theorem dX9_leniency_84 : decode cX9_leniency 84 = .ok (.istore_n 3, 1) := by decide +kernel
theorem dX9_leniency_85 : decode cX9_leniency 85 = .ok (.iload 4, 2) := by decide +kernel
theorem dX9_leniency_87 : decode cX9_leniency 87 = .ok (.aload_n 0, 1) := by decide +kernel
theorem dX9_leniency_88 : decode cX9_leniency 88 = .ok (.getfield 33, 3) := by decide +kernel
theorem dX9_leniency_91 : decode cX9_leniency 91 = .ok (.getfield 249, 3) := by decide +kernel
theorem dX9_leniency_94 : decode cX9_leniency 94 = .ok (.iload 5, 2) := by decide +kernel
theorem dX9_leniency_96 : decode cX9_leniency 96 = .ok (.iaload, 1) := by decide +kernel
theorem dX9_leniency_97 : decode cX9_leniency 97 = .ok (.iadd, 1) := by decide +kernel
theorem dX9_leniency_98 : decode cX9_leniency 98 = .ok (.istore 4, 2) := by decide +kernel
theorem dX9_leniency_100 : decode cX9_leniency 100 = .ok (.iinc 5 1, 3) := by decide +kernel
theorem dX9_leniency_103 : decode cX9_leniency 103 = .ok (.goto (-65), 3) := by decide +kernel
theorem dX9_leniency_106 : decode cX9_leniency 106 = .ok (.iload_n 2, 1) := by decide +kernel
theorem dX9_leniency_107 : decode cX9_leniency 107 = .ok (.ifCond .eq 7, 3) := by decide +kernel
theorem dX9_leniency_110 : decode cX9_leniency 110 = .ok (.iload_n 3, 1) := by decide +kernel
theorem dX9_leniency_111 : decode cX9_leniency 111 = .ok (.ifCond .ne 13, 3) := by decide +kernel
theorem dX9_leniency_114 : decode cX9_leniency 114 = .ok (.new 252, 3) := by decide +kernel
theorem dX9_leniency_117 : decode cX9_leniency 117 = .ok (.dup, 1) := by decide +kernel
theorem dX9_leniency_118 : decode cX9_leniency 118 = .ok (.ldc 254, 2) := by decide +kernel
theorem dX9_leniency_120 : decode cX9_leniency 120 = .ok (.invokespecial 256, 3) := by decide +kernel
theorem dX9_leniency_123 : decode cX9_leniency 123 = .ok (.athrow, 1) := by decide +kernel
theorem dX9_leniency_124 : decode cX9_leniency 124 = .ok (.aload_n 0, 1) := by decide +kernel
theorem dX9_leniency_125 : decode cX9_leniency 125 = .ok (.getfield 33, 3) := by decide +kernel
theorem dX9_leniency_128 : decode cX9_leniency 128 = .ok (.getfield 249, 3) := by decide +kernel
theorem dX9_leniency_131 : decode cX9_leniency 131 = .ok (.iload_n 1, 1) := by decide +kernel
theorem dX9_leniency_132 : decode cX9_leniency 132 = .ok (.iaload, 1) := by decide +kernel
theorem dX9_leniency_133 : decode cX9_leniency 133 = .ok (.i2d, 1) := by decide +kernel
theorem dX9_leniency_134 : decode cX9_leniency 134 = .ok (.iload_n 2, 1) := by decide +kernel
theorem dX9_leniency_135 : decode cX9_leniency 135 = .ok (.i2d, 1) := by decide +kernel
theorem dX9_leniency_136 : decode cX9_leniency 136 = .ok (.ddiv, 1) := by decide +kernel
theorem dX9_leniency_137 : decode cX9_leniency 137 = .ok (.iload 4, 2) := by decide +kernel
theorem dX9_leniency_139 : decode cX9_leniency 139 = .ok (.i2d, 1) := by decide +kernel
theorem dX9_leniency_140 : decode cX9_leniency 140 = .ok (.iload_n 3, 1) := by decide +kernel
theorem dX9_leniency_141 : decode cX9_leniency 141 = .ok (.i2d, 1) := by decide +kernel
theorem dX9_leniency_142 : decode cX9_leniency 142 = .ok (.ddiv, 1) := by decide +kernel
theorem dX9_leniency_143 : decode cX9_leniency 143 = .ok (.dsub, 1) := by decide +kernel
theorem dX9_leniency_144 : decode cX9_leniency 144 = .ok (.dreturn, 1) := by decide +kernel
theorem dX9_disagreement_0 : decode cX9_disagreement 0 = .ok (.aload_n 0, 1) := by decide +kernel
theorem dX9_disagreement_1 : decode cX9_disagreement 1 = .ok (.iload_n 1, 1) := by decide +kernel
theorem dX9_disagreement_2 : decode cX9_disagreement 2 = .ok (.invokevirtual 204, 3) := by decide +kernel
theorem dX9_disagreement_5 : decode cX9_disagreement 5 = .ok (.iconst 0, 1) := by decide +kernel
theorem dX9_disagreement_6 : decode cX9_disagreement 6 = .ok (.istore_n 2, 1) := by decide +kernel
theorem dX9_disagreement_7 : decode cX9_disagreement 7 = .ok (.iconst 0, 1) := by decide +kernel
theorem dX9_disagreement_8 : decode cX9_disagreement 8 = .ok (.istore_n 3, 1) := by decide +kernel
theorem dX9_disagreement_9 : decode cX9_disagreement 9 = .ok (.iconst 0, 1) := by decide +kernel
theorem dX9_disagreement_10 : decode cX9_disagreement 10 = .ok (.istore 4, 2) := by decide +kernel
theorem dX9_disagreement_12 : decode cX9_disagreement 12 = .ok (.iload 4, 2) := by decide +kernel
theorem dX9_disagreement_14 : decode cX9_disagreement 14 = .ok (.aload_n 0, 1) := by decide +kernel
theorem dX9_disagreement_15 : decode cX9_disagreement 15 = .ok (.getfield 61, 3) := by decide +kernel
theorem dX9_disagreement_18 : decode cX9_disagreement 18 = .ok (.getfield 116, 3) := by decide +kernel
theorem dX9_disagreement_21 : decode cX9_disagreement 21 = .ok (.if_icmp .ge 81, 3) := by decide +kernel
theorem dX9_disagreement_24 : decode cX9_disagreement 24 = .ok (.iconst 0, 1) := by decide +kernel
theorem dX9_disagreement_25 : decode cX9_disagreement 25 = .ok (.istore 5, 2) := by decide +kernel
theorem dX9_disagreement_27 : decode cX9_disagreement 27 = .ok (.iload 5, 2) := by decide +kernel
theorem dX9_disagreement_29 : decode cX9_disagreement 29 = .ok (.iload 4, 2) := by decide +kernel
theorem dX9_disagreement_31 : decode cX9_disagreement 31 = .ok (.if_icmp .ge 65, 3) := by decide +kernel
theorem dX9_disagreement_34 : decode cX9_disagreement 34 = .ok (.aload_n 0, 1) := by decide +kernel
theorem dX9_disagreement_35 : decode cX9_disagreement 35 = .ok (.getfield 19, 3) := by decide +kernel
theorem dX9_disagreement_38 : decode cX9_disagreement 38 = .ok (.iload 4, 2) := by decide +kernel
theorem dX9_disagreement_40 : decode cX9_disagreement 40 = .ok (.iload_n 1, 1) := by decide +kernel
theorem dX9_disagreement_41 : decode cX9_disagreement 41 = .ok (.invokevirtual 257, 3) := by decide +kernel
theorem dX9_disagreement_44 : decode cX9_disagreement 44 = .ok (.ifCond .eq 46, 3) := by decide +kernel
theorem dX9_disagreement_47 : decode cX9_disagreement 47 = .ok (.aload_n 0, 1) := by decide +kernel
theorem dX9_disagreement_48 : decode cX9_disagreement 48 = .ok (.getfield 19, 3) := by decide +kernel
theorem dX9_disagreement_51 : decode cX9_disagreement 51 = .ok (.iload 5, 2) := by decide +kernel
theorem dX9_disagreement_53 : decode cX9_disagreement 53 = .ok (.iload_n 1, 1) := by decide +kernel
theorem dX9_disagreement_54 : decode cX9_disagreement 54 = .ok (.invokevirtual 257, 3) := by decide +kernel
theorem dX9_disagreement_57 : decode cX9_disagreement 57 = .ok (.ifCond .eq 33, 3) := by decide +kernel
theorem dX9_disagreement_60 : decode cX9_disagreement 60 = .ok (.iinc 2 1, 3) := by decide +kernel
theorem dX9_disagreement_63 : decode cX9_disagreement 63 = .ok (.iload_n 3, 1) := by decide +kernel
theorem dX9_disagreement_64 : decode cX9_disagreement 64 = .ok (.aload_n 0, 1) := by decide +kernel
theorem dX9_disagreement_65 : decode cX9_disagreement 65 = .ok (.getfield 19, 3) := by decide +kernel
theorem dX9_disagreement_68 : decode cX9_disagreement 68 = .ok (.iload 4, 2) := by decide +kernel
theorem dX9_disagreement_70 : decode cX9_disagreement 70 = .ok (.iload_n 1, 1) := by decide +kernel
theorem dX9_disagreement_71 : decode cX9_disagreement 71 = .ok (.invokevirtual 190, 3) := by decide +kernel
theorem dX9_disagreement_74 : decode cX9_disagreement 74 = .ok (.aload_n 0, 1) := by decide +kernel
theorem dX9_disagreement_75 : decode cX9_disagreement 75 = .ok (.getfield 19, 3) := by decide +kernel
theorem dX9_disagreement_78 : decode cX9_disagreement 78 = .ok (.iload 5, 2) := by decide +kernel
theorem dX9_disagreement_80 : decode cX9_disagreement 80 = .ok (.iload_n 1, 1) := by decide +kernel
theorem dX9_disagreement_81 : decode cX9_disagreement 81 = .ok (.invokevirtual 190, 3) := by decide +kernel
theorem dX9_disagreement_84 : decode cX9_disagreement 84 = .ok (.isub, 1) := by decide +kernel
theorem dX9_disagreement_85 : decode cX9_disagreement 85 = .ok (.invokestatic 260, 3) := by decide +kernel
theorem dX9_disagreement_88 : decode cX9_disagreement 88 = .ok (.iadd, 1) := by decide +kernel
theorem dX9_disagreement_89 : decode cX9_disagreement 89 = .ok (.istore_n 3, 1) := by decide +kernel
theorem dX9_disagreement_90 : decode cX9_disagreement 90 = .ok (.iinc 5 1, 3) := by decide +kernel
theorem dX9_disagreement_93 : decode cX9_disagreement 93 = .ok (.goto (-66), 3) := by decide +kernel
theorem dX9_disagreement_96 : decode cX9_disagreement 96 = .ok (.iinc 4 1, 3) := by decide +kernel
theorem dX9_disagreement_99 : decode cX9_disagreement 99 = .ok (.goto (-87), 3) := by decide +kernel
theorem dX9_disagreement_102 : decode cX9_disagreement 102 = .ok (.iload_n 2, 1) := by decide +kernel
theorem dX9_disagreement_103 : decode cX9_disagreement 103 = .ok (.ifCond .ne 14, 3) := by decide +kernel
theorem dX9_disagreement_106 : decode cX9_disagreement 106 = .ok (.new 252, 3) := by decide +kernel
theorem dX9_disagreement_109 : decode cX9_disagreement 109 = .ok (.dup, 1) := by decide +kernel
theorem dX9_disagreement_110 : decode cX9_disagreement 110 = .ok (.ldc_w 265, 3) := by decide +kernel
theorem dX9_disagreement_113 : decode cX9_disagreement 113 = .ok (.invokespecial 256, 3) := by decide +kernel
theorem dX9_disagreement_116 : decode cX9_disagreement 116 = .ok (.athrow, 1) := by decide +kernel
theorem dX9_disagreement_117 : decode cX9_disagreement 117 = .ok (.iload_n 3, 1) := by decide +kernel
theorem dX9_disagreement_118 : decode cX9_disagreement 118 = .ok (.i2d, 1) := by decide +kernel
theorem dX9_disagreement_119 : decode cX9_disagreement 119 = .ok (.iload_n 2, 1) := by decide +kernel
theorem dX9_disagreement_120 : decode cX9_disagreement 120 = .ok (.i2d, 1) := by decide +kernel
theorem dX9_disagreement_121 : decode cX9_disagreement 121 = .ok (.ddiv, 1) := by decide +kernel
theorem dX9_disagreement_122 : decode cX9_disagreement 122 = .ok (.dreturn, 1) := by decide +kernel
theorem dX9_rank_0 : decode cX9_rank 0 = .ok (.aload_n 0, 1) := by decide +kernel
theorem dX9_rank_1 : decode cX9_rank 1 = .ok (.iload_n 1, 1) := by decide +kernel
theorem dX9_rank_2 : decode cX9_rank 2 = .ok (.invokevirtual 204, 3) := by decide +kernel
theorem dX9_rank_5 : decode cX9_rank 5 = .ok (.aload_n 0, 1) := by decide +kernel
theorem dX9_rank_6 : decode cX9_rank 6 = .ok (.getfield 33, 3) := by decide +kernel
theorem dX9_rank_9 : decode cX9_rank 9 = .ok (.aload_n 0, 1) := by decide +kernel
theorem dX9_rank_10 : decode cX9_rank 10 = .ok (.getfield 61, 3) := by decide +kernel
theorem dX9_rank_13 : decode cX9_rank 13 = .ok (.aload_n 0, 1) := by decide +kernel
theorem dX9_rank_14 : decode cX9_rank 14 = .ok (.getfield 19, 3) := by decide +kernel
theorem dX9_rank_17 : decode cX9_rank 17 = .ok (.invokevirtual 230, 3) := by decide +kernel
theorem dX9_rank_20 : decode cX9_rank 20 = .ok (.aload_n 0, 1) := by decide +kernel
theorem dX9_rank_21 : decode cX9_rank 21 = .ok (.iload_n 1, 1) := by decide +kernel
theorem dX9_rank_22 : decode cX9_rank 22 = .ok (.invokevirtual 237, 3) := by decide +kernel
theorem dX9_rank_25 : decode cX9_rank 25 = .ok (.iconst 0, 1) := by decide +kernel
theorem dX9_rank_26 : decode cX9_rank 26 = .ok (.istore_n 2, 1) := by decide +kernel
theorem dX9_rank_27 : decode cX9_rank 27 = .ok (.iconst 0, 1) := by decide +kernel
theorem dX9_rank_28 : decode cX9_rank 28 = .ok (.istore_n 3, 1) := by decide +kernel
theorem dX9_rank_29 : decode cX9_rank 29 = .ok (.iload_n 3, 1) := by decide +kernel
theorem dX9_rank_30 : decode cX9_rank 30 = .ok (.aload_n 0, 1) := by decide +kernel
theorem dX9_rank_31 : decode cX9_rank 31 = .ok (.getfield 61, 3) := by decide +kernel
theorem dX9_rank_34 : decode cX9_rank 34 = .ok (.getfield 104, 3) := by decide +kernel
theorem dX9_rank_37 : decode cX9_rank 37 = .ok (.if_icmp .ge 56, 3) := by decide +kernel
theorem dX9_rank_40 : decode cX9_rank 40 = .ok (.aload_n 0, 1) := by decide +kernel
theorem dX9_rank_41 : decode cX9_rank 41 = .ok (.getfield 61, 3) := by decide +kernel
theorem dX9_rank_44 : decode cX9_rank 44 = .ok (.getfield 196, 3) := by decide +kernel
theorem dX9_rank_47 : decode cX9_rank 47 = .ok (.iload_n 3, 1) := by decide +kernel
theorem dX9_rank_48 : decode cX9_rank 48 = .ok (.iaload, 1) := by decide +kernel
theorem dX9_rank_49 : decode cX9_rank 49 = .ok (.aload_n 0, 1) := by decide +kernel
theorem dX9_rank_50 : decode cX9_rank 50 = .ok (.getfield 61, 3) := by decide +kernel
theorem dX9_rank_53 : decode cX9_rank 53 = .ok (.getfield 196, 3) := by decide +kernel
theorem dX9_rank_56 : decode cX9_rank 56 = .ok (.iload_n 1, 1) := by decide +kernel
theorem dX9_rank_57 : decode cX9_rank 57 = .ok (.iaload, 1) := by decide +kernel
theorem dX9_rank_58 : decode cX9_rank 58 = .ok (.if_icmp .ne 29, 3) := by decide +kernel
theorem dX9_rank_61 : decode cX9_rank 61 = .ok (.aload_n 0, 1) := by decide +kernel
theorem dX9_rank_62 : decode cX9_rank 62 = .ok (.getfield 33, 3) := by decide +kernel
theorem dX9_rank_65 : decode cX9_rank 65 = .ok (.iload_n 3, 1) := by decide +kernel
theorem dX9_rank_66 : decode cX9_rank 66 = .ok (.invokevirtual 267, 3) := by decide +kernel
theorem dX9_rank_69 : decode cX9_rank 69 = .ok (.ifCond .eq 18, 3) := by decide +kernel
theorem dX9_rank_72 : decode cX9_rank 72 = .ok (.aload_n 0, 1) := by decide +kernel
theorem dX9_rank_73 : decode cX9_rank 73 = .ok (.getfield 33, 3) := by decide +kernel
theorem dX9_rank_76 : decode cX9_rank 76 = .ok (.iload_n 3, 1) := by decide +kernel
theorem dX9_rank_77 : decode cX9_rank 77 = .ok (.iload_n 1, 1) := by decide +kernel
theorem dX9_rank_78 : decode cX9_rank 78 = .ok (.invokevirtual 270, 3) := by decide +kernel
theorem dX9_rank_81 : decode cX9_rank 81 = .ok (.ifCond .eq 6, 3) := by decide +kernel
theorem dX9_rank_84 : decode cX9_rank 84 = .ok (.iinc 2 1, 3) := by decide +kernel
theorem dX9_rank_87 : decode cX9_rank 87 = .ok (.iinc 3 1, 3) := by decide +kernel
theorem dX9_rank_90 : decode cX9_rank 90 = .ok (.goto (-61), 3) := by decide +kernel
theorem dX9_rank_93 : decode cX9_rank 93 = .ok (.iload_n 2, 1) := by decide +kernel
theorem dX9_rank_94 : decode cX9_rank 94 = .ok (.ireturn, 1) := by decide +kernel
theorem dX9_ranked_0 : decode cX9_ranked 0 = .ok (.iload_n 1, 1) := by decide +kernel
theorem dX9_ranked_1 : decode cX9_ranked 1 = .ok (.iconst (-1), 1) := by decide +kernel
theorem dX9_ranked_2 : decode cX9_ranked 2 = .ok (.if_icmp .eq 8, 3) := by decide +kernel
theorem dX9_ranked_5 : decode cX9_ranked 5 = .ok (.aload_n 0, 1) := by decide +kernel
theorem dX9_ranked_6 : decode cX9_ranked 6 = .ok (.iload_n 1, 1) := by decide +kernel
theorem dX9_ranked_7 : decode cX9_ranked 7 = .ok (.invokevirtual 193, 3) := by decide +kernel
theorem dX9_ranked_10 : decode cX9_ranked 10 = .ok (.aload_n 0, 1) := by decide +kernel
theorem dX9_ranked_11 : decode cX9_ranked 11 = .ok (.getfield 33, 3) := by decide +kernel
theorem dX9_ranked_14 : decode cX9_ranked 14 = .ok (.aload_n 0, 1) := by decide +kernel
theorem dX9_ranked_15 : decode cX9_ranked 15 = .ok (.getfield 61, 3) := by decide +kernel
theorem dX9_ranked_18 : decode cX9_ranked 18 = .ok (.aload_n 0, 1) := by decide +kernel
theorem dX9_ranked_19 : decode cX9_ranked 19 = .ok (.getfield 19, 3) := by decide +kernel
theorem dX9_ranked_22 : decode cX9_ranked 22 = .ok (.invokevirtual 230, 3) := by decide +kernel
theorem dX9_ranked_25 : decode cX9_ranked 25 = .ok (.iconst 0, 1) := by decide +kernel
theorem dX9_ranked_26 : decode cX9_ranked 26 = .ok (.istore_n 3, 1) := by decide +kernel
theorem dX9_ranked_27 : decode cX9_ranked 27 = .ok (.iconst 0, 1) := by decide +kernel
theorem dX9_ranked_28 : decode cX9_ranked 28 = .ok (.istore 4, 2) := by decide +kernel
theorem dX9_ranked_30 : decode cX9_ranked 30 = .ok (.iload 4, 2) := by decide +kernel
theorem dX9_ranked_32 : decode cX9_ranked 32 = .ok (.aload_n 0, 1) := by decide +kernel
theorem dX9_ranked_33 : decode cX9_ranked 33 = .ok (.getfield 33, 3) := by decide +kernel
theorem dX9_ranked_36 : decode cX9_ranked 36 = .ok (.getfield 273, 3) := by decide +kernel
theorem dX9_ranked_39 : decode cX9_ranked 39 = .ok (.if_icmp .ge 51, 3) := by decide +kernel
theorem dX9_ranked_42 : decode cX9_ranked 42 = .ok (.aload_n 0, 1) := by decide +kernel
theorem dX9_ranked_43 : decode cX9_ranked 43 = .ok (.getfield 33, 3) := by decide +kernel
theorem dX9_ranked_46 : decode cX9_ranked 46 = .ok (.getfield 274, 3) := by decide +kernel
theorem dX9_ranked_49 : decode cX9_ranked 49 = .ok (.iload 4, 2) := by decide +kernel
theorem dX9_ranked_51 : decode cX9_ranked 51 = .ok (.iaload, 1) := by decide +kernel
theorem dX9_ranked_52 : decode cX9_ranked 52 = .ok (.istore 5, 2) := by decide +kernel
theorem dX9_ranked_54 : decode cX9_ranked 54 = .ok (.iload_n 1, 1) := by decide +kernel
theorem dX9_ranked_55 : decode cX9_ranked 55 = .ok (.iconst (-1), 1) := by decide +kernel
theorem dX9_ranked_56 : decode cX9_ranked 56 = .ok (.if_icmp .eq 17, 3) := by decide +kernel
theorem dX9_ranked_59 : decode cX9_ranked 59 = .ok (.aload_n 0, 1) := by decide +kernel
theorem dX9_ranked_60 : decode cX9_ranked 60 = .ok (.getfield 61, 3) := by decide +kernel
theorem dX9_ranked_63 : decode cX9_ranked 63 = .ok (.getfield 196, 3) := by decide +kernel
theorem dX9_ranked_66 : decode cX9_ranked 66 = .ok (.iload 5, 2) := by decide +kernel
theorem dX9_ranked_68 : decode cX9_ranked 68 = .ok (.iaload, 1) := by decide +kernel
theorem dX9_ranked_69 : decode cX9_ranked 69 = .ok (.iload_n 1, 1) := by decide +kernel
theorem dX9_ranked_70 : decode cX9_ranked 70 = .ok (.if_icmp .ne 14, 3) := by decide +kernel
theorem dX9_ranked_73 : decode cX9_ranked 73 = .ok (.iload_n 3, 1) := by decide +kernel
theorem dX9_ranked_74 : decode cX9_ranked 74 = .ok (.iload_n 2, 1) := by decide +kernel
theorem dX9_ranked_75 : decode cX9_ranked 75 = .ok (.if_icmp .ne 6, 3) := by decide +kernel
theorem dX9_ranked_78 : decode cX9_ranked 78 = .ok (.iload 5, 2) := by decide +kernel
theorem dX9_ranked_80 : decode cX9_ranked 80 = .ok (.ireturn, 1) := by decide +kernel
theorem dX9_ranked_81 : decode cX9_ranked 81 = .ok (.iinc 3 1, 3) := by decide +kernel
theorem dX9_ranked_84 : decode cX9_ranked 84 = .ok (.iinc 4 1, 3) := by decide +kernel
theorem dX9_ranked_87 : decode cX9_ranked 87 = .ok (.goto (-57), 3) := by decide +kernel
theorem dX9_ranked_90 : decode cX9_ranked 90 = .ok (.new 83, 3) := by decide +kernel
theorem dX9_ranked_93 : decode cX9_ranked 93 = .ok (.dup, 1) := by decide +kernel
theorem dX9_ranked_94 : decode cX9_ranked 94 = .ok (.ldc_w 277, 3) := by decide +kernel
theorem dX9_ranked_97 : decode cX9_ranked 97 = .ok (.invokespecial 87, 3) := by decide +kernel
theorem dX9_ranked_100 : decode cX9_ranked 100 = .ok (.athrow, 1) := by decide +kernel
theorem dX9_tieRound_0 : decode cX9_tieRound 0 = .ok (.aload_n 0, 1) := by decide +kernel
theorem dX9_tieRound_1 : decode cX9_tieRound 1 = .ok (.iload_n 1, 1) := by decide +kernel
theorem dX9_tieRound_2 : decode cX9_tieRound 2 = .ok (.invokevirtual 204, 3) := by decide +kernel
theorem dX9_tieRound_5 : decode cX9_tieRound 5 = .ok (.aload_n 0, 1) := by decide +kernel
theorem dX9_tieRound_6 : decode cX9_tieRound 6 = .ok (.iload_n 2, 1) := by decide +kernel
theorem dX9_tieRound_7 : decode cX9_tieRound 7 = .ok (.invokevirtual 204, 3) := by decide +kernel
theorem dX9_tieRound_10 : decode cX9_tieRound 10 = .ok (.iload_n 1, 1) := by decide +kernel
theorem dX9_tieRound_11 : decode cX9_tieRound 11 = .ok (.iload_n 2, 1) := by decide +kernel
theorem dX9_tieRound_12 : decode cX9_tieRound 12 = .ok (.if_icmp .ne 14, 3) := by decide +kernel
theorem dX9_tieRound_15 : decode cX9_tieRound 15 = .ok (.new 92, 3) := by decide +kernel
theorem dX9_tieRound_18 : decode cX9_tieRound 18 = .ok (.dup, 1) := by decide +kernel
theorem dX9_tieRound_19 : decode cX9_tieRound 19 = .ok (.ldc_w 279, 3) := by decide +kernel
theorem dX9_tieRound_22 : decode cX9_tieRound 22 = .ok (.invokespecial 96, 3) := by decide +kernel
theorem dX9_tieRound_25 : decode cX9_tieRound 25 = .ok (.athrow, 1) := by decide +kernel
theorem dX9_tieRound_26 : decode cX9_tieRound 26 = .ok (.aload_n 0, 1) := by decide +kernel
theorem dX9_tieRound_27 : decode cX9_tieRound 27 = .ok (.getfield 33, 3) := by decide +kernel
theorem dX9_tieRound_30 : decode cX9_tieRound 30 = .ok (.aload_n 0, 1) := by decide +kernel
theorem dX9_tieRound_31 : decode cX9_tieRound 31 = .ok (.getfield 61, 3) := by decide +kernel
theorem dX9_tieRound_34 : decode cX9_tieRound 34 = .ok (.aload_n 0, 1) := by decide +kernel
theorem dX9_tieRound_35 : decode cX9_tieRound 35 = .ok (.getfield 19, 3) := by decide +kernel
theorem dX9_tieRound_38 : decode cX9_tieRound 38 = .ok (.invokevirtual 230, 3) := by decide +kernel
theorem dX9_tieRound_41 : decode cX9_tieRound 41 = .ok (.aload_n 0, 1) := by decide +kernel
theorem dX9_tieRound_42 : decode cX9_tieRound 42 = .ok (.iload_n 1, 1) := by decide +kernel
theorem dX9_tieRound_43 : decode cX9_tieRound 43 = .ok (.invokevirtual 237, 3) := by decide +kernel
theorem dX9_tieRound_46 : decode cX9_tieRound 46 = .ok (.aload_n 0, 1) := by decide +kernel
theorem dX9_tieRound_47 : decode cX9_tieRound 47 = .ok (.iload_n 2, 1) := by decide +kernel
theorem dX9_tieRound_48 : decode cX9_tieRound 48 = .ok (.invokevirtual 237, 3) := by decide +kernel
theorem dX9_tieRound_51 : decode cX9_tieRound 51 = .ok (.aload_n 0, 1) := by decide +kernel
theorem dX9_tieRound_52 : decode cX9_tieRound 52 = .ok (.getfield 33, 3) := by decide +kernel
theorem dX9_tieRound_55 : decode cX9_tieRound 55 = .ok (.iload_n 1, 1) := by decide +kernel
theorem dX9_tieRound_56 : decode cX9_tieRound 56 = .ok (.iload_n 2, 1) := by decide +kernel
theorem dX9_tieRound_57 : decode cX9_tieRound 57 = .ok (.invokevirtual 281, 3) := by decide +kernel
theorem dX9_tieRound_60 : decode cX9_tieRound 60 = .ok (.ireturn, 1) := by decide +kernel
theorem dX9_setLine_0 : decode cX9_setLine 0 = .ok (.iload_n 1, 1) := by decide +kernel
theorem dX9_setLine_1 : decode cX9_setLine 1 = .ok (.ifCond .lt 10, 3) := by decide +kernel
theorem dX9_setLine_4 : decode cX9_setLine 4 = .ok (.iload_n 1, 1) := by decide +kernel
theorem dX9_setLine_5 : decode cX9_setLine 5 = .ok (.ldc_w 284, 3) := by decide +kernel
theorem dX9_setLine_8 : decode cX9_setLine 8 = .ok (.if_icmp .le 14, 3) := by decide +kernel
theorem dX9_setLine_11 : decode cX9_setLine 11 = .ok (.new 92, 3) := by decide +kernel
theorem dX9_setLine_14 : decode cX9_setLine 14 = .ok (.dup, 1) := by decide +kernel
theorem dX9_setLine_15 : decode cX9_setLine 15 = .ok (.ldc_w 285, 3) := by decide +kernel
theorem dX9_setLine_18 : decode cX9_setLine 18 = .ok (.invokespecial 96, 3) := by decide +kernel
theorem dX9_setLine_21 : decode cX9_setLine 21 = .ok (.athrow, 1) := by decide +kernel
theorem dX9_setLine_22 : decode cX9_setLine 22 = .ok (.aload_n 0, 1) := by decide +kernel
theorem dX9_setLine_23 : decode cX9_setLine 23 = .ok (.getfield 26, 3) := by decide +kernel
theorem dX9_setLine_26 : decode cX9_setLine 26 = .ok (.aload_n 0, 1) := by decide +kernel
theorem dX9_setLine_27 : decode cX9_setLine 27 = .ok (.getfield 19, 3) := by decide +kernel
theorem dX9_setLine_30 : decode cX9_setLine 30 = .ok (.invokevirtual 158, 3) := by decide +kernel
theorem dX9_setLine_33 : decode cX9_setLine 33 = .ok (.aload_n 0, 1) := by decide +kernel
theorem dX9_setLine_34 : decode cX9_setLine 34 = .ok (.getfield 19, 3) := by decide +kernel
theorem dX9_setLine_37 : decode cX9_setLine 37 = .ok (.getfield 287, 3) := by decide +kernel
theorem dX9_setLine_40 : decode cX9_setLine 40 = .ok (.istore_n 2, 1) := by decide +kernel
theorem dX9_setLine_41 : decode cX9_setLine 41 = .ok (.aload_n 0, 1) := by decide +kernel
theorem dX9_setLine_42 : decode cX9_setLine 42 = .ok (.getfield 19, 3) := by decide +kernel
theorem dX9_setLine_45 : decode cX9_setLine 45 = .ok (.iload_n 1, 1) := by decide +kernel
theorem dX9_setLine_46 : decode cX9_setLine 46 = .ok (.putfield 287, 3) := by decide +kernel
theorem dX9_setLine_49 : decode cX9_setLine 49 = .ok (.iload_n 2, 1) := by decide +kernel
theorem dX9_setLine_50 : decode cX9_setLine 50 = .ok (.ireturn, 1) := by decide +kernel
theorem dX9_amount_0 : decode cX9_amount 0 = .ok (.iload_n 1, 1) := by decide +kernel
theorem dX9_amount_1 : decode cX9_amount 1 = .ok (.invokestatic 290, 3) := by decide +kernel
theorem dX9_amount_4 : decode cX9_amount 4 = .ok (.aload_n 0, 1) := by decide +kernel
theorem dX9_amount_5 : decode cX9_amount 5 = .ok (.iload_n 2, 1) := by decide +kernel
theorem dX9_amount_6 : decode cX9_amount 6 = .ok (.invokevirtual 204, 3) := by decide +kernel
theorem dX9_amount_9 : decode cX9_amount 9 = .ok (.aload_n 0, 1) := by decide +kernel
theorem dX9_amount_10 : decode cX9_amount 10 = .ok (.iload_n 1, 1) := by decide +kernel
theorem dX9_amount_11 : decode cX9_amount 11 = .ok (.invokevirtual 293, 3) := by decide +kernel
theorem dX9_amount_14 : decode cX9_amount 14 = .ok (.aload_n 0, 1) := by decide +kernel
theorem dX9_amount_15 : decode cX9_amount 15 = .ok (.getfield 40, 3) := by decide +kernel
theorem dX9_amount_18 : decode cX9_amount 18 = .ok (.getfield 296, 3) := by decide +kernel
theorem dX9_amount_21 : decode cX9_amount 21 = .ok (.iload_n 2, 1) := by decide +kernel
theorem dX9_amount_22 : decode cX9_amount 22 = .ok (.iaload, 1) := by decide +kernel
theorem dX9_amount_23 : decode cX9_amount 23 = .ok (.ireturn, 1) := by decide +kernel
theorem dX9_left_0 : decode cX9_left 0 = .ok (.iload_n 1, 1) := by decide +kernel
theorem dX9_left_1 : decode cX9_left 1 = .ok (.invokestatic 290, 3) := by decide +kernel
theorem dX9_left_4 : decode cX9_left 4 = .ok (.aload_n 0, 1) := by decide +kernel
theorem dX9_left_5 : decode cX9_left 5 = .ok (.iload_n 2, 1) := by decide +kernel
theorem dX9_left_6 : decode cX9_left 6 = .ok (.invokevirtual 193, 3) := by decide +kernel
theorem dX9_left_9 : decode cX9_left 9 = .ok (.aload_n 0, 1) := by decide +kernel
theorem dX9_left_10 : decode cX9_left 10 = .ok (.iload_n 1, 1) := by decide +kernel
theorem dX9_left_11 : decode cX9_left 11 = .ok (.invokevirtual 293, 3) := by decide +kernel
theorem dX9_left_14 : decode cX9_left 14 = .ok (.aload_n 0, 1) := by decide +kernel
theorem dX9_left_15 : decode cX9_left 15 = .ok (.getfield 40, 3) := by decide +kernel
theorem dX9_left_18 : decode cX9_left 18 = .ok (.getfield 299, 3) := by decide +kernel
theorem dX9_left_21 : decode cX9_left 21 = .ok (.iload_n 2, 1) := by decide +kernel
theorem dX9_left_22 : decode cX9_left 22 = .ok (.iaload, 1) := by decide +kernel
theorem dX9_left_23 : decode cX9_left 23 = .ok (.ireturn, 1) := by decide +kernel
theorem dX9_poolLeft_0 : decode cX9_poolLeft 0 = .ok (.iload_n 1, 1) := by decide +kernel
theorem dX9_poolLeft_1 : decode cX9_poolLeft 1 = .ok (.invokestatic 290, 3) := by decide +kernel
theorem dX9_poolLeft_4 : decode cX9_poolLeft 4 = .ok (.aload_n 0, 1) := by decide +kernel
theorem dX9_poolLeft_5 : decode cX9_poolLeft 5 = .ok (.iload_n 1, 1) := by decide +kernel
theorem dX9_poolLeft_6 : decode cX9_poolLeft 6 = .ok (.invokevirtual 293, 3) := by decide +kernel
theorem dX9_poolLeft_9 : decode cX9_poolLeft 9 = .ok (.aload_n 0, 1) := by decide +kernel
theorem dX9_poolLeft_10 : decode cX9_poolLeft 10 = .ok (.getfield 40, 3) := by decide +kernel
theorem dX9_poolLeft_13 : decode cX9_poolLeft 13 = .ok (.getfield 302, 3) := by decide +kernel
theorem dX9_poolLeft_16 : decode cX9_poolLeft 16 = .ok (.ireturn, 1) := by decide +kernel
theorem dX9_funded_0 : decode cX9_funded 0 = .ok (.iload_n 1, 1) := by decide +kernel
theorem dX9_funded_1 : decode cX9_funded 1 = .ok (.invokestatic 290, 3) := by decide +kernel
theorem dX9_funded_4 : decode cX9_funded 4 = .ok (.aload_n 0, 1) := by decide +kernel
theorem dX9_funded_5 : decode cX9_funded 5 = .ok (.iload_n 1, 1) := by decide +kernel
theorem dX9_funded_6 : decode cX9_funded 6 = .ok (.invokevirtual 293, 3) := by decide +kernel
theorem dX9_funded_9 : decode cX9_funded 9 = .ok (.aload_n 0, 1) := by decide +kernel
theorem dX9_funded_10 : decode cX9_funded 10 = .ok (.getfield 40, 3) := by decide +kernel
theorem dX9_funded_13 : decode cX9_funded 13 = .ok (.aload_n 0, 1) := by decide +kernel
theorem dX9_funded_14 : decode cX9_funded 14 = .ok (.getfield 61, 3) := by decide +kernel
theorem dX9_funded_17 : decode cX9_funded 17 = .ok (.getfield 104, 3) := by decide +kernel
theorem dX9_funded_20 : decode cX9_funded 20 = .ok (.invokevirtual 305, 3) := by decide +kernel
theorem dX9_funded_23 : decode cX9_funded 23 = .ok (.ireturn, 1) := by decide +kernel
theorem dX9_bestSum_0 : decode cX9_bestSum 0 = .ok (.aload_n 0, 1) := by decide +kernel
theorem dX9_bestSum_1 : decode cX9_bestSum 1 = .ok (.iload_n 1, 1) := by decide +kernel
theorem dX9_bestSum_2 : decode cX9_bestSum 2 = .ok (.invokevirtual 193, 3) := by decide +kernel
theorem dX9_bestSum_5 : decode cX9_bestSum 5 = .ok (.aload_n 0, 1) := by decide +kernel
theorem dX9_bestSum_6 : decode cX9_bestSum 6 = .ok (.getfield 33, 3) := by decide +kernel
theorem dX9_bestSum_9 : decode cX9_bestSum 9 = .ok (.aload_n 0, 1) := by decide +kernel
theorem dX9_bestSum_10 : decode cX9_bestSum 10 = .ok (.getfield 61, 3) := by decide +kernel
theorem dX9_bestSum_13 : decode cX9_bestSum 13 = .ok (.aload_n 0, 1) := by decide +kernel
theorem dX9_bestSum_14 : decode cX9_bestSum 14 = .ok (.getfield 19, 3) := by decide +kernel
theorem dX9_bestSum_17 : decode cX9_bestSum 17 = .ok (.invokevirtual 230, 3) := by decide +kernel
theorem dX9_bestSum_20 : decode cX9_bestSum 20 = .ok (.aload_n 0, 1) := by decide +kernel
theorem dX9_bestSum_21 : decode cX9_bestSum 21 = .ok (.getfield 54, 3) := by decide +kernel
theorem dX9_bestSum_24 : decode cX9_bestSum 24 = .ok (.invokevirtual 308, 3) := by decide +kernel
theorem dX9_bestSum_27 : decode cX9_bestSum 27 = .ok (.iconst 0, 1) := by decide +kernel
theorem dX9_bestSum_28 : decode cX9_bestSum 28 = .ok (.istore_n 2, 1) := by decide +kernel
theorem dX9_bestSum_29 : decode cX9_bestSum 29 = .ok (.iload_n 2, 1) := by decide +kernel
theorem dX9_bestSum_30 : decode cX9_bestSum 30 = .ok (.aload_n 0, 1) := by decide +kernel
theorem dX9_bestSum_31 : decode cX9_bestSum 31 = .ok (.getfield 33, 3) := by decide +kernel
theorem dX9_bestSum_34 : decode cX9_bestSum 34 = .ok (.getfield 273, 3) := by decide +kernel
theorem dX9_bestSum_37 : decode cX9_bestSum 37 = .ok (.if_icmp .ge 76, 3) := by decide +kernel
theorem dX9_bestSum_40 : decode cX9_bestSum 40 = .ok (.aload_n 0, 1) := by decide +kernel
theorem dX9_bestSum_41 : decode cX9_bestSum 41 = .ok (.getfield 33, 3) := by decide +kernel
theorem dX9_bestSum_44 : decode cX9_bestSum 44 = .ok (.getfield 274, 3) := by decide +kernel
theorem dX9_bestSum_47 : decode cX9_bestSum 47 = .ok (.iload_n 2, 1) := by decide +kernel
theorem dX9_bestSum_48 : decode cX9_bestSum 48 = .ok (.iaload, 1) := by decide +kernel
theorem dX9_bestSum_49 : decode cX9_bestSum 49 = .ok (.istore_n 3, 1) := by decide +kernel
theorem dX9_bestSum_50 : decode cX9_bestSum 50 = .ok (.aload_n 0, 1) := by decide +kernel
theorem dX9_bestSum_51 : decode cX9_bestSum 51 = .ok (.getfield 61, 3) := by decide +kernel
theorem dX9_bestSum_54 : decode cX9_bestSum 54 = .ok (.getfield 196, 3) := by decide +kernel
theorem dX9_bestSum_57 : decode cX9_bestSum 57 = .ok (.iload_n 3, 1) := by decide +kernel
theorem dX9_bestSum_58 : decode cX9_bestSum 58 = .ok (.iaload, 1) := by decide +kernel
theorem dX9_bestSum_59 : decode cX9_bestSum 59 = .ok (.iload_n 1, 1) := by decide +kernel
theorem dX9_bestSum_60 : decode cX9_bestSum 60 = .ok (.if_icmp .ne 47, 3) := by decide +kernel
theorem dX9_bestSum_63 : decode cX9_bestSum 63 = .ok (.aload_n 0, 1) := by decide +kernel
theorem dX9_bestSum_64 : decode cX9_bestSum 64 = .ok (.getfield 33, 3) := by decide +kernel
theorem dX9_bestSum_67 : decode cX9_bestSum 67 = .ok (.getfield 240, 3) := by decide +kernel
theorem dX9_bestSum_70 : decode cX9_bestSum 70 = .ok (.iload_n 3, 1) := by decide +kernel
theorem dX9_bestSum_71 : decode cX9_bestSum 71 = .ok (.iaload, 1) := by decide +kernel
theorem dX9_bestSum_72 : decode cX9_bestSum 72 = .ok (.aload_n 0, 1) := by decide +kernel
theorem dX9_bestSum_73 : decode cX9_bestSum 73 = .ok (.getfield 19, 3) := by decide +kernel
theorem dX9_bestSum_76 : decode cX9_bestSum 76 = .ok (.getfield 287, 3) := by decide +kernel
theorem dX9_bestSum_79 : decode cX9_bestSum 79 = .ok (.if_icmp .lt 28, 3) := by decide +kernel
theorem dX9_bestSum_82 : decode cX9_bestSum 82 = .ok (.aload_n 0, 1) := by decide +kernel
theorem dX9_bestSum_83 : decode cX9_bestSum 83 = .ok (.getfield 54, 3) := by decide +kernel
theorem dX9_bestSum_86 : decode cX9_bestSum 86 = .ok (.aload_n 0, 1) := by decide +kernel
theorem dX9_bestSum_87 : decode cX9_bestSum 87 = .ok (.getfield 61, 3) := by decide +kernel
theorem dX9_bestSum_90 : decode cX9_bestSum 90 = .ok (.getfield 309, 3) := by decide +kernel
theorem dX9_bestSum_93 : decode cX9_bestSum 93 = .ok (.iload_n 3, 1) := by decide +kernel
theorem dX9_bestSum_94 : decode cX9_bestSum 94 = .ok (.iaload, 1) := by decide +kernel
theorem dX9_bestSum_95 : decode cX9_bestSum 95 = .ok (.aload_n 0, 1) := by decide +kernel
theorem dX9_bestSum_96 : decode cX9_bestSum 96 = .ok (.getfield 33, 3) := by decide +kernel
theorem dX9_bestSum_99 : decode cX9_bestSum 99 = .ok (.getfield 240, 3) := by decide +kernel
theorem dX9_bestSum_102 : decode cX9_bestSum 102 = .ok (.iload_n 3, 1) := by decide +kernel
theorem dX9_bestSum_103 : decode cX9_bestSum 103 = .ok (.iaload, 1) := by decide +kernel
theorem dX9_bestSum_104 : decode cX9_bestSum 104 = .ok (.invokevirtual 312, 3) := by decide +kernel
theorem dX9_bestSum_107 : decode cX9_bestSum 107 = .ok (.iinc 2 1, 3) := by decide +kernel
theorem dX9_bestSum_110 : decode cX9_bestSum 110 = .ok (.goto (-81), 3) := by decide +kernel
theorem dX9_bestSum_113 : decode cX9_bestSum 113 = .ok (.aload_n 0, 1) := by decide +kernel
theorem dX9_bestSum_114 : decode cX9_bestSum 114 = .ok (.getfield 54, 3) := by decide +kernel
theorem dX9_bestSum_117 : decode cX9_bestSum 117 = .ok (.aload_n 0, 1) := by decide +kernel
theorem dX9_bestSum_118 : decode cX9_bestSum 118 = .ok (.getfield 61, 3) := by decide +kernel
theorem dX9_bestSum_121 : decode cX9_bestSum 121 = .ok (.getfield 315, 3) := by decide +kernel
theorem dX9_bestSum_124 : decode cX9_bestSum 124 = .ok (.iload_n 1, 1) := by decide +kernel
theorem dX9_bestSum_125 : decode cX9_bestSum 125 = .ok (.iaload, 1) := by decide +kernel
theorem dX9_bestSum_126 : decode cX9_bestSum 126 = .ok (.invokevirtual 318, 3) := by decide +kernel
theorem dX9_bestSum_129 : decode cX9_bestSum 129 = .ok (.ireturn, 1) := by decide +kernel
theorem dX9_lineFor_0 : decode cX9_lineFor 0 = .ok (.iload_n 1, 1) := by decide +kernel
theorem dX9_lineFor_1 : decode cX9_lineFor 1 = .ok (.invokestatic 290, 3) := by decide +kernel
theorem dX9_lineFor_4 : decode cX9_lineFor 4 = .ok (.iload_n 2, 1) := by decide +kernel
theorem dX9_lineFor_5 : decode cX9_lineFor 5 = .ok (.iconst 1, 1) := by decide +kernel
theorem dX9_lineFor_6 : decode cX9_lineFor 6 = .ok (.if_icmp .lt 9, 3) := by decide +kernel
theorem dX9_lineFor_9 : decode cX9_lineFor 9 = .ok (.iload_n 2, 1) := by decide +kernel
theorem dX9_lineFor_10 : decode cX9_lineFor 10 = .ok (.bipush 16, 2) := by decide +kernel
theorem dX9_lineFor_12 : decode cX9_lineFor 12 = .ok (.if_icmp .le 14, 3) := by decide +kernel
theorem dX9_lineFor_15 : decode cX9_lineFor 15 = .ok (.new 92, 3) := by decide +kernel
theorem dX9_lineFor_18 : decode cX9_lineFor 18 = .ok (.dup, 1) := by decide +kernel
theorem dX9_lineFor_19 : decode cX9_lineFor 19 = .ok (.ldc_w 321, 3) := by decide +kernel
theorem dX9_lineFor_22 : decode cX9_lineFor 22 = .ok (.invokespecial 96, 3) := by decide +kernel
theorem dX9_lineFor_25 : decode cX9_lineFor 25 = .ok (.athrow, 1) := by decide +kernel
theorem dX9_lineFor_26 : decode cX9_lineFor 26 = .ok (.aload_n 0, 1) := by decide +kernel
theorem dX9_lineFor_27 : decode cX9_lineFor 27 = .ok (.getfield 33, 3) := by decide +kernel
theorem dX9_lineFor_30 : decode cX9_lineFor 30 = .ok (.aload_n 0, 1) := by decide +kernel
theorem dX9_lineFor_31 : decode cX9_lineFor 31 = .ok (.getfield 61, 3) := by decide +kernel
theorem dX9_lineFor_34 : decode cX9_lineFor 34 = .ok (.aload_n 0, 1) := by decide +kernel
theorem dX9_lineFor_35 : decode cX9_lineFor 35 = .ok (.getfield 19, 3) := by decide +kernel
theorem dX9_lineFor_38 : decode cX9_lineFor 38 = .ok (.invokevirtual 230, 3) := by decide +kernel
theorem dX9_lineFor_41 : decode cX9_lineFor 41 = .ok (.iconst 0, 1) := by decide +kernel
theorem dX9_lineFor_42 : decode cX9_lineFor 42 = .ok (.istore_n 3, 1) := by decide +kernel
theorem dX9_lineFor_43 : decode cX9_lineFor 43 = .ok (.iload_n 3, 1) := by decide +kernel
theorem dX9_lineFor_44 : decode cX9_lineFor 44 = .ok (.aload_n 0, 1) := by decide +kernel
theorem dX9_lineFor_45 : decode cX9_lineFor 45 = .ok (.getfield 33, 3) := by decide +kernel
theorem dX9_lineFor_48 : decode cX9_lineFor 48 = .ok (.getfield 273, 3) := by decide +kernel
theorem dX9_lineFor_51 : decode cX9_lineFor 51 = .ok (.if_icmp .ge 83, 3) := by decide +kernel
theorem dX9_lineFor_54 : decode cX9_lineFor 54 = .ok (.aload_n 0, 1) := by decide +kernel
theorem dX9_lineFor_55 : decode cX9_lineFor 55 = .ok (.getfield 33, 3) := by decide +kernel
theorem dX9_lineFor_58 : decode cX9_lineFor 58 = .ok (.getfield 240, 3) := by decide +kernel
theorem dX9_lineFor_61 : decode cX9_lineFor 61 = .ok (.aload_n 0, 1) := by decide +kernel
theorem dX9_lineFor_62 : decode cX9_lineFor 62 = .ok (.getfield 33, 3) := by decide +kernel
theorem dX9_lineFor_65 : decode cX9_lineFor 65 = .ok (.getfield 274, 3) := by decide +kernel
theorem dX9_lineFor_68 : decode cX9_lineFor 68 = .ok (.iload_n 3, 1) := by decide +kernel
theorem dX9_lineFor_69 : decode cX9_lineFor 69 = .ok (.iaload, 1) := by decide +kernel
theorem dX9_lineFor_70 : decode cX9_lineFor 70 = .ok (.iaload, 1) := by decide +kernel
theorem dX9_lineFor_71 : decode cX9_lineFor 71 = .ok (.ldc_w 284, 3) := by decide +kernel
theorem dX9_lineFor_74 : decode cX9_lineFor 74 = .ok (.invokestatic 323, 3) := by decide +kernel
theorem dX9_lineFor_77 : decode cX9_lineFor 77 = .ok (.istore 4, 2) := by decide +kernel
theorem dX9_lineFor_79 : decode cX9_lineFor 79 = .ok (.iload 4, 2) := by decide +kernel
theorem dX9_lineFor_81 : decode cX9_lineFor 81 = .ok (.ifCond .ge 5, 3) := by decide +kernel
theorem dX9_lineFor_84 : decode cX9_lineFor 84 = .ok (.iconst (-1), 1) := by decide +kernel
theorem dX9_lineFor_85 : decode cX9_lineFor 85 = .ok (.ireturn, 1) := by decide +kernel
theorem dX9_lineFor_86 : decode cX9_lineFor 86 = .ok (.aload_n 0, 1) := by decide +kernel
theorem dX9_lineFor_87 : decode cX9_lineFor 87 = .ok (.getfield 40, 3) := by decide +kernel
theorem dX9_lineFor_90 : decode cX9_lineFor 90 = .ok (.aload_n 0, 1) := by decide +kernel
theorem dX9_lineFor_91 : decode cX9_lineFor 91 = .ok (.getfield 61, 3) := by decide +kernel
theorem dX9_lineFor_94 : decode cX9_lineFor 94 = .ok (.aload_n 0, 1) := by decide +kernel
theorem dX9_lineFor_95 : decode cX9_lineFor 95 = .ok (.getfield 33, 3) := by decide +kernel
theorem dX9_lineFor_98 : decode cX9_lineFor 98 = .ok (.iload_n 1, 1) := by decide +kernel
theorem dX9_lineFor_99 : decode cX9_lineFor 99 = .ok (.iload 4, 2) := by decide +kernel
theorem dX9_lineFor_101 : decode cX9_lineFor 101 = .ok (.invokevirtual 326, 3) := by decide +kernel
theorem dX9_lineFor_104 : decode cX9_lineFor 104 = .ok (.aload_n 0, 1) := by decide +kernel
theorem dX9_lineFor_105 : decode cX9_lineFor 105 = .ok (.getfield 40, 3) := by decide +kernel
theorem dX9_lineFor_108 : decode cX9_lineFor 108 = .ok (.aload_n 0, 1) := by decide +kernel
theorem dX9_lineFor_109 : decode cX9_lineFor 109 = .ok (.getfield 61, 3) := by decide +kernel
theorem dX9_lineFor_112 : decode cX9_lineFor 112 = .ok (.getfield 104, 3) := by decide +kernel
theorem dX9_lineFor_115 : decode cX9_lineFor 115 = .ok (.invokevirtual 305, 3) := by decide +kernel
theorem dX9_lineFor_118 : decode cX9_lineFor 118 = .ok (.invokestatic 132, 3) := by decide +kernel
theorem dX9_lineFor_121 : decode cX9_lineFor 121 = .ok (.iload_n 2, 1) := by decide +kernel
theorem dX9_lineFor_122 : decode cX9_lineFor 122 = .ok (.if_icmp .lt 6, 3) := by decide +kernel
theorem dX9_lineFor_125 : decode cX9_lineFor 125 = .ok (.iload 4, 2) := by decide +kernel
theorem dX9_lineFor_127 : decode cX9_lineFor 127 = .ok (.ireturn, 1) := by decide +kernel
theorem dX9_lineFor_128 : decode cX9_lineFor 128 = .ok (.iinc 3 1, 3) := by decide +kernel
theorem dX9_lineFor_131 : decode cX9_lineFor 131 = .ok (.goto (-88), 3) := by decide +kernel
theorem dX9_lineFor_134 : decode cX9_lineFor 134 = .ok (.iconst (-1), 1) := by decide +kernel
theorem dX9_lineFor_135 : decode cX9_lineFor 135 = .ok (.ireturn, 1) := by decide +kernel
theorem dX9_appeal_0 : decode cX9_appeal 0 = .ok (.aload_n 0, 1) := by decide +kernel
theorem dX9_appeal_1 : decode cX9_appeal 1 = .ok (.iload_n 1, 1) := by decide +kernel
theorem dX9_appeal_2 : decode cX9_appeal 2 = .ok (.iload_n 2, 1) := by decide +kernel
theorem dX9_appeal_3 : decode cX9_appeal 3 = .ok (.invokevirtual 140, 3) := by decide +kernel
theorem dX9_appeal_6 : decode cX9_appeal 6 = .ok (.aload_n 0, 1) := by decide +kernel
theorem dX9_appeal_7 : decode cX9_appeal 7 = .ok (.iload_n 1, 1) := by decide +kernel
theorem dX9_appeal_8 : decode cX9_appeal 8 = .ok (.iload_n 2, 1) := by decide +kernel
theorem dX9_appeal_9 : decode cX9_appeal 9 = .ok (.invokevirtual 227, 3) := by decide +kernel
theorem dX9_appeal_12 : decode cX9_appeal 12 = .ok (.iconst 0, 1) := by decide +kernel
theorem dX9_appeal_13 : decode cX9_appeal 13 = .ok (.istore_n 3, 1) := by decide +kernel
theorem dX9_appeal_14 : decode cX9_appeal 14 = .ok (.iconst 0, 1) := by decide +kernel
theorem dX9_appeal_15 : decode cX9_appeal 15 = .ok (.istore 4, 2) := by decide +kernel
theorem dX9_appeal_17 : decode cX9_appeal 17 = .ok (.iconst 0, 1) := by decide +kernel
theorem dX9_appeal_18 : decode cX9_appeal 18 = .ok (.istore 5, 2) := by decide +kernel
theorem dX9_appeal_20 : decode cX9_appeal 20 = .ok (.iload 5, 2) := by decide +kernel
theorem dX9_appeal_22 : decode cX9_appeal 22 = .ok (.aload_n 0, 1) := by decide +kernel
theorem dX9_appeal_23 : decode cX9_appeal 23 = .ok (.getfield 61, 3) := by decide +kernel
theorem dX9_appeal_26 : decode cX9_appeal 26 = .ok (.getfield 116, 3) := by decide +kernel
theorem dX9_appeal_29 : decode cX9_appeal 29 = .ok (.if_icmp .ge 46, 3) := by decide +kernel
theorem dX9_appeal_32 : decode cX9_appeal 32 = .ok (.iload 5, 2) := by decide +kernel
theorem dX9_appeal_34 : decode cX9_appeal 34 = .ok (.iload_n 1, 1) := by decide +kernel
theorem dX9_appeal_35 : decode cX9_appeal 35 = .ok (.if_icmp .eq 34, 3) := by decide +kernel
theorem dX9_appeal_38 : decode cX9_appeal 38 = .ok (.aload_n 0, 1) := by decide +kernel
theorem dX9_appeal_39 : decode cX9_appeal 39 = .ok (.getfield 19, 3) := by decide +kernel
theorem dX9_appeal_42 : decode cX9_appeal 42 = .ok (.iload 5, 2) := by decide +kernel
theorem dX9_appeal_44 : decode cX9_appeal 44 = .ok (.iload_n 2, 1) := by decide +kernel
theorem dX9_appeal_45 : decode cX9_appeal 45 = .ok (.invokevirtual 257, 3) := by decide +kernel
theorem dX9_appeal_48 : decode cX9_appeal 48 = .ok (.ifCond .eq 21, 3) := by decide +kernel
theorem dX9_appeal_51 : decode cX9_appeal 51 = .ok (.iinc 3 1, 3) := by decide +kernel
theorem dX9_appeal_54 : decode cX9_appeal 54 = .ok (.iload 4, 2) := by decide +kernel
theorem dX9_appeal_56 : decode cX9_appeal 56 = .ok (.aload_n 0, 1) := by decide +kernel
theorem dX9_appeal_57 : decode cX9_appeal 57 = .ok (.getfield 19, 3) := by decide +kernel
theorem dX9_appeal_60 : decode cX9_appeal 60 = .ok (.iload 5, 2) := by decide +kernel
theorem dX9_appeal_62 : decode cX9_appeal 62 = .ok (.iload_n 2, 1) := by decide +kernel
theorem dX9_appeal_63 : decode cX9_appeal 63 = .ok (.invokevirtual 190, 3) := by decide +kernel
theorem dX9_appeal_66 : decode cX9_appeal 66 = .ok (.iadd, 1) := by decide +kernel
theorem dX9_appeal_67 : decode cX9_appeal 67 = .ok (.istore 4, 2) := by decide +kernel
theorem dX9_appeal_69 : decode cX9_appeal 69 = .ok (.iinc 5 1, 3) := by decide +kernel
theorem dX9_appeal_72 : decode cX9_appeal 72 = .ok (.goto (-52), 3) := by decide +kernel
theorem dX9_appeal_75 : decode cX9_appeal 75 = .ok (.iload_n 3, 1) := by decide +kernel
theorem dX9_appeal_76 : decode cX9_appeal 76 = .ok (.ifCond .eq 14, 3) := by decide +kernel
theorem dX9_appeal_79 : decode cX9_appeal 79 = .ok (.aload_n 0, 1) := by decide +kernel
theorem dX9_appeal_80 : decode cX9_appeal 80 = .ok (.getfield 19, 3) := by decide +kernel
theorem dX9_appeal_83 : decode cX9_appeal 83 = .ok (.iload_n 2, 1) := by decide +kernel
theorem dX9_appeal_84 : decode cX9_appeal 84 = .ok (.invokevirtual 330, 3) := by decide +kernel
theorem dX9_appeal_87 : decode cX9_appeal 87 = .ok (.ifCond .eq 14, 3) := by decide +kernel
theorem dX9_appeal_90 : decode cX9_appeal 90 = .ok (.new 72, 3) := by decide +kernel
theorem dX9_appeal_93 : decode cX9_appeal 93 = .ok (.dup, 1) := by decide +kernel
theorem dX9_appeal_94 : decode cX9_appeal 94 = .ok (.ldc_w 333, 3) := by decide +kernel
theorem dX9_appeal_97 : decode cX9_appeal 97 = .ok (.invokespecial 76, 3) := by decide +kernel
theorem dX9_appeal_100 : decode cX9_appeal 100 = .ok (.athrow, 1) := by decide +kernel
theorem dX9_appeal_101 : decode cX9_appeal 101 = .ok (.iload_n 3, 1) := by decide +kernel
theorem dX9_appeal_102 : decode cX9_appeal 102 = .ok (.aload_n 0, 1) := by decide +kernel
theorem dX9_appeal_103 : decode cX9_appeal 103 = .ok (.getfield 19, 3) := by decide +kernel
theorem dX9_appeal_106 : decode cX9_appeal 106 = .ok (.iload_n 1, 1) := by decide +kernel
theorem dX9_appeal_107 : decode cX9_appeal 107 = .ok (.iload_n 2, 1) := by decide +kernel
theorem dX9_appeal_108 : decode cX9_appeal 108 = .ok (.invokevirtual 190, 3) := by decide +kernel
theorem dX9_appeal_111 : decode cX9_appeal 111 = .ok (.imul, 1) := by decide +kernel
theorem dX9_appeal_112 : decode cX9_appeal 112 = .ok (.iload 4, 2) := by decide +kernel
theorem dX9_appeal_114 : decode cX9_appeal 114 = .ok (.isub, 1) := by decide +kernel
theorem dX9_appeal_115 : decode cX9_appeal 115 = .ok (.invokestatic 260, 3) := by decide +kernel
theorem dX9_appeal_118 : decode cX9_appeal 118 = .ok (.istore 5, 2) := by decide +kernel
theorem dX9_appeal_120 : decode cX9_appeal 120 = .ok (.iload 5, 2) := by decide +kernel
theorem dX9_appeal_122 : decode cX9_appeal 122 = .ok (.iload_n 3, 1) := by decide +kernel
theorem dX9_appeal_123 : decode cX9_appeal 123 = .ok (.aload_n 0, 1) := by decide +kernel
theorem dX9_appeal_124 : decode cX9_appeal 124 = .ok (.getfield 61, 3) := by decide +kernel
theorem dX9_appeal_127 : decode cX9_appeal 127 = .ok (.getfield 335, 3) := by decide +kernel
theorem dX9_appeal_130 : decode cX9_appeal 130 = .ok (.imul, 1) := by decide +kernel
theorem dX9_appeal_131 : decode cX9_appeal 131 = .ok (.if_icmp .gt 5, 3) := by decide +kernel
theorem dX9_appeal_134 : decode cX9_appeal 134 = .ok (.iconst 0, 1) := by decide +kernel
theorem dX9_appeal_135 : decode cX9_appeal 135 = .ok (.ireturn, 1) := by decide +kernel
theorem dX9_appeal_136 : decode cX9_appeal 136 = .ok (.aload_n 0, 1) := by decide +kernel
theorem dX9_appeal_137 : decode cX9_appeal 137 = .ok (.getfield 26, 3) := by decide +kernel
theorem dX9_appeal_140 : decode cX9_appeal 140 = .ok (.aload_n 0, 1) := by decide +kernel
theorem dX9_appeal_141 : decode cX9_appeal 141 = .ok (.getfield 19, 3) := by decide +kernel
theorem dX9_appeal_144 : decode cX9_appeal 144 = .ok (.invokevirtual 158, 3) := by decide +kernel
theorem dX9_appeal_147 : decode cX9_appeal 147 = .ok (.aload_n 0, 1) := by decide +kernel
theorem dX9_appeal_148 : decode cX9_appeal 148 = .ok (.getfield 19, 3) := by decide +kernel
theorem dX9_appeal_151 : decode cX9_appeal 151 = .ok (.iload_n 1, 1) := by decide +kernel
theorem dX9_appeal_152 : decode cX9_appeal 152 = .ok (.iload_n 2, 1) := by decide +kernel
theorem dX9_appeal_153 : decode cX9_appeal 153 = .ok (.iconst 0, 1) := by decide +kernel
theorem dX9_appeal_154 : decode cX9_appeal 154 = .ok (.invokevirtual 184, 3) := by decide +kernel
theorem dX9_appeal_157 : decode cX9_appeal 157 = .ok (.aload_n 0, 1) := by decide +kernel
theorem dX9_appeal_158 : decode cX9_appeal 158 = .ok (.getfield 19, 3) := by decide +kernel
theorem dX9_appeal_161 : decode cX9_appeal 161 = .ok (.iload_n 1, 1) := by decide +kernel
theorem dX9_appeal_162 : decode cX9_appeal 162 = .ok (.iload_n 2, 1) := by decide +kernel
theorem dX9_appeal_163 : decode cX9_appeal 163 = .ok (.invokevirtual 165, 3) := by decide +kernel
theorem dX9_appeal_166 : decode cX9_appeal 166 = .ok (.aload_n 0, 1) := by decide +kernel
theorem dX9_appeal_167 : decode cX9_appeal 167 = .ok (.getfield 19, 3) := by decide +kernel
theorem dX9_appeal_170 : decode cX9_appeal 170 = .ok (.iload_n 2, 1) := by decide +kernel
theorem dX9_appeal_171 : decode cX9_appeal 171 = .ok (.invokevirtual 338, 3) := by decide +kernel
theorem dX9_appeal_174 : decode cX9_appeal 174 = .ok (.iconst 1, 1) := by decide +kernel
theorem dX9_appeal_175 : decode cX9_appeal 175 = .ok (.ireturn, 1) := by decide +kernel
theorem dX9_undo_0 : decode cX9_undo 0 = .ok (.aload_n 0, 1) := by decide +kernel
theorem dX9_undo_1 : decode cX9_undo 1 = .ok (.getfield 26, 3) := by decide +kernel
theorem dX9_undo_4 : decode cX9_undo 4 = .ok (.getfield 341, 3) := by decide +kernel
theorem dX9_undo_7 : decode cX9_undo 7 = .ok (.ifCond .ne 14, 3) := by decide +kernel
theorem dX9_undo_10 : decode cX9_undo 10 = .ok (.new 72, 3) := by decide +kernel
theorem dX9_undo_13 : decode cX9_undo 13 = .ok (.dup, 1) := by decide +kernel
theorem dX9_undo_14 : decode cX9_undo 14 = .ok (.ldc_w 342, 3) := by decide +kernel
theorem dX9_undo_17 : decode cX9_undo 17 = .ok (.invokespecial 76, 3) := by decide +kernel
theorem dX9_undo_20 : decode cX9_undo 20 = .ok (.athrow, 1) := by decide +kernel
theorem dX9_undo_21 : decode cX9_undo 21 = .ok (.aload_n 0, 1) := by decide +kernel
theorem dX9_undo_22 : decode cX9_undo 22 = .ok (.getfield 26, 3) := by decide +kernel
theorem dX9_undo_25 : decode cX9_undo 25 = .ok (.aload_n 0, 1) := by decide +kernel
theorem dX9_undo_26 : decode cX9_undo 26 = .ok (.getfield 19, 3) := by decide +kernel
theorem dX9_undo_29 : decode cX9_undo 29 = .ok (.invokevirtual 344, 3) := by decide +kernel
theorem dX9_undo_32 : decode cX9_undo 32 = .ok (.aload_n 0, 1) := by decide +kernel
theorem dX9_undo_33 : decode cX9_undo 33 = .ok (.getfield 26, 3) := by decide +kernel
theorem dX9_undo_36 : decode cX9_undo 36 = .ok (.getfield 341, 3) := by decide +kernel
theorem dX9_undo_39 : decode cX9_undo 39 = .ok (.ireturn, 1) := by decide +kernel
theorem dX9_checkPanel_0 : decode cX9_checkPanel 0 = .ok (.iload_n 1, 1) := by decide +kernel
theorem dX9_checkPanel_1 : decode cX9_checkPanel 1 = .ok (.ifCond .lt 14, 3) := by decide +kernel
theorem dX9_checkPanel_4 : decode cX9_checkPanel 4 = .ok (.iload_n 1, 1) := by decide +kernel
theorem dX9_checkPanel_5 : decode cX9_checkPanel 5 = .ok (.aload_n 0, 1) := by decide +kernel
theorem dX9_checkPanel_6 : decode cX9_checkPanel 6 = .ok (.getfield 61, 3) := by decide +kernel
theorem dX9_checkPanel_9 : decode cX9_checkPanel 9 = .ok (.getfield 113, 3) := by decide +kernel
theorem dX9_checkPanel_12 : decode cX9_checkPanel 12 = .ok (.if_icmp .lt 14, 3) := by decide +kernel
theorem dX9_checkPanel_15 : decode cX9_checkPanel 15 = .ok (.new 83, 3) := by decide +kernel
theorem dX9_checkPanel_18 : decode cX9_checkPanel 18 = .ok (.dup, 1) := by decide +kernel
theorem dX9_checkPanel_19 : decode cX9_checkPanel 19 = .ok (.ldc_w 347, 3) := by decide +kernel
theorem dX9_checkPanel_22 : decode cX9_checkPanel 22 = .ok (.invokespecial 87, 3) := by decide +kernel
theorem dX9_checkPanel_25 : decode cX9_checkPanel 25 = .ok (.athrow, 1) := by decide +kernel
theorem dX9_checkPanel_26 : decode cX9_checkPanel 26 = .ok (.return_, 1) := by decide +kernel
theorem dX9_checkReviewer_0 : decode cX9_checkReviewer 0 = .ok (.iload_n 1, 1) := by decide +kernel
theorem dX9_checkReviewer_1 : decode cX9_checkReviewer 1 = .ok (.ifCond .lt 14, 3) := by decide +kernel
theorem dX9_checkReviewer_4 : decode cX9_checkReviewer 4 = .ok (.iload_n 1, 1) := by decide +kernel
theorem dX9_checkReviewer_5 : decode cX9_checkReviewer 5 = .ok (.aload_n 0, 1) := by decide +kernel
theorem dX9_checkReviewer_6 : decode cX9_checkReviewer 6 = .ok (.getfield 61, 3) := by decide +kernel
theorem dX9_checkReviewer_9 : decode cX9_checkReviewer 9 = .ok (.getfield 116, 3) := by decide +kernel
theorem dX9_checkReviewer_12 : decode cX9_checkReviewer 12 = .ok (.if_icmp .lt 14, 3) := by decide +kernel
theorem dX9_checkReviewer_15 : decode cX9_checkReviewer 15 = .ok (.new 83, 3) := by decide +kernel
theorem dX9_checkReviewer_18 : decode cX9_checkReviewer 18 = .ok (.dup, 1) := by decide +kernel
theorem dX9_checkReviewer_19 : decode cX9_checkReviewer 19 = .ok (.ldc_w 349, 3) := by decide +kernel
theorem dX9_checkReviewer_22 : decode cX9_checkReviewer 22 = .ok (.invokespecial 87, 3) := by decide +kernel
theorem dX9_checkReviewer_25 : decode cX9_checkReviewer 25 = .ok (.athrow, 1) := by decide +kernel
theorem dX9_checkReviewer_26 : decode cX9_checkReviewer 26 = .ok (.return_, 1) := by decide +kernel
theorem dX9_checkProposal_0 : decode cX9_checkProposal 0 = .ok (.iload_n 1, 1) := by decide +kernel
theorem dX9_checkProposal_1 : decode cX9_checkProposal 1 = .ok (.ifCond .lt 14, 3) := by decide +kernel
theorem dX9_checkProposal_4 : decode cX9_checkProposal 4 = .ok (.iload_n 1, 1) := by decide +kernel
theorem dX9_checkProposal_5 : decode cX9_checkProposal 5 = .ok (.aload_n 0, 1) := by decide +kernel
theorem dX9_checkProposal_6 : decode cX9_checkProposal 6 = .ok (.getfield 61, 3) := by decide +kernel
theorem dX9_checkProposal_9 : decode cX9_checkProposal 9 = .ok (.getfield 104, 3) := by decide +kernel
theorem dX9_checkProposal_12 : decode cX9_checkProposal 12 = .ok (.if_icmp .lt 14, 3) := by decide +kernel
theorem dX9_checkProposal_15 : decode cX9_checkProposal 15 = .ok (.new 83, 3) := by decide +kernel
theorem dX9_checkProposal_18 : decode cX9_checkProposal 18 = .ok (.dup, 1) := by decide +kernel
theorem dX9_checkProposal_19 : decode cX9_checkProposal 19 = .ok (.ldc_w 351, 3) := by decide +kernel
theorem dX9_checkProposal_22 : decode cX9_checkProposal 22 = .ok (.invokespecial 87, 3) := by decide +kernel
theorem dX9_checkProposal_25 : decode cX9_checkProposal 25 = .ok (.athrow, 1) := by decide +kernel
theorem dX9_checkProposal_26 : decode cX9_checkProposal 26 = .ok (.return_, 1) := by decide +kernel
theorem dX9_checkPair_0 : decode cX9_checkPair 0 = .ok (.aload_n 0, 1) := by decide +kernel
theorem dX9_checkPair_1 : decode cX9_checkPair 1 = .ok (.iload_n 1, 1) := by decide +kernel
theorem dX9_checkPair_2 : decode cX9_checkPair 2 = .ok (.invokevirtual 209, 3) := by decide +kernel
theorem dX9_checkPair_5 : decode cX9_checkPair 5 = .ok (.aload_n 0, 1) := by decide +kernel
theorem dX9_checkPair_6 : decode cX9_checkPair 6 = .ok (.iload_n 2, 1) := by decide +kernel
theorem dX9_checkPair_7 : decode cX9_checkPair 7 = .ok (.invokevirtual 204, 3) := by decide +kernel
theorem dX9_checkPair_10 : decode cX9_checkPair 10 = .ok (.return_, 1) := by decide +kernel
theorem dX9_checkReview_0 : decode cX9_checkReview 0 = .ok (.aload_n 0, 1) := by decide +kernel
theorem dX9_checkReview_1 : decode cX9_checkReview 1 = .ok (.getfield 19, 3) := by decide +kernel
theorem dX9_checkReview_4 : decode cX9_checkReview 4 = .ok (.iload_n 1, 1) := by decide +kernel
theorem dX9_checkReview_5 : decode cX9_checkReview 5 = .ok (.iload_n 2, 1) := by decide +kernel
theorem dX9_checkReview_6 : decode cX9_checkReview 6 = .ok (.invokevirtual 152, 3) := by decide +kernel
theorem dX9_checkReview_9 : decode cX9_checkReview 9 = .ok (.ifCond .ne 14, 3) := by decide +kernel
theorem dX9_checkReview_12 : decode cX9_checkReview 12 = .ok (.new 252, 3) := by decide +kernel
theorem dX9_checkReview_15 : decode cX9_checkReview 15 = .ok (.dup, 1) := by decide +kernel
theorem dX9_checkReview_16 : decode cX9_checkReview 16 = .ok (.ldc_w 353, 3) := by decide +kernel
theorem dX9_checkReview_19 : decode cX9_checkReview 19 = .ok (.invokespecial 256, 3) := by decide +kernel
theorem dX9_checkReview_22 : decode cX9_checkReview 22 = .ok (.athrow, 1) := by decide +kernel
theorem dX9_checkReview_23 : decode cX9_checkReview 23 = .ok (.return_, 1) := by decide +kernel
theorem dX9_checkScore_0 : decode cX9_checkScore 0 = .ok (.aload_n 0, 1) := by decide +kernel
theorem dX9_checkScore_1 : decode cX9_checkScore 1 = .ok (.getfield 19, 3) := by decide +kernel
theorem dX9_checkScore_4 : decode cX9_checkScore 4 = .ok (.iload_n 1, 1) := by decide +kernel
theorem dX9_checkScore_5 : decode cX9_checkScore 5 = .ok (.iload_n 2, 1) := by decide +kernel
theorem dX9_checkScore_6 : decode cX9_checkScore 6 = .ok (.invokevirtual 257, 3) := by decide +kernel
theorem dX9_checkScore_9 : decode cX9_checkScore 9 = .ok (.ifCond .ne 14, 3) := by decide +kernel
theorem dX9_checkScore_12 : decode cX9_checkScore 12 = .ok (.new 252, 3) := by decide +kernel
theorem dX9_checkScore_15 : decode cX9_checkScore 15 = .ok (.dup, 1) := by decide +kernel
theorem dX9_checkScore_16 : decode cX9_checkScore 16 = .ok (.ldc_w 355, 3) := by decide +kernel
theorem dX9_checkScore_19 : decode cX9_checkScore 19 = .ok (.invokespecial 256, 3) := by decide +kernel
theorem dX9_checkScore_22 : decode cX9_checkScore 22 = .ok (.athrow, 1) := by decide +kernel
theorem dX9_checkScore_23 : decode cX9_checkScore 23 = .ok (.return_, 1) := by decide +kernel
theorem dX9_checkRanked_0 : decode cX9_checkRanked 0 = .ok (.aload_n 0, 1) := by decide +kernel
theorem dX9_checkRanked_1 : decode cX9_checkRanked 1 = .ok (.getfield 33, 3) := by decide +kernel
theorem dX9_checkRanked_4 : decode cX9_checkRanked 4 = .ok (.iload_n 1, 1) := by decide +kernel
theorem dX9_checkRanked_5 : decode cX9_checkRanked 5 = .ok (.invokevirtual 267, 3) := by decide +kernel
theorem dX9_checkRanked_8 : decode cX9_checkRanked 8 = .ok (.ifCond .ne 14, 3) := by decide +kernel
theorem dX9_checkRanked_11 : decode cX9_checkRanked 11 = .ok (.new 252, 3) := by decide +kernel
theorem dX9_checkRanked_14 : decode cX9_checkRanked 14 = .ok (.dup, 1) := by decide +kernel
theorem dX9_checkRanked_15 : decode cX9_checkRanked 15 = .ok (.ldc_w 357, 3) := by decide +kernel
theorem dX9_checkRanked_18 : decode cX9_checkRanked 18 = .ok (.invokespecial 256, 3) := by decide +kernel
theorem dX9_checkRanked_21 : decode cX9_checkRanked 21 = .ok (.athrow, 1) := by decide +kernel
theorem dX9_checkRanked_22 : decode cX9_checkRanked 22 = .ok (.return_, 1) := by decide +kernel
theorem dX9_checkMode_0 : decode cX9_checkMode 0 = .ok (.iload_n 0, 1) := by decide +kernel
theorem dX9_checkMode_1 : decode cX9_checkMode 1 = .ok (.ifCond .lt 8, 3) := by decide +kernel
theorem dX9_checkMode_4 : decode cX9_checkMode 4 = .ok (.iload_n 0, 1) := by decide +kernel
theorem dX9_checkMode_5 : decode cX9_checkMode 5 = .ok (.iconst 2, 1) := by decide +kernel
theorem dX9_checkMode_6 : decode cX9_checkMode 6 = .ok (.if_icmp .le 14, 3) := by decide +kernel
theorem dX9_checkMode_9 : decode cX9_checkMode 9 = .ok (.new 92, 3) := by decide +kernel
theorem dX9_checkMode_12 : decode cX9_checkMode 12 = .ok (.dup, 1) := by decide +kernel
theorem dX9_checkMode_13 : decode cX9_checkMode 13 = .ok (.ldc_w 359, 3) := by decide +kernel
theorem dX9_checkMode_16 : decode cX9_checkMode 16 = .ok (.invokespecial 96, 3) := by decide +kernel
theorem dX9_checkMode_19 : decode cX9_checkMode 19 = .ok (.athrow, 1) := by decide +kernel
theorem dX9_checkMode_20 : decode cX9_checkMode 20 = .ok (.return_, 1) := by decide +kernel
theorem dX9_cell_0 : decode cX9_cell 0 = .ok (.iload_n 0, 1) := by decide +kernel
theorem dX9_cell_1 : decode cX9_cell 1 = .ok (.bipush 16, 2) := by decide +kernel
theorem dX9_cell_3 : decode cX9_cell 3 = .ok (.imul, 1) := by decide +kernel
theorem dX9_cell_4 : decode cX9_cell 4 = .ok (.iload_n 1, 1) := by decide +kernel
theorem dX9_cell_5 : decode cX9_cell 5 = .ok (.iadd, 1) := by decide +kernel
theorem dX9_cell_6 : decode cX9_cell 6 = .ok (.ireturn, 1) := by decide +kernel
theorem dX9_hasConflict_0 : decode cX9_hasConflict 0 = .ok (.aload_n 0, 1) := by decide +kernel
theorem dX9_hasConflict_1 : decode cX9_hasConflict 1 = .ok (.getfield 361, 3) := by decide +kernel
theorem dX9_hasConflict_4 : decode cX9_hasConflict 4 = .ok (.iload_n 2, 1) := by decide +kernel
theorem dX9_hasConflict_5 : decode cX9_hasConflict 5 = .ok (.iaload, 1) := by decide +kernel
theorem dX9_hasConflict_6 : decode cX9_hasConflict 6 = .ok (.aload_n 0, 1) := by decide +kernel
theorem dX9_hasConflict_7 : decode cX9_hasConflict 7 = .ok (.getfield 364, 3) := by decide +kernel
theorem dX9_hasConflict_10 : decode cX9_hasConflict 10 = .ok (.iload_n 3, 1) := by decide +kernel
theorem dX9_hasConflict_11 : decode cX9_hasConflict 11 = .ok (.iaload, 1) := by decide +kernel
theorem dX9_hasConflict_12 : decode cX9_hasConflict 12 = .ok (.if_icmp .eq 12, 3) := by decide +kernel
theorem dX9_hasConflict_15 : decode cX9_hasConflict 15 = .ok (.aload_n 1, 1) := by decide +kernel
theorem dX9_hasConflict_16 : decode cX9_hasConflict 16 = .ok (.iload_n 2, 1) := by decide +kernel
theorem dX9_hasConflict_17 : decode cX9_hasConflict 17 = .ok (.iload_n 3, 1) := by decide +kernel
theorem dX9_hasConflict_18 : decode cX9_hasConflict 18 = .ok (.invokevirtual 162, 3) := by decide +kernel
theorem dX9_hasConflict_21 : decode cX9_hasConflict 21 = .ok (.ifCond .eq 7, 3) := by decide +kernel
theorem dX9_hasConflict_24 : decode cX9_hasConflict 24 = .ok (.iconst 1, 1) := by decide +kernel
theorem dX9_hasConflict_25 : decode cX9_hasConflict 25 = .ok (.goto 4, 3) := by decide +kernel
theorem dX9_hasConflict_28 : decode cX9_hasConflict 28 = .ok (.iconst 0, 1) := by decide +kernel
theorem dX9_hasConflict_29 : decode cX9_hasConflict 29 = .ok (.ireturn, 1) := by decide +kernel
theorem dX9_fits_0 : decode cX9_fits 0 = .ok (.aload_n 0, 1) := by decide +kernel
theorem dX9_fits_1 : decode cX9_fits 1 = .ok (.getfield 246, 3) := by decide +kernel
theorem dX9_fits_4 : decode cX9_fits 4 = .ok (.iload_n 2, 1) := by decide +kernel
theorem dX9_fits_5 : decode cX9_fits 5 = .ok (.iaload, 1) := by decide +kernel
theorem dX9_fits_6 : decode cX9_fits 6 = .ok (.aload_n 0, 1) := by decide +kernel
theorem dX9_fits_7 : decode cX9_fits 7 = .ok (.getfield 196, 3) := by decide +kernel
theorem dX9_fits_10 : decode cX9_fits 10 = .ok (.iload_n 3, 1) := by decide +kernel
theorem dX9_fits_11 : decode cX9_fits 11 = .ok (.iaload, 1) := by decide +kernel
theorem dX9_fits_12 : decode cX9_fits 12 = .ok (.if_icmp .ne 17, 3) := by decide +kernel
theorem dX9_fits_15 : decode cX9_fits 15 = .ok (.aload_n 0, 1) := by decide +kernel
theorem dX9_fits_16 : decode cX9_fits 16 = .ok (.aload_n 1, 1) := by decide +kernel
theorem dX9_fits_17 : decode cX9_fits 17 = .ok (.iload_n 2, 1) := by decide +kernel
theorem dX9_fits_18 : decode cX9_fits 18 = .ok (.iload_n 3, 1) := by decide +kernel
theorem dX9_fits_19 : decode cX9_fits 19 = .ok (.invokestatic 144, 3) := by decide +kernel
theorem dX9_fits_22 : decode cX9_fits 22 = .ok (.ifCond .ne 7, 3) := by decide +kernel
theorem dX9_fits_25 : decode cX9_fits 25 = .ok (.iconst 1, 1) := by decide +kernel
theorem dX9_fits_26 : decode cX9_fits 26 = .ok (.goto 4, 3) := by decide +kernel
theorem dX9_fits_29 : decode cX9_fits 29 = .ok (.iconst 0, 1) := by decide +kernel
theorem dX9_fits_30 : decode cX9_fits 30 = .ok (.ireturn, 1) := by decide +kernel
theorem dX9_canTake_0 : decode cX9_canTake 0 = .ok (.aload_n 0, 1) := by decide +kernel
theorem dX9_canTake_1 : decode cX9_canTake 1 = .ok (.getfield 19, 3) := by decide +kernel
theorem dX9_canTake_4 : decode cX9_canTake 4 = .ok (.iload_n 1, 1) := by decide +kernel
theorem dX9_canTake_5 : decode cX9_canTake 5 = .ok (.iload_n 2, 1) := by decide +kernel
theorem dX9_canTake_6 : decode cX9_canTake 6 = .ok (.invokevirtual 152, 3) := by decide +kernel
theorem dX9_canTake_9 : decode cX9_canTake 9 = .ok (.ifCond .ne 27, 3) := by decide +kernel
theorem dX9_canTake_12 : decode cX9_canTake 12 = .ok (.aload_n 0, 1) := by decide +kernel
theorem dX9_canTake_13 : decode cX9_canTake 13 = .ok (.getfield 19, 3) := by decide +kernel
theorem dX9_canTake_16 : decode cX9_canTake 16 = .ok (.iload_n 1, 1) := by decide +kernel
theorem dX9_canTake_17 : decode cX9_canTake 17 = .ok (.invokevirtual 212, 3) := by decide +kernel
theorem dX9_canTake_20 : decode cX9_canTake 20 = .ok (.aload_n 0, 1) := by decide +kernel
theorem dX9_canTake_21 : decode cX9_canTake 21 = .ok (.getfield 61, 3) := by decide +kernel
theorem dX9_canTake_24 : decode cX9_canTake 24 = .ok (.getfield 367, 3) := by decide +kernel
theorem dX9_canTake_27 : decode cX9_canTake 27 = .ok (.iload_n 1, 1) := by decide +kernel
theorem dX9_canTake_28 : decode cX9_canTake 28 = .ok (.iaload, 1) := by decide +kernel
theorem dX9_canTake_29 : decode cX9_canTake 29 = .ok (.if_icmp .ge 7, 3) := by decide +kernel
theorem dX9_canTake_32 : decode cX9_canTake 32 = .ok (.iconst 1, 1) := by decide +kernel
theorem dX9_canTake_33 : decode cX9_canTake 33 = .ok (.goto 4, 3) := by decide +kernel
theorem dX9_canTake_36 : decode cX9_canTake 36 = .ok (.iconst 0, 1) := by decide +kernel
theorem dX9_canTake_37 : decode cX9_canTake 37 = .ok (.ireturn, 1) := by decide +kernel
theorem dX9_addReview_0 : decode cX9_addReview 0 = .ok (.iconst (-1), 1) := by decide +kernel
theorem dX9_addReview_1 : decode cX9_addReview 1 = .ok (.istore_n 2, 1) := by decide +kernel
theorem dX9_addReview_2 : decode cX9_addReview 2 = .ok (.iconst 0, 1) := by decide +kernel
theorem dX9_addReview_3 : decode cX9_addReview 3 = .ok (.istore_n 3, 1) := by decide +kernel
theorem dX9_addReview_4 : decode cX9_addReview 4 = .ok (.iload_n 3, 1) := by decide +kernel
theorem dX9_addReview_5 : decode cX9_addReview 5 = .ok (.aload_n 0, 1) := by decide +kernel
theorem dX9_addReview_6 : decode cX9_addReview 6 = .ok (.getfield 61, 3) := by decide +kernel
theorem dX9_addReview_9 : decode cX9_addReview 9 = .ok (.getfield 116, 3) := by decide +kernel
theorem dX9_addReview_12 : decode cX9_addReview 12 = .ok (.if_icmp .ge 51, 3) := by decide +kernel
theorem dX9_addReview_15 : decode cX9_addReview 15 = .ok (.aload_n 0, 1) := by decide +kernel
theorem dX9_addReview_16 : decode cX9_addReview 16 = .ok (.getfield 61, 3) := by decide +kernel
theorem dX9_addReview_19 : decode cX9_addReview 19 = .ok (.aload_n 0, 1) := by decide +kernel
theorem dX9_addReview_20 : decode cX9_addReview 20 = .ok (.getfield 19, 3) := by decide +kernel
theorem dX9_addReview_23 : decode cX9_addReview 23 = .ok (.iload_n 3, 1) := by decide +kernel
theorem dX9_addReview_24 : decode cX9_addReview 24 = .ok (.iload_n 1, 1) := by decide +kernel
theorem dX9_addReview_25 : decode cX9_addReview 25 = .ok (.invokestatic 168, 3) := by decide +kernel
theorem dX9_addReview_28 : decode cX9_addReview 28 = .ok (.ifCond .eq 29, 3) := by decide +kernel
theorem dX9_addReview_31 : decode cX9_addReview 31 = .ok (.aload_n 0, 1) := by decide +kernel
theorem dX9_addReview_32 : decode cX9_addReview 32 = .ok (.iload_n 3, 1) := by decide +kernel
theorem dX9_addReview_33 : decode cX9_addReview 33 = .ok (.iload_n 1, 1) := by decide +kernel
theorem dX9_addReview_34 : decode cX9_addReview 34 = .ok (.invokevirtual 173, 3) := by decide +kernel
theorem dX9_addReview_37 : decode cX9_addReview 37 = .ok (.ifCond .eq 20, 3) := by decide +kernel
theorem dX9_addReview_40 : decode cX9_addReview 40 = .ok (.iload_n 2, 1) := by decide +kernel
theorem dX9_addReview_41 : decode cX9_addReview 41 = .ok (.iconst (-1), 1) := by decide +kernel
theorem dX9_addReview_42 : decode cX9_addReview 42 = .ok (.if_icmp .eq 13, 3) := by decide +kernel
theorem dX9_addReview_45 : decode cX9_addReview 45 = .ok (.aload_n 0, 1) := by decide +kernel
theorem dX9_addReview_46 : decode cX9_addReview 46 = .ok (.iload_n 3, 1) := by decide +kernel
theorem dX9_addReview_47 : decode cX9_addReview 47 = .ok (.iload_n 2, 1) := by decide +kernel
theorem dX9_addReview_48 : decode cX9_addReview 48 = .ok (.iload_n 1, 1) := by decide +kernel
theorem dX9_addReview_49 : decode cX9_addReview 49 = .ok (.invokevirtual 370, 3) := by decide +kernel
theorem dX9_addReview_52 : decode cX9_addReview 52 = .ok (.ifCond .eq 5, 3) := by decide +kernel
theorem dX9_addReview_55 : decode cX9_addReview 55 = .ok (.iload_n 3, 1) := by decide +kernel
theorem dX9_addReview_56 : decode cX9_addReview 56 = .ok (.istore_n 2, 1) := by decide +kernel
theorem dX9_addReview_57 : decode cX9_addReview 57 = .ok (.iinc 3 1, 3) := by decide +kernel
theorem dX9_addReview_60 : decode cX9_addReview 60 = .ok (.goto (-56), 3) := by decide +kernel
theorem dX9_addReview_63 : decode cX9_addReview 63 = .ok (.iload_n 2, 1) := by decide +kernel
theorem dX9_addReview_64 : decode cX9_addReview 64 = .ok (.iconst (-1), 1) := by decide +kernel
theorem dX9_addReview_65 : decode cX9_addReview 65 = .ok (.if_icmp .ne 5, 3) := by decide +kernel
theorem dX9_addReview_68 : decode cX9_addReview 68 = .ok (.iconst 0, 1) := by decide +kernel
theorem dX9_addReview_69 : decode cX9_addReview 69 = .ok (.ireturn, 1) := by decide +kernel
theorem dX9_addReview_70 : decode cX9_addReview 70 = .ok (.aload_n 0, 1) := by decide +kernel
theorem dX9_addReview_71 : decode cX9_addReview 71 = .ok (.getfield 19, 3) := by decide +kernel
theorem dX9_addReview_74 : decode cX9_addReview 74 = .ok (.iload_n 2, 1) := by decide +kernel
theorem dX9_addReview_75 : decode cX9_addReview 75 = .ok (.iload_n 1, 1) := by decide +kernel
theorem dX9_addReview_76 : decode cX9_addReview 76 = .ok (.iconst (-1), 1) := by decide +kernel
theorem dX9_addReview_77 : decode cX9_addReview 77 = .ok (.invokevirtual 184, 3) := by decide +kernel
theorem dX9_addReview_80 : decode cX9_addReview 80 = .ok (.iconst 1, 1) := by decide +kernel
theorem dX9_addReview_81 : decode cX9_addReview 81 = .ok (.ireturn, 1) := by decide +kernel
theorem dX9_isBetterChoice_0 : decode cX9_isBetterChoice 0 = .ok (.aload_n 0, 1) := by decide +kernel
theorem dX9_isBetterChoice_1 : decode cX9_isBetterChoice 1 = .ok (.getfield 61, 3) := by decide +kernel
theorem dX9_isBetterChoice_4 : decode cX9_isBetterChoice 4 = .ok (.iload_n 1, 1) := by decide +kernel
theorem dX9_isBetterChoice_5 : decode cX9_isBetterChoice 5 = .ok (.iload_n 3, 1) := by decide +kernel
theorem dX9_isBetterChoice_6 : decode cX9_isBetterChoice 6 = .ok (.invokevirtual 148, 3) := by decide +kernel
theorem dX9_isBetterChoice_9 : decode cX9_isBetterChoice 9 = .ok (.istore 4, 2) := by decide +kernel
theorem dX9_isBetterChoice_11 : decode cX9_isBetterChoice 11 = .ok (.aload_n 0, 1) := by decide +kernel
theorem dX9_isBetterChoice_12 : decode cX9_isBetterChoice 12 = .ok (.getfield 61, 3) := by decide +kernel
theorem dX9_isBetterChoice_15 : decode cX9_isBetterChoice 15 = .ok (.iload_n 2, 1) := by decide +kernel
theorem dX9_isBetterChoice_16 : decode cX9_isBetterChoice 16 = .ok (.iload_n 3, 1) := by decide +kernel
theorem dX9_isBetterChoice_17 : decode cX9_isBetterChoice 17 = .ok (.invokevirtual 148, 3) := by decide +kernel
theorem dX9_isBetterChoice_20 : decode cX9_isBetterChoice 20 = .ok (.istore 5, 2) := by decide +kernel
theorem dX9_isBetterChoice_22 : decode cX9_isBetterChoice 22 = .ok (.iload 4, 2) := by decide +kernel
theorem dX9_isBetterChoice_24 : decode cX9_isBetterChoice 24 = .ok (.iload 5, 2) := by decide +kernel
theorem dX9_isBetterChoice_26 : decode cX9_isBetterChoice 26 = .ok (.if_icmp .eq 16, 3) := by decide +kernel
theorem dX9_isBetterChoice_29 : decode cX9_isBetterChoice 29 = .ok (.iload 4, 2) := by decide +kernel
theorem dX9_isBetterChoice_31 : decode cX9_isBetterChoice 31 = .ok (.iload 5, 2) := by decide +kernel
theorem dX9_isBetterChoice_33 : decode cX9_isBetterChoice 33 = .ok (.if_icmp .le 7, 3) := by decide +kernel
theorem dX9_isBetterChoice_36 : decode cX9_isBetterChoice 36 = .ok (.iconst 1, 1) := by decide +kernel
theorem dX9_isBetterChoice_37 : decode cX9_isBetterChoice 37 = .ok (.goto 4, 3) := by decide +kernel
theorem dX9_isBetterChoice_40 : decode cX9_isBetterChoice 40 = .ok (.iconst 0, 1) := by decide +kernel
theorem dX9_isBetterChoice_41 : decode cX9_isBetterChoice 41 = .ok (.ireturn, 1) := by decide +kernel
theorem dX9_isBetterChoice_42 : decode cX9_isBetterChoice 42 = .ok (.aload_n 0, 1) := by decide +kernel
theorem dX9_isBetterChoice_43 : decode cX9_isBetterChoice 43 = .ok (.getfield 19, 3) := by decide +kernel
theorem dX9_isBetterChoice_46 : decode cX9_isBetterChoice 46 = .ok (.iload_n 1, 1) := by decide +kernel
theorem dX9_isBetterChoice_47 : decode cX9_isBetterChoice 47 = .ok (.invokevirtual 212, 3) := by decide +kernel
theorem dX9_isBetterChoice_50 : decode cX9_isBetterChoice 50 = .ok (.aload_n 0, 1) := by decide +kernel
theorem dX9_isBetterChoice_51 : decode cX9_isBetterChoice 51 = .ok (.getfield 19, 3) := by decide +kernel
theorem dX9_isBetterChoice_54 : decode cX9_isBetterChoice 54 = .ok (.iload_n 2, 1) := by decide +kernel
theorem dX9_isBetterChoice_55 : decode cX9_isBetterChoice 55 = .ok (.invokevirtual 212, 3) := by decide +kernel
theorem dX9_isBetterChoice_58 : decode cX9_isBetterChoice 58 = .ok (.if_icmp .ge 7, 3) := by decide +kernel
theorem dX9_isBetterChoice_61 : decode cX9_isBetterChoice 61 = .ok (.iconst 1, 1) := by decide +kernel
theorem dX9_isBetterChoice_62 : decode cX9_isBetterChoice 62 = .ok (.goto 4, 3) := by decide +kernel
theorem dX9_isBetterChoice_65 : decode cX9_isBetterChoice 65 = .ok (.iconst 0, 1) := by decide +kernel
theorem dX9_isBetterChoice_66 : decode cX9_isBetterChoice 66 = .ok (.ireturn, 1) := by decide +kernel
theorem dX9_fund_0 : decode cX9_fund 0 = .ok (.aload_n 0, 1) := by decide +kernel
theorem dX9_fund_1 : decode cX9_fund 1 = .ok (.getfield 33, 3) := by decide +kernel
theorem dX9_fund_4 : decode cX9_fund 4 = .ok (.aload_n 0, 1) := by decide +kernel
theorem dX9_fund_5 : decode cX9_fund 5 = .ok (.getfield 61, 3) := by decide +kernel
theorem dX9_fund_8 : decode cX9_fund 8 = .ok (.aload_n 0, 1) := by decide +kernel
theorem dX9_fund_9 : decode cX9_fund 9 = .ok (.getfield 19, 3) := by decide +kernel
theorem dX9_fund_12 : decode cX9_fund 12 = .ok (.invokevirtual 230, 3) := by decide +kernel
theorem dX9_fund_15 : decode cX9_fund 15 = .ok (.aload_n 0, 1) := by decide +kernel
theorem dX9_fund_16 : decode cX9_fund 16 = .ok (.getfield 40, 3) := by decide +kernel
theorem dX9_fund_19 : decode cX9_fund 19 = .ok (.aload_n 0, 1) := by decide +kernel
theorem dX9_fund_20 : decode cX9_fund 20 = .ok (.getfield 61, 3) := by decide +kernel
theorem dX9_fund_23 : decode cX9_fund 23 = .ok (.aload_n 0, 1) := by decide +kernel
theorem dX9_fund_24 : decode cX9_fund 24 = .ok (.getfield 33, 3) := by decide +kernel
theorem dX9_fund_27 : decode cX9_fund 27 = .ok (.iload_n 1, 1) := by decide +kernel
theorem dX9_fund_28 : decode cX9_fund 28 = .ok (.aload_n 0, 1) := by decide +kernel
theorem dX9_fund_29 : decode cX9_fund 29 = .ok (.getfield 19, 3) := by decide +kernel
theorem dX9_fund_32 : decode cX9_fund 32 = .ok (.getfield 287, 3) := by decide +kernel
theorem dX9_fund_35 : decode cX9_fund 35 = .ok (.invokevirtual 326, 3) := by decide +kernel
theorem dX9_fund_38 : decode cX9_fund 38 = .ok (.return_, 1) := by decide +kernel
theorem dX10_init_0 : decode cX10_init 0 = .ok (.aload_n 0, 1) := by decide +kernel
theorem dX10_init_1 : decode cX10_init 1 = .ok (.invokespecial 1, 3) := by decide +kernel
theorem dX10_init_4 : decode cX10_init 4 = .ok (.aload_n 0, 1) := by decide +kernel
theorem dX10_init_5 : decode cX10_init 5 = .ok (.sipush 151, 3) := by decide +kernel
theorem dX10_init_8 : decode cX10_init 8 = .ok (.newarray .int, 2) := by decide +kernel
theorem dX10_init_10 : decode cX10_init 10 = .ok (.putfield 7, 3) := by decide +kernel
theorem dX10_init_13 : decode cX10_init 13 = .ok (.aload_n 0, 1) := by decide +kernel
theorem dX10_init_14 : decode cX10_init 14 = .ok (.sipush 151, 3) := by decide +kernel
theorem dX10_init_17 : decode cX10_init 17 = .ok (.newarray .int, 2) := by decide +kernel
theorem dX10_init_19 : decode cX10_init 19 = .ok (.putfield 13, 3) := by decide +kernel
theorem dX10_init_22 : decode cX10_init 22 = .ok (.aload_n 0, 1) := by decide +kernel
theorem dX10_init_23 : decode cX10_init 23 = .ok (.sipush 218, 3) := by decide +kernel
theorem dX10_init_26 : decode cX10_init 26 = .ok (.newarray .int, 2) := by decide +kernel
theorem dX10_init_28 : decode cX10_init 28 = .ok (.putfield 16, 3) := by decide +kernel
theorem dX10_init_31 : decode cX10_init 31 = .ok (.aload_n 0, 1) := by decide +kernel
theorem dX10_init_32 : decode cX10_init 32 = .ok (.sipush 2180, 3) := by decide +kernel
theorem dX10_init_35 : decode cX10_init 35 = .ok (.newarray .int, 2) := by decide +kernel
theorem dX10_init_37 : decode cX10_init 37 = .ok (.putfield 19, 3) := by decide +kernel
theorem dX10_init_40 : decode cX10_init 40 = .ok (.aload_n 0, 1) := by decide +kernel
theorem dX10_init_41 : decode cX10_init 41 = .ok (.sipush 800, 3) := by decide +kernel
theorem dX10_init_44 : decode cX10_init 44 = .ok (.newarray .int, 2) := by decide +kernel
theorem dX10_init_46 : decode cX10_init 46 = .ok (.putfield 22, 3) := by decide +kernel
theorem dX10_init_49 : decode cX10_init 49 = .ok (.aload_n 0, 1) := by decide +kernel
theorem dX10_init_50 : decode cX10_init 50 = .ok (.iconst (-1), 1) := by decide +kernel
theorem dX10_init_51 : decode cX10_init 51 = .ok (.putfield 25, 3) := by decide +kernel
theorem dX10_init_54 : decode cX10_init 54 = .ok (.aload_n 0, 1) := by decide +kernel
theorem dX10_init_55 : decode cX10_init 55 = .ok (.bipush 12, 2) := by decide +kernel
theorem dX10_init_57 : decode cX10_init 57 = .ok (.newarray .int, 2) := by decide +kernel
theorem dX10_init_59 : decode cX10_init 59 = .ok (.putfield 29, 3) := by decide +kernel
theorem dX10_init_62 : decode cX10_init 62 = .ok (.aload_n 0, 1) := by decide +kernel
theorem dX10_init_63 : decode cX10_init 63 = .ok (.bipush 28, 2) := by decide +kernel
theorem dX10_init_65 : decode cX10_init 65 = .ok (.newarray .int, 2) := by decide +kernel
theorem dX10_init_67 : decode cX10_init 67 = .ok (.putfield 32, 3) := by decide +kernel
theorem dX10_init_70 : decode cX10_init 70 = .ok (.aload_n 0, 1) := by decide +kernel
theorem dX10_init_71 : decode cX10_init 71 = .ok (.bipush 28, 2) := by decide +kernel
theorem dX10_init_73 : decode cX10_init 73 = .ok (.newarray .int, 2) := by decide +kernel
theorem dX10_init_75 : decode cX10_init 75 = .ok (.putfield 35, 3) := by decide +kernel
theorem dX10_init_78 : decode cX10_init 78 = .ok (.aload_n 0, 1) := by decide +kernel
theorem dX10_init_79 : decode cX10_init 79 = .ok (.bipush 16, 2) := by decide +kernel
theorem dX10_init_81 : decode cX10_init 81 = .ok (.newarray .int, 2) := by decide +kernel
theorem dX10_init_83 : decode cX10_init 83 = .ok (.putfield 38, 3) := by decide +kernel
theorem dX10_init_86 : decode cX10_init 86 = .ok (.aload_n 0, 1) := by decide +kernel
theorem dX10_init_87 : decode cX10_init 87 = .ok (.bipush 16, 2) := by decide +kernel
theorem dX10_init_89 : decode cX10_init 89 = .ok (.newarray .int, 2) := by decide +kernel
theorem dX10_init_91 : decode cX10_init 91 = .ok (.putfield 41, 3) := by decide +kernel
theorem dX10_init_94 : decode cX10_init 94 = .ok (.aload_n 0, 1) := by decide +kernel
theorem dX10_init_95 : decode cX10_init 95 = .ok (.bipush 16, 2) := by decide +kernel
theorem dX10_init_97 : decode cX10_init 97 = .ok (.newarray .int, 2) := by decide +kernel
theorem dX10_init_99 : decode cX10_init 99 = .ok (.putfield 44, 3) := by decide +kernel
theorem dX10_init_102 : decode cX10_init 102 = .ok (.aload_n 0, 1) := by decide +kernel
theorem dX10_init_103 : decode cX10_init 103 = .ok (.iconst 4, 1) := by decide +kernel
theorem dX10_init_104 : decode cX10_init 104 = .ok (.newarray .int, 2) := by decide +kernel
theorem dX10_init_106 : decode cX10_init 106 = .ok (.putfield 47, 3) := by decide +kernel
theorem dX10_init_109 : decode cX10_init 109 = .ok (.aload_n 0, 1) := by decide +kernel
theorem dX10_init_110 : decode cX10_init 110 = .ok (.getfield 7, 3) := by decide +kernel
theorem dX10_init_113 : decode cX10_init 113 = .ok (.iconst 3, 1) := by decide +kernel
theorem dX10_init_114 : decode cX10_init 114 = .ok (.iconst 2, 1) := by decide +kernel
theorem dX10_init_115 : decode cX10_init 115 = .ok (.iastore, 1) := by decide +kernel
theorem dX10_init_116 : decode cX10_init 116 = .ok (.aload_n 0, 1) := by decide +kernel
theorem dX10_init_117 : decode cX10_init 117 = .ok (.getfield 7, 3) := by decide +kernel
theorem dX10_init_120 : decode cX10_init 120 = .ok (.bipush 6, 2) := by decide +kernel
theorem dX10_init_122 : decode cX10_init 122 = .ok (.bipush 20, 2) := by decide +kernel
theorem dX10_init_124 : decode cX10_init 124 = .ok (.iastore, 1) := by decide +kernel
theorem dX10_init_125 : decode cX10_init 125 = .ok (.return_, 1) := by decide +kernel
theorem dX10_thrown_0 : decode cX10_thrown 0 = .ok (.aload_n 0, 1) := by decide +kernel
theorem dX10_thrown_1 : decode cX10_thrown 1 = .ok (.getfield 50, 3) := by decide +kernel
theorem dX10_thrown_4 : decode cX10_thrown 4 = .ok (.ireturn, 1) := by decide +kernel
theorem dX10_in_0 : decode cX10_in 0 = .ok (.iload_n 0, 1) := by decide +kernel
theorem dX10_in_1 : decode cX10_in 1 = .ok (.iload_n 1, 1) := by decide +kernel
theorem dX10_in_2 : decode cX10_in 2 = .ok (.if_icmp .lt 12, 3) := by decide +kernel
theorem dX10_in_5 : decode cX10_in 5 = .ok (.iload_n 0, 1) := by decide +kernel
theorem dX10_in_6 : decode cX10_in 6 = .ok (.iload_n 2, 1) := by decide +kernel
theorem dX10_in_7 : decode cX10_in 7 = .ok (.if_icmp .gt 7, 3) := by decide +kernel
theorem dX10_in_10 : decode cX10_in 10 = .ok (.iconst 1, 1) := by decide +kernel
theorem dX10_in_11 : decode cX10_in 11 = .ok (.goto 4, 3) := by decide +kernel
theorem dX10_in_14 : decode cX10_in 14 = .ok (.iconst 0, 1) := by decide +kernel
theorem dX10_in_15 : decode cX10_in 15 = .ok (.ireturn, 1) := by decide +kernel
theorem dX10_has_0 : decode cX10_has 0 = .ok (.iload_n 0, 1) := by decide +kernel
theorem dX10_has_1 : decode cX10_has 1 = .ok (.iload_n 1, 1) := by decide +kernel
theorem dX10_has_2 : decode cX10_has 2 = .ok (.ishr, 1) := by decide +kernel
theorem dX10_has_3 : decode cX10_has 3 = .ok (.iconst 1, 1) := by decide +kernel
theorem dX10_has_4 : decode cX10_has 4 = .ok (.iand, 1) := by decide +kernel
theorem dX10_has_5 : decode cX10_has 5 = .ok (.iconst 1, 1) := by decide +kernel
theorem dX10_has_6 : decode cX10_has 6 = .ok (.if_icmp .ne 7, 3) := by decide +kernel
theorem dX10_has_9 : decode cX10_has 9 = .ok (.iconst 1, 1) := by decide +kernel
theorem dX10_has_10 : decode cX10_has 10 = .ok (.goto 4, 3) := by decide +kernel
theorem dX10_has_13 : decode cX10_has 13 = .ok (.iconst 0, 1) := by decide +kernel
theorem dX10_has_14 : decode cX10_has 14 = .ok (.ireturn, 1) := by decide +kernel
theorem dX10_bits_0 : decode cX10_bits 0 = .ok (.iconst 0, 1) := by decide +kernel
theorem dX10_bits_1 : decode cX10_bits 1 = .ok (.istore_n 1, 1) := by decide +kernel
theorem dX10_bits_2 : decode cX10_bits 2 = .ok (.iload_n 0, 1) := by decide +kernel
theorem dX10_bits_3 : decode cX10_bits 3 = .ok (.istore_n 2, 1) := by decide +kernel
theorem dX10_bits_4 : decode cX10_bits 4 = .ok (.iload_n 2, 1) := by decide +kernel
theorem dX10_bits_5 : decode cX10_bits 5 = .ok (.ifCond .eq 15, 3) := by decide +kernel
theorem dX10_bits_8 : decode cX10_bits 8 = .ok (.iinc 1 1, 3) := by decide +kernel
theorem dX10_bits_11 : decode cX10_bits 11 = .ok (.iload_n 2, 1) := by decide +kernel
theorem dX10_bits_12 : decode cX10_bits 12 = .ok (.iload_n 2, 1) := by decide +kernel
theorem dX10_bits_13 : decode cX10_bits 13 = .ok (.iconst 1, 1) := by decide +kernel
theorem dX10_bits_14 : decode cX10_bits 14 = .ok (.isub, 1) := by decide +kernel
theorem dX10_bits_15 : decode cX10_bits 15 = .ok (.iand, 1) := by decide +kernel
theorem dX10_bits_16 : decode cX10_bits 16 = .ok (.istore_n 2, 1) := by decide +kernel
theorem dX10_bits_17 : decode cX10_bits 17 = .ok (.goto (-13), 3) := by decide +kernel
theorem dX10_bits_20 : decode cX10_bits 20 = .ok (.iload_n 1, 1) := by decide +kernel
theorem dX10_bits_21 : decode cX10_bits 21 = .ok (.ireturn, 1) := by decide +kernel
theorem dX10_fails_0 : decode cX10_fails 0 = .ok (.aload_n 0, 1) := by decide +kernel
theorem dX10_fails_1 : decode cX10_fails 1 = .ok (.iload_n 1, 1) := by decide +kernel
theorem dX10_fails_2 : decode cX10_fails 2 = .ok (.putfield 50, 3) := by decide +kernel
theorem dX10_fails_5 : decode cX10_fails 5 = .ok (.iconst 0, 1) := by decide +kernel
theorem dX10_fails_6 : decode cX10_fails 6 = .ok (.ireturn, 1) := by decide +kernel
theorem dX10_isPanel_0 : decode cX10_isPanel 0 = .ok (.iload_n 1, 1) := by decide +kernel
theorem dX10_isPanel_1 : decode cX10_isPanel 1 = .ok (.iconst 0, 1) := by decide +kernel
theorem dX10_isPanel_2 : decode cX10_isPanel 2 = .ok (.aload_n 0, 1) := by decide +kernel
theorem dX10_isPanel_3 : decode cX10_isPanel 3 = .ok (.getfield 7, 3) := by decide +kernel
theorem dX10_isPanel_6 : decode cX10_isPanel 6 = .ok (.iconst 0, 1) := by decide +kernel
theorem dX10_isPanel_7 : decode cX10_isPanel 7 = .ok (.iaload, 1) := by decide +kernel
theorem dX10_isPanel_8 : decode cX10_isPanel 8 = .ok (.iconst 1, 1) := by decide +kernel
theorem dX10_isPanel_9 : decode cX10_isPanel 9 = .ok (.isub, 1) := by decide +kernel
theorem dX10_isPanel_10 : decode cX10_isPanel 10 = .ok (.invokestatic 53, 3) := by decide +kernel
theorem dX10_isPanel_13 : decode cX10_isPanel 13 = .ok (.ireturn, 1) := by decide +kernel
theorem dX10_isReviewer_0 : decode cX10_isReviewer 0 = .ok (.iload_n 1, 1) := by decide +kernel
theorem dX10_isReviewer_1 : decode cX10_isReviewer 1 = .ok (.iconst 0, 1) := by decide +kernel
theorem dX10_isReviewer_2 : decode cX10_isReviewer 2 = .ok (.aload_n 0, 1) := by decide +kernel
theorem dX10_isReviewer_3 : decode cX10_isReviewer 3 = .ok (.getfield 7, 3) := by decide +kernel
theorem dX10_isReviewer_6 : decode cX10_isReviewer 6 = .ok (.iconst 1, 1) := by decide +kernel
theorem dX10_isReviewer_7 : decode cX10_isReviewer 7 = .ok (.iaload, 1) := by decide +kernel
theorem dX10_isReviewer_8 : decode cX10_isReviewer 8 = .ok (.iconst 1, 1) := by decide +kernel
theorem dX10_isReviewer_9 : decode cX10_isReviewer 9 = .ok (.isub, 1) := by decide +kernel
theorem dX10_isReviewer_10 : decode cX10_isReviewer 10 = .ok (.invokestatic 53, 3) := by decide +kernel
theorem dX10_isReviewer_13 : decode cX10_isReviewer 13 = .ok (.ireturn, 1) := by decide +kernel
theorem dX10_isProposal_0 : decode cX10_isProposal 0 = .ok (.iload_n 1, 1) := by decide +kernel
theorem dX10_isProposal_1 : decode cX10_isProposal 1 = .ok (.iconst 0, 1) := by decide +kernel
theorem dX10_isProposal_2 : decode cX10_isProposal 2 = .ok (.aload_n 0, 1) := by decide +kernel
theorem dX10_isProposal_3 : decode cX10_isProposal 3 = .ok (.getfield 7, 3) := by decide +kernel
theorem dX10_isProposal_6 : decode cX10_isProposal 6 = .ok (.iconst 2, 1) := by decide +kernel
theorem dX10_isProposal_7 : decode cX10_isProposal 7 = .ok (.iaload, 1) := by decide +kernel
theorem dX10_isProposal_8 : decode cX10_isProposal 8 = .ok (.iconst 1, 1) := by decide +kernel
theorem dX10_isProposal_9 : decode cX10_isProposal 9 = .ok (.isub, 1) := by decide +kernel
theorem dX10_isProposal_10 : decode cX10_isProposal 10 = .ok (.invokestatic 53, 3) := by decide +kernel
theorem dX10_isProposal_13 : decode cX10_isProposal 13 = .ok (.ireturn, 1) := by decide +kernel
theorem dX10_reviewer_0 : decode cX10_reviewer 0 = .ok (.aload_n 0, 1) := by decide +kernel
theorem dX10_reviewer_1 : decode cX10_reviewer 1 = .ok (.getfield 7, 3) := by decide +kernel
theorem dX10_reviewer_4 : decode cX10_reviewer 4 = .ok (.bipush 11, 2) := by decide +kernel
theorem dX10_reviewer_6 : decode cX10_reviewer 6 = .ok (.iconst 4, 1) := by decide +kernel
theorem dX10_reviewer_7 : decode cX10_reviewer 7 = .ok (.iload_n 1, 1) := by decide +kernel
theorem dX10_reviewer_8 : decode cX10_reviewer 8 = .ok (.imul, 1) := by decide +kernel
theorem dX10_reviewer_9 : decode cX10_reviewer 9 = .ok (.iadd, 1) := by decide +kernel
theorem dX10_reviewer_10 : decode cX10_reviewer 10 = .ok (.iload_n 2, 1) := by decide +kernel
theorem dX10_reviewer_11 : decode cX10_reviewer 11 = .ok (.iadd, 1) := by decide +kernel
theorem dX10_reviewer_12 : decode cX10_reviewer 12 = .ok (.iaload, 1) := by decide +kernel
theorem dX10_reviewer_13 : decode cX10_reviewer 13 = .ok (.ireturn, 1) := by decide +kernel
theorem dX10_proposal_0 : decode cX10_proposal 0 = .ok (.aload_n 0, 1) := by decide +kernel
theorem dX10_proposal_1 : decode cX10_proposal 1 = .ok (.getfield 7, 3) := by decide +kernel
theorem dX10_proposal_4 : decode cX10_proposal 4 = .ok (.bipush 59, 2) := by decide +kernel
theorem dX10_proposal_6 : decode cX10_proposal 6 = .ok (.iconst 5, 1) := by decide +kernel
theorem dX10_proposal_7 : decode cX10_proposal 7 = .ok (.iload_n 1, 1) := by decide +kernel
theorem dX10_proposal_8 : decode cX10_proposal 8 = .ok (.imul, 1) := by decide +kernel
theorem dX10_proposal_9 : decode cX10_proposal 9 = .ok (.iadd, 1) := by decide +kernel
theorem dX10_proposal_10 : decode cX10_proposal 10 = .ok (.iload_n 2, 1) := by decide +kernel
theorem dX10_proposal_11 : decode cX10_proposal 11 = .ok (.iadd, 1) := by decide +kernel
theorem dX10_proposal_12 : decode cX10_proposal 12 = .ok (.iaload, 1) := by decide +kernel
theorem dX10_proposal_13 : decode cX10_proposal 13 = .ok (.ireturn, 1) := by decide +kernel
theorem dX10_four_0 : decode cX10_four 0 = .ok (.bipush 24, 2) := by decide +kernel
theorem dX10_four_2 : decode cX10_four 2 = .ok (.istore_n 2, 1) := by decide +kernel
theorem dX10_four_3 : decode cX10_four 3 = .ok (.iload_n 2, 1) := by decide +kernel
theorem dX10_four_4 : decode cX10_four 4 = .ok (.ifCond .lt 35, 3) := by decide +kernel
theorem dX10_four_7 : decode cX10_four 7 = .ok (.aload_n 0, 1) := by decide +kernel
theorem dX10_four_8 : decode cX10_four 8 = .ok (.getfield 22, 3) := by decide +kernel
theorem dX10_four_11 : decode cX10_four 11 = .ok (.aload_n 0, 1) := by decide +kernel
theorem dX10_four_12 : decode cX10_four 12 = .ok (.getfield 57, 3) := by decide +kernel
theorem dX10_four_15 : decode cX10_four 15 = .ok (.iload_n 1, 1) := by decide +kernel
theorem dX10_four_16 : decode cX10_four 16 = .ok (.iload_n 2, 1) := by decide +kernel
theorem dX10_four_17 : decode cX10_four 17 = .ok (.ishr, 1) := by decide +kernel
theorem dX10_four_18 : decode cX10_four 18 = .ok (.sipush 255, 3) := by decide +kernel
theorem dX10_four_21 : decode cX10_four 21 = .ok (.iand, 1) := by decide +kernel
theorem dX10_four_22 : decode cX10_four 22 = .ok (.iastore, 1) := by decide +kernel
theorem dX10_four_23 : decode cX10_four 23 = .ok (.aload_n 0, 1) := by decide +kernel
theorem dX10_four_24 : decode cX10_four 24 = .ok (.dup, 1) := by decide +kernel
theorem dX10_four_25 : decode cX10_four 25 = .ok (.getfield 57, 3) := by decide +kernel
theorem dX10_four_28 : decode cX10_four 28 = .ok (.iconst 1, 1) := by decide +kernel
theorem dX10_four_29 : decode cX10_four 29 = .ok (.iadd, 1) := by decide +kernel
theorem dX10_four_30 : decode cX10_four 30 = .ok (.putfield 57, 3) := by decide +kernel
theorem dX10_four_33 : decode cX10_four 33 = .ok (.iinc 2 (-8), 3) := by decide +kernel
theorem dX10_four_36 : decode cX10_four 36 = .ok (.goto (-33), 3) := by decide +kernel
theorem dX10_four_39 : decode cX10_four 39 = .ok (.return_, 1) := by decide +kernel
theorem dX10_append_0 : decode cX10_append 0 = .ok (.aload_n 0, 1) := by decide +kernel
theorem dX10_append_1 : decode cX10_append 1 = .ok (.iconst 0, 1) := by decide +kernel
theorem dX10_append_2 : decode cX10_append 2 = .ok (.putfield 50, 3) := by decide +kernel
theorem dX10_append_5 : decode cX10_append 5 = .ok (.aload_n 0, 1) := by decide +kernel
theorem dX10_append_6 : decode cX10_append 6 = .ok (.getfield 57, 3) := by decide +kernel
theorem dX10_append_9 : decode cX10_append 9 = .ok (.bipush 20, 2) := by decide +kernel
theorem dX10_append_11 : decode cX10_append 11 = .ok (.iadd, 1) := by decide +kernel
theorem dX10_append_12 : decode cX10_append 12 = .ok (.sipush 800, 3) := by decide +kernel
theorem dX10_append_15 : decode cX10_append 15 = .ok (.if_icmp .le 9, 3) := by decide +kernel
theorem dX10_append_18 : decode cX10_append 18 = .ok (.aload_n 0, 1) := by decide +kernel
theorem dX10_append_19 : decode cX10_append 19 = .ok (.iconst 1, 1) := by decide +kernel
theorem dX10_append_20 : decode cX10_append 20 = .ok (.invokevirtual 60, 3) := by decide +kernel
theorem dX10_append_23 : decode cX10_append 23 = .ok (.ireturn, 1) := by decide +kernel
theorem dX10_append_24 : decode cX10_append 24 = .ok (.aload_n 0, 1) := by decide +kernel
theorem dX10_append_25 : decode cX10_append 25 = .ok (.iload_n 1, 1) := by decide +kernel
theorem dX10_append_26 : decode cX10_append 26 = .ok (.invokevirtual 64, 3) := by decide +kernel
theorem dX10_append_29 : decode cX10_append 29 = .ok (.aload_n 0, 1) := by decide +kernel
theorem dX10_append_30 : decode cX10_append 30 = .ok (.iload_n 2, 1) := by decide +kernel
theorem dX10_append_31 : decode cX10_append 31 = .ok (.invokevirtual 64, 3) := by decide +kernel
theorem dX10_append_34 : decode cX10_append 34 = .ok (.aload_n 0, 1) := by decide +kernel
theorem dX10_append_35 : decode cX10_append 35 = .ok (.iload_n 3, 1) := by decide +kernel
theorem dX10_append_36 : decode cX10_append 36 = .ok (.invokevirtual 64, 3) := by decide +kernel
theorem dX10_append_39 : decode cX10_append 39 = .ok (.aload_n 0, 1) := by decide +kernel
theorem dX10_append_40 : decode cX10_append 40 = .ok (.iload 4, 2) := by decide +kernel
theorem dX10_append_42 : decode cX10_append 42 = .ok (.invokevirtual 64, 3) := by decide +kernel
theorem dX10_append_45 : decode cX10_append 45 = .ok (.aload_n 0, 1) := by decide +kernel
theorem dX10_append_46 : decode cX10_append 46 = .ok (.iload 5, 2) := by decide +kernel
theorem dX10_append_48 : decode cX10_append 48 = .ok (.invokevirtual 64, 3) := by decide +kernel
theorem dX10_append_51 : decode cX10_append 51 = .ok (.aload_n 0, 1) := by decide +kernel
theorem dX10_append_52 : decode cX10_append 52 = .ok (.getfield 57, 3) := by decide +kernel
theorem dX10_append_55 : decode cX10_append 55 = .ok (.ireturn, 1) := by decide +kernel
theorem dX10_truncate_0 : decode cX10_truncate 0 = .ok (.aload_n 0, 1) := by decide +kernel
theorem dX10_truncate_1 : decode cX10_truncate 1 = .ok (.iconst 0, 1) := by decide +kernel
theorem dX10_truncate_2 : decode cX10_truncate 2 = .ok (.putfield 50, 3) := by decide +kernel
theorem dX10_truncate_5 : decode cX10_truncate 5 = .ok (.iload_n 1, 1) := by decide +kernel
theorem dX10_truncate_6 : decode cX10_truncate 6 = .ok (.iconst 0, 1) := by decide +kernel
theorem dX10_truncate_7 : decode cX10_truncate 7 = .ok (.aload_n 0, 1) := by decide +kernel
theorem dX10_truncate_8 : decode cX10_truncate 8 = .ok (.getfield 57, 3) := by decide +kernel
theorem dX10_truncate_11 : decode cX10_truncate 11 = .ok (.invokestatic 53, 3) := by decide +kernel
theorem dX10_truncate_14 : decode cX10_truncate 14 = .ok (.ifCond .ne 9, 3) := by decide +kernel
theorem dX10_truncate_17 : decode cX10_truncate 17 = .ok (.aload_n 0, 1) := by decide +kernel
theorem dX10_truncate_18 : decode cX10_truncate 18 = .ok (.iconst 1, 1) := by decide +kernel
theorem dX10_truncate_19 : decode cX10_truncate 19 = .ok (.invokevirtual 60, 3) := by decide +kernel
theorem dX10_truncate_22 : decode cX10_truncate 22 = .ok (.ireturn, 1) := by decide +kernel
theorem dX10_truncate_23 : decode cX10_truncate 23 = .ok (.aload_n 0, 1) := by decide +kernel
theorem dX10_truncate_24 : decode cX10_truncate 24 = .ok (.iload_n 1, 1) := by decide +kernel
theorem dX10_truncate_25 : decode cX10_truncate 25 = .ok (.putfield 57, 3) := by decide +kernel
theorem dX10_truncate_28 : decode cX10_truncate 28 = .ok (.aload_n 0, 1) := by decide +kernel
theorem dX10_truncate_29 : decode cX10_truncate 29 = .ok (.getfield 57, 3) := by decide +kernel
theorem dX10_truncate_32 : decode cX10_truncate 32 = .ok (.ireturn, 1) := by decide +kernel
theorem dX10_here_0 : decode cX10_here 0 = .ok (.aload_n 0, 1) := by decide +kernel
theorem dX10_here_1 : decode cX10_here 1 = .ok (.getfield 68, 3) := by decide +kernel
theorem dX10_here_4 : decode cX10_here 4 = .ok (.aload_n 0, 1) := by decide +kernel
theorem dX10_here_5 : decode cX10_here 5 = .ok (.getfield 57, 3) := by decide +kernel
theorem dX10_here_8 : decode cX10_here 8 = .ok (.if_icmp .ge 44, 3) := by decide +kernel
theorem dX10_here_11 : decode cX10_here 11 = .ok (.aload_n 0, 1) := by decide +kernel
theorem dX10_here_12 : decode cX10_here 12 = .ok (.getfield 22, 3) := by decide +kernel
theorem dX10_here_15 : decode cX10_here 15 = .ok (.aload_n 0, 1) := by decide +kernel
theorem dX10_here_16 : decode cX10_here 16 = .ok (.getfield 68, 3) := by decide +kernel
theorem dX10_here_19 : decode cX10_here 19 = .ok (.iaload, 1) := by decide +kernel
theorem dX10_here_20 : decode cX10_here 20 = .ok (.bipush 32, 2) := by decide +kernel
theorem dX10_here_22 : decode cX10_here 22 = .ok (.if_icmp .eq 17, 3) := by decide +kernel
theorem dX10_here_25 : decode cX10_here 25 = .ok (.aload_n 0, 1) := by decide +kernel
theorem dX10_here_26 : decode cX10_here 26 = .ok (.getfield 22, 3) := by decide +kernel
theorem dX10_here_29 : decode cX10_here 29 = .ok (.aload_n 0, 1) := by decide +kernel
theorem dX10_here_30 : decode cX10_here 30 = .ok (.getfield 68, 3) := by decide +kernel
theorem dX10_here_33 : decode cX10_here 33 = .ok (.iaload, 1) := by decide +kernel
theorem dX10_here_34 : decode cX10_here 34 = .ok (.bipush 10, 2) := by decide +kernel
theorem dX10_here_36 : decode cX10_here 36 = .ok (.if_icmp .ne 16, 3) := by decide +kernel
theorem dX10_here_39 : decode cX10_here 39 = .ok (.aload_n 0, 1) := by decide +kernel
theorem dX10_here_40 : decode cX10_here 40 = .ok (.dup, 1) := by decide +kernel
theorem dX10_here_41 : decode cX10_here 41 = .ok (.getfield 68, 3) := by decide +kernel
theorem dX10_here_44 : decode cX10_here 44 = .ok (.iconst 1, 1) := by decide +kernel
theorem dX10_here_45 : decode cX10_here 45 = .ok (.iadd, 1) := by decide +kernel
theorem dX10_here_46 : decode cX10_here 46 = .ok (.putfield 68, 3) := by decide +kernel
theorem dX10_here_49 : decode cX10_here 49 = .ok (.goto (-49), 3) := by decide +kernel
theorem dX10_here_52 : decode cX10_here 52 = .ok (.aload_n 0, 1) := by decide +kernel
theorem dX10_here_53 : decode cX10_here 53 = .ok (.getfield 68, 3) := by decide +kernel
theorem dX10_here_56 : decode cX10_here 56 = .ok (.aload_n 0, 1) := by decide +kernel
theorem dX10_here_57 : decode cX10_here 57 = .ok (.getfield 57, 3) := by decide +kernel
theorem dX10_here_60 : decode cX10_here 60 = .ok (.if_icmp .ge 15, 3) := by decide +kernel
theorem dX10_here_63 : decode cX10_here 63 = .ok (.aload_n 0, 1) := by decide +kernel
theorem dX10_here_64 : decode cX10_here 64 = .ok (.getfield 22, 3) := by decide +kernel
theorem dX10_here_67 : decode cX10_here 67 = .ok (.aload_n 0, 1) := by decide +kernel
theorem dX10_here_68 : decode cX10_here 68 = .ok (.getfield 68, 3) := by decide +kernel
theorem dX10_here_71 : decode cX10_here 71 = .ok (.iaload, 1) := by decide +kernel
theorem dX10_here_72 : decode cX10_here 72 = .ok (.goto 4, 3) := by decide +kernel
theorem dX10_here_75 : decode cX10_here 75 = .ok (.iconst (-1), 1) := by decide +kernel
theorem dX10_here_76 : decode cX10_here 76 = .ok (.ireturn, 1) := by decide +kernel
theorem dX10_wrong_0 : decode cX10_wrong 0 = .ok (.aload_n 0, 1) := by decide +kernel
theorem dX10_wrong_1 : decode cX10_wrong 1 = .ok (.getfield 71, 3) := by decide +kernel
theorem dX10_wrong_4 : decode cX10_wrong 4 = .ok (.ifCond .eq 4, 3) := by decide +kernel
theorem dX10_wrong_7 : decode cX10_wrong 7 = .ok (.return_, 1) := by decide +kernel
theorem dX10_wrong_8 : decode cX10_wrong 8 = .ok (.aload_n 0, 1) := by decide +kernel
theorem dX10_wrong_9 : decode cX10_wrong 9 = .ok (.iconst 1, 1) := by decide +kernel
theorem dX10_wrong_10 : decode cX10_wrong 10 = .ok (.putfield 71, 3) := by decide +kernel
theorem dX10_wrong_13 : decode cX10_wrong 13 = .ok (.aload_n 0, 1) := by decide +kernel
theorem dX10_wrong_14 : decode cX10_wrong 14 = .ok (.iload_n 1, 1) := by decide +kernel
theorem dX10_wrong_15 : decode cX10_wrong 15 = .ok (.putfield 75, 3) := by decide +kernel
theorem dX10_wrong_18 : decode cX10_wrong 18 = .ok (.aload_n 0, 1) := by decide +kernel
theorem dX10_wrong_19 : decode cX10_wrong 19 = .ok (.iload_n 2, 1) := by decide +kernel
theorem dX10_wrong_20 : decode cX10_wrong 20 = .ok (.putfield 25, 3) := by decide +kernel
theorem dX10_wrong_23 : decode cX10_wrong 23 = .ok (.return_, 1) := by decide +kernel
theorem dX10_wordEnd_0 : decode cX10_wordEnd 0 = .ok (.aload_n 0, 1) := by decide +kernel
theorem dX10_wordEnd_1 : decode cX10_wordEnd 1 = .ok (.getfield 68, 3) := by decide +kernel
theorem dX10_wordEnd_4 : decode cX10_wordEnd 4 = .ok (.istore_n 1, 1) := by decide +kernel
theorem dX10_wordEnd_5 : decode cX10_wordEnd 5 = .ok (.iload_n 1, 1) := by decide +kernel
theorem dX10_wordEnd_6 : decode cX10_wordEnd 6 = .ok (.aload_n 0, 1) := by decide +kernel
theorem dX10_wordEnd_7 : decode cX10_wordEnd 7 = .ok (.getfield 57, 3) := by decide +kernel
theorem dX10_wordEnd_10 : decode cX10_wordEnd 10 = .ok (.if_icmp .ge 25, 3) := by decide +kernel
theorem dX10_wordEnd_13 : decode cX10_wordEnd 13 = .ok (.aload_n 0, 1) := by decide +kernel
theorem dX10_wordEnd_14 : decode cX10_wordEnd 14 = .ok (.getfield 22, 3) := by decide +kernel
theorem dX10_wordEnd_17 : decode cX10_wordEnd 17 = .ok (.iload_n 1, 1) := by decide +kernel
theorem dX10_wordEnd_18 : decode cX10_wordEnd 18 = .ok (.iaload, 1) := by decide +kernel
theorem dX10_wordEnd_19 : decode cX10_wordEnd 19 = .ok (.bipush 97, 2) := by decide +kernel
theorem dX10_wordEnd_21 : decode cX10_wordEnd 21 = .ok (.bipush 122, 2) := by decide +kernel
theorem dX10_wordEnd_23 : decode cX10_wordEnd 23 = .ok (.invokestatic 53, 3) := by decide +kernel
theorem dX10_wordEnd_26 : decode cX10_wordEnd 26 = .ok (.ifCond .eq 9, 3) := by decide +kernel
theorem dX10_wordEnd_29 : decode cX10_wordEnd 29 = .ok (.iinc 1 1, 3) := by decide +kernel
theorem dX10_wordEnd_32 : decode cX10_wordEnd 32 = .ok (.goto (-27), 3) := by decide +kernel
theorem dX10_wordEnd_35 : decode cX10_wordEnd 35 = .ok (.iload_n 1, 1) := by decide +kernel
theorem dX10_wordEnd_36 : decode cX10_wordEnd 36 = .ok (.ireturn, 1) := by decide +kernel
theorem dX10_word_0 : decode cX10_word 0 = .ok (.lconst 0, 1) := by decide +kernel
theorem dX10_word_1 : decode cX10_word 1 = .ok (.lstore_n 1, 1) := by decide +kernel
theorem dX10_word_2 : decode cX10_word 2 = .ok (.aload_n 0, 1) := by decide +kernel
theorem dX10_word_3 : decode cX10_word 3 = .ok (.invokevirtual 78, 3) := by decide +kernel
theorem dX10_word_6 : decode cX10_word 6 = .ok (.istore_n 3, 1) := by decide +kernel
theorem dX10_word_7 : decode cX10_word 7 = .ok (.aload_n 0, 1) := by decide +kernel
theorem dX10_word_8 : decode cX10_word 8 = .ok (.getfield 68, 3) := by decide +kernel
theorem dX10_word_11 : decode cX10_word 11 = .ok (.istore 4, 2) := by decide +kernel
theorem dX10_word_13 : decode cX10_word 13 = .ok (.iload 4, 2) := by decide +kernel
theorem dX10_word_15 : decode cX10_word 15 = .ok (.iload_n 3, 1) := by decide +kernel
theorem dX10_word_16 : decode cX10_word 16 = .ok (.if_icmp .ge 45, 3) := by decide +kernel
theorem dX10_word_19 : decode cX10_word 19 = .ok (.iload_n 3, 1) := by decide +kernel
theorem dX10_word_20 : decode cX10_word 20 = .ok (.aload_n 0, 1) := by decide +kernel
theorem dX10_word_21 : decode cX10_word 21 = .ok (.getfield 68, 3) := by decide +kernel
theorem dX10_word_24 : decode cX10_word 24 = .ok (.isub, 1) := by decide +kernel
theorem dX10_word_25 : decode cX10_word 25 = .ok (.bipush 9, 2) := by decide +kernel
theorem dX10_word_27 : decode cX10_word 27 = .ok (.if_icmp .le 9, 3) := by decide +kernel
theorem dX10_word_30 : decode cX10_word 30 = .ok (.ldc2_w 82, 3) := by decide +kernel
theorem dX10_word_33 : decode cX10_word 33 = .ok (.goto 21, 3) := by decide +kernel
theorem dX10_word_36 : decode cX10_word 36 = .ok (.ldc2_w 84, 3) := by decide +kernel
theorem dX10_word_39 : decode cX10_word 39 = .ok (.lload_n 1, 1) := by decide +kernel
theorem dX10_word_40 : decode cX10_word 40 = .ok (.lmul, 1) := by decide +kernel
theorem dX10_word_41 : decode cX10_word 41 = .ok (.aload_n 0, 1) := by decide +kernel
theorem dX10_word_42 : decode cX10_word 42 = .ok (.getfield 22, 3) := by decide +kernel
theorem dX10_word_45 : decode cX10_word 45 = .ok (.iload 4, 2) := by decide +kernel
theorem dX10_word_47 : decode cX10_word 47 = .ok (.iaload, 1) := by decide +kernel
theorem dX10_word_48 : decode cX10_word 48 = .ok (.i2l, 1) := by decide +kernel
theorem dX10_word_49 : decode cX10_word 49 = .ok (.ladd, 1) := by decide +kernel
theorem dX10_word_50 : decode cX10_word 50 = .ok (.ldc2_w 86, 3) := by decide +kernel
theorem dX10_word_53 : decode cX10_word 53 = .ok (.lsub, 1) := by decide +kernel
theorem dX10_word_54 : decode cX10_word 54 = .ok (.lstore_n 1, 1) := by decide +kernel
theorem dX10_word_55 : decode cX10_word 55 = .ok (.iinc 4 1, 3) := by decide +kernel
theorem dX10_word_58 : decode cX10_word 58 = .ok (.goto (-45), 3) := by decide +kernel
theorem dX10_word_61 : decode cX10_word 61 = .ok (.lload_n 1, 1) := by decide +kernel
theorem dX10_word_62 : decode cX10_word 62 = .ok (.lreturn, 1) := by decide +kernel
theorem dX10_number_0 : decode cX10_number 0 = .ok (.aload_n 0, 1) := by decide +kernel
theorem dX10_number_1 : decode cX10_number 1 = .ok (.getfield 71, 3) := by decide +kernel
theorem dX10_number_4 : decode cX10_number 4 = .ok (.ifCond .eq 5, 3) := by decide +kernel
theorem dX10_number_7 : decode cX10_number 7 = .ok (.iconst 0, 1) := by decide +kernel
theorem dX10_number_8 : decode cX10_number 8 = .ok (.ireturn, 1) := by decide +kernel
theorem dX10_number_9 : decode cX10_number 9 = .ok (.aload_n 0, 1) := by decide +kernel
theorem dX10_number_10 : decode cX10_number 10 = .ok (.invokevirtual 88, 3) := by decide +kernel
theorem dX10_number_13 : decode cX10_number 13 = .ok (.bipush 48, 2) := by decide +kernel
theorem dX10_number_15 : decode cX10_number 15 = .ok (.bipush 57, 2) := by decide +kernel
theorem dX10_number_17 : decode cX10_number 17 = .ok (.invokestatic 53, 3) := by decide +kernel
theorem dX10_number_20 : decode cX10_number 20 = .ok (.istore_n 3, 1) := by decide +kernel
theorem dX10_number_21 : decode cX10_number 21 = .ok (.aload_n 0, 1) := by decide +kernel
theorem dX10_number_22 : decode cX10_number 22 = .ok (.getfield 68, 3) := by decide +kernel
theorem dX10_number_25 : decode cX10_number 25 = .ok (.istore 4, 2) := by decide +kernel
theorem dX10_number_27 : decode cX10_number 27 = .ok (.iconst 0, 1) := by decide +kernel
theorem dX10_number_28 : decode cX10_number 28 = .ok (.istore 5, 2) := by decide +kernel
theorem dX10_number_30 : decode cX10_number 30 = .ok (.iload_n 3, 1) := by decide +kernel
theorem dX10_number_31 : decode cX10_number 31 = .ok (.ifCond .eq 83, 3) := by decide +kernel
theorem dX10_number_34 : decode cX10_number 34 = .ok (.aload_n 0, 1) := by decide +kernel
theorem dX10_number_35 : decode cX10_number 35 = .ok (.getfield 68, 3) := by decide +kernel
theorem dX10_number_38 : decode cX10_number 38 = .ok (.aload_n 0, 1) := by decide +kernel
theorem dX10_number_39 : decode cX10_number 39 = .ok (.getfield 57, 3) := by decide +kernel
theorem dX10_number_42 : decode cX10_number 42 = .ok (.if_icmp .ge 72, 3) := by decide +kernel
theorem dX10_number_45 : decode cX10_number 45 = .ok (.aload_n 0, 1) := by decide +kernel
theorem dX10_number_46 : decode cX10_number 46 = .ok (.getfield 22, 3) := by decide +kernel
theorem dX10_number_49 : decode cX10_number 49 = .ok (.aload_n 0, 1) := by decide +kernel
theorem dX10_number_50 : decode cX10_number 50 = .ok (.getfield 68, 3) := by decide +kernel
theorem dX10_number_53 : decode cX10_number 53 = .ok (.iaload, 1) := by decide +kernel
theorem dX10_number_54 : decode cX10_number 54 = .ok (.bipush 48, 2) := by decide +kernel
theorem dX10_number_56 : decode cX10_number 56 = .ok (.bipush 57, 2) := by decide +kernel
theorem dX10_number_58 : decode cX10_number 58 = .ok (.invokestatic 53, 3) := by decide +kernel
theorem dX10_number_61 : decode cX10_number 61 = .ok (.ifCond .eq 53, 3) := by decide +kernel
theorem dX10_number_64 : decode cX10_number 64 = .ok (.aload_n 0, 1) := by decide +kernel
theorem dX10_number_65 : decode cX10_number 65 = .ok (.getfield 68, 3) := by decide +kernel
theorem dX10_number_68 : decode cX10_number 68 = .ok (.iload 4, 2) := by decide +kernel
theorem dX10_number_70 : decode cX10_number 70 = .ok (.isub, 1) := by decide +kernel
theorem dX10_number_71 : decode cX10_number 71 = .ok (.bipush 6, 2) := by decide +kernel
theorem dX10_number_73 : decode cX10_number 73 = .ok (.if_icmp .ge 24, 3) := by decide +kernel
theorem dX10_number_76 : decode cX10_number 76 = .ok (.bipush 10, 2) := by decide +kernel
theorem dX10_number_78 : decode cX10_number 78 = .ok (.iload 5, 2) := by decide +kernel
theorem dX10_number_80 : decode cX10_number 80 = .ok (.imul, 1) := by decide +kernel
theorem dX10_number_81 : decode cX10_number 81 = .ok (.aload_n 0, 1) := by decide +kernel
theorem dX10_number_82 : decode cX10_number 82 = .ok (.getfield 22, 3) := by decide +kernel
theorem dX10_number_85 : decode cX10_number 85 = .ok (.aload_n 0, 1) := by decide +kernel
theorem dX10_number_86 : decode cX10_number 86 = .ok (.getfield 68, 3) := by decide +kernel
theorem dX10_number_89 : decode cX10_number 89 = .ok (.iaload, 1) := by decide +kernel
theorem dX10_number_90 : decode cX10_number 90 = .ok (.iadd, 1) := by decide +kernel
theorem dX10_number_91 : decode cX10_number 91 = .ok (.bipush 48, 2) := by decide +kernel
theorem dX10_number_93 : decode cX10_number 93 = .ok (.isub, 1) := by decide +kernel
theorem dX10_number_94 : decode cX10_number 94 = .ok (.goto 5, 3) := by decide +kernel
theorem dX10_number_97 : decode cX10_number 97 = .ok (.iload 5, 2) := by decide +kernel
theorem dX10_number_99 : decode cX10_number 99 = .ok (.istore 5, 2) := by decide +kernel
theorem dX10_number_101 : decode cX10_number 101 = .ok (.aload_n 0, 1) := by decide +kernel
theorem dX10_number_102 : decode cX10_number 102 = .ok (.dup, 1) := by decide +kernel
theorem dX10_number_103 : decode cX10_number 103 = .ok (.getfield 68, 3) := by decide +kernel
theorem dX10_number_106 : decode cX10_number 106 = .ok (.iconst 1, 1) := by decide +kernel
theorem dX10_number_107 : decode cX10_number 107 = .ok (.iadd, 1) := by decide +kernel
theorem dX10_number_108 : decode cX10_number 108 = .ok (.putfield 68, 3) := by decide +kernel
theorem dX10_number_111 : decode cX10_number 111 = .ok (.goto (-81), 3) := by decide +kernel
theorem dX10_number_114 : decode cX10_number 114 = .ok (.iload_n 3, 1) := by decide +kernel
theorem dX10_number_115 : decode cX10_number 115 = .ok (.ifCond .eq 15, 3) := by decide +kernel
theorem dX10_number_118 : decode cX10_number 118 = .ok (.aload_n 0, 1) := by decide +kernel
theorem dX10_number_119 : decode cX10_number 119 = .ok (.getfield 68, 3) := by decide +kernel
theorem dX10_number_122 : decode cX10_number 122 = .ok (.iload 4, 2) := by decide +kernel
theorem dX10_number_124 : decode cX10_number 124 = .ok (.isub, 1) := by decide +kernel
theorem dX10_number_125 : decode cX10_number 125 = .ok (.bipush 6, 2) := by decide +kernel
theorem dX10_number_127 : decode cX10_number 127 = .ok (.if_icmp .le 13, 3) := by decide +kernel
theorem dX10_number_130 : decode cX10_number 130 = .ok (.aload_n 0, 1) := by decide +kernel
theorem dX10_number_131 : decode cX10_number 131 = .ok (.iconst 1, 1) := by decide +kernel
theorem dX10_number_132 : decode cX10_number 132 = .ok (.iload 4, 2) := by decide +kernel
theorem dX10_number_134 : decode cX10_number 134 = .ok (.invokevirtual 91, 3) := by decide +kernel
theorem dX10_number_137 : decode cX10_number 137 = .ok (.goto 20, 3) := by decide +kernel
theorem dX10_number_140 : decode cX10_number 140 = .ok (.iload 5, 2) := by decide +kernel
theorem dX10_number_142 : decode cX10_number 142 = .ok (.iload_n 1, 1) := by decide +kernel
theorem dX10_number_143 : decode cX10_number 143 = .ok (.iload_n 2, 1) := by decide +kernel
theorem dX10_number_144 : decode cX10_number 144 = .ok (.invokestatic 53, 3) := by decide +kernel
theorem dX10_number_147 : decode cX10_number 147 = .ok (.ifCond .ne 10, 3) := by decide +kernel
theorem dX10_number_150 : decode cX10_number 150 = .ok (.aload_n 0, 1) := by decide +kernel
theorem dX10_number_151 : decode cX10_number 151 = .ok (.iconst 2, 1) := by decide +kernel
theorem dX10_number_152 : decode cX10_number 152 = .ok (.iload 4, 2) := by decide +kernel
theorem dX10_number_154 : decode cX10_number 154 = .ok (.invokevirtual 91, 3) := by decide +kernel
theorem dX10_number_157 : decode cX10_number 157 = .ok (.aload_n 0, 1) := by decide +kernel
theorem dX10_number_158 : decode cX10_number 158 = .ok (.getfield 71, 3) := by decide +kernel
theorem dX10_number_161 : decode cX10_number 161 = .ok (.ifCond .eq 7, 3) := by decide +kernel
theorem dX10_number_164 : decode cX10_number 164 = .ok (.iconst 0, 1) := by decide +kernel
theorem dX10_number_165 : decode cX10_number 165 = .ok (.goto 5, 3) := by decide +kernel
theorem dX10_number_168 : decode cX10_number 168 = .ok (.iload 5, 2) := by decide +kernel
theorem dX10_number_170 : decode cX10_number 170 = .ok (.ireturn, 1) := by decide +kernel
theorem dX10_takes_0 : decode cX10_takes 0 = .ok (.aload_n 0, 1) := by decide +kernel
theorem dX10_takes_1 : decode cX10_takes 1 = .ok (.getfield 71, 3) := by decide +kernel
theorem dX10_takes_4 : decode cX10_takes 4 = .ok (.ifCond .ne 20, 3) := by decide +kernel
theorem dX10_takes_7 : decode cX10_takes 7 = .ok (.aload_n 0, 1) := by decide +kernel
theorem dX10_takes_8 : decode cX10_takes 8 = .ok (.invokevirtual 88, 3) := by decide +kernel
theorem dX10_takes_11 : decode cX10_takes 11 = .ok (.iconst (-1), 1) := by decide +kernel
theorem dX10_takes_12 : decode cX10_takes 12 = .ok (.if_icmp .eq 12, 3) := by decide +kernel
theorem dX10_takes_15 : decode cX10_takes 15 = .ok (.aload_n 0, 1) := by decide +kernel
theorem dX10_takes_16 : decode cX10_takes 16 = .ok (.invokevirtual 95, 3) := by decide +kernel
theorem dX10_takes_19 : decode cX10_takes 19 = .ok (.lload_n 1, 1) := by decide +kernel
theorem dX10_takes_20 : decode cX10_takes 20 = .ok (.lcmp, 1) := by decide +kernel
theorem dX10_takes_21 : decode cX10_takes 21 = .ok (.ifCond .eq 5, 3) := by decide +kernel
theorem dX10_takes_24 : decode cX10_takes 24 = .ok (.iconst 0, 1) := by decide +kernel
theorem dX10_takes_25 : decode cX10_takes 25 = .ok (.ireturn, 1) := by decide +kernel
theorem dX10_takes_26 : decode cX10_takes 26 = .ok (.aload_n 0, 1) := by decide +kernel
theorem dX10_takes_27 : decode cX10_takes 27 = .ok (.aload_n 0, 1) := by decide +kernel
theorem dX10_takes_28 : decode cX10_takes 28 = .ok (.invokevirtual 78, 3) := by decide +kernel
theorem dX10_takes_31 : decode cX10_takes 31 = .ok (.putfield 68, 3) := by decide +kernel
theorem dX10_takes_34 : decode cX10_takes 34 = .ok (.iconst 1, 1) := by decide +kernel
theorem dX10_takes_35 : decode cX10_takes 35 = .ok (.ireturn, 1) := by decide +kernel
theorem dX10_adds_0 : decode cX10_adds 0 = .ok (.aload_n 0, 1) := by decide +kernel
theorem dX10_adds_1 : decode cX10_adds 1 = .ok (.getfield 13, 3) := by decide +kernel
theorem dX10_adds_4 : decode cX10_adds 4 = .ok (.iload_n 1, 1) := by decide +kernel
theorem dX10_adds_5 : decode cX10_adds 5 = .ok (.iaload, 1) := by decide +kernel
theorem dX10_adds_6 : decode cX10_adds 6 = .ok (.iload_n 2, 1) := by decide +kernel
theorem dX10_adds_7 : decode cX10_adds 7 = .ok (.if_icmp .ne 14, 3) := by decide +kernel
theorem dX10_adds_10 : decode cX10_adds 10 = .ok (.aload_n 0, 1) := by decide +kernel
theorem dX10_adds_11 : decode cX10_adds 11 = .ok (.iconst 3, 1) := by decide +kernel
theorem dX10_adds_12 : decode cX10_adds 12 = .ok (.aload_n 0, 1) := by decide +kernel
theorem dX10_adds_13 : decode cX10_adds 13 = .ok (.getfield 68, 3) := by decide +kernel
theorem dX10_adds_16 : decode cX10_adds 16 = .ok (.invokevirtual 91, 3) := by decide +kernel
theorem dX10_adds_19 : decode cX10_adds 19 = .ok (.iconst 0, 1) := by decide +kernel
theorem dX10_adds_20 : decode cX10_adds 20 = .ok (.ireturn, 1) := by decide +kernel
theorem dX10_adds_21 : decode cX10_adds 21 = .ok (.aload_n 0, 1) := by decide +kernel
theorem dX10_adds_22 : decode cX10_adds 22 = .ok (.aload_n 0, 1) := by decide +kernel
theorem dX10_adds_23 : decode cX10_adds 23 = .ok (.invokevirtual 78, 3) := by decide +kernel
theorem dX10_adds_26 : decode cX10_adds 26 = .ok (.putfield 68, 3) := by decide +kernel
theorem dX10_adds_29 : decode cX10_adds 29 = .ok (.iconst 1, 1) := by decide +kernel
theorem dX10_adds_30 : decode cX10_adds 30 = .ok (.ireturn, 1) := by decide +kernel
theorem dX10_panelLine_0 : decode cX10_panelLine 0 = .ok (.aload_n 0, 1) := by decide +kernel
theorem dX10_panelLine_1 : decode cX10_panelLine 1 = .ok (.iconst 0, 1) := by decide +kernel
theorem dX10_panelLine_2 : decode cX10_panelLine 2 = .ok (.iconst 4, 1) := by decide +kernel
theorem dX10_panelLine_3 : decode cX10_panelLine 3 = .ok (.invokevirtual 99, 3) := by decide +kernel
theorem dX10_panelLine_6 : decode cX10_panelLine 6 = .ok (.ifCond .eq 34, 3) := by decide +kernel
theorem dX10_panelLine_9 : decode cX10_panelLine 9 = .ok (.aload_n 0, 1) := by decide +kernel
theorem dX10_panelLine_10 : decode cX10_panelLine 10 = .ok (.getfield 13, 3) := by decide +kernel
theorem dX10_panelLine_13 : decode cX10_panelLine 13 = .ok (.bipush 7, 2) := by decide +kernel
theorem dX10_panelLine_15 : decode cX10_panelLine 15 = .ok (.aload_n 0, 1) := by decide +kernel
theorem dX10_panelLine_16 : decode cX10_panelLine 16 = .ok (.getfield 13, 3) := by decide +kernel
theorem dX10_panelLine_19 : decode cX10_panelLine 19 = .ok (.iconst 0, 1) := by decide +kernel
theorem dX10_panelLine_20 : decode cX10_panelLine 20 = .ok (.iaload, 1) := by decide +kernel
theorem dX10_panelLine_21 : decode cX10_panelLine 21 = .ok (.iadd, 1) := by decide +kernel
theorem dX10_panelLine_22 : decode cX10_panelLine 22 = .ok (.aload_n 0, 1) := by decide +kernel
theorem dX10_panelLine_23 : decode cX10_panelLine 23 = .ok (.iconst 0, 1) := by decide +kernel
theorem dX10_panelLine_24 : decode cX10_panelLine 24 = .ok (.ldc 103, 2) := by decide +kernel
theorem dX10_panelLine_26 : decode cX10_panelLine 26 = .ok (.invokevirtual 104, 3) := by decide +kernel
theorem dX10_panelLine_29 : decode cX10_panelLine 29 = .ok (.iastore, 1) := by decide +kernel
theorem dX10_panelLine_30 : decode cX10_panelLine 30 = .ok (.aload_n 0, 1) := by decide +kernel
theorem dX10_panelLine_31 : decode cX10_panelLine 31 = .ok (.getfield 13, 3) := by decide +kernel
theorem dX10_panelLine_34 : decode cX10_panelLine 34 = .ok (.iconst 0, 1) := by decide +kernel
theorem dX10_panelLine_35 : decode cX10_panelLine 35 = .ok (.dup2, 1) := by decide +kernel
theorem dX10_panelLine_36 : decode cX10_panelLine 36 = .ok (.iaload, 1) := by decide +kernel
theorem dX10_panelLine_37 : decode cX10_panelLine 37 = .ok (.iconst 1, 1) := by decide +kernel
theorem dX10_panelLine_38 : decode cX10_panelLine 38 = .ok (.iadd, 1) := by decide +kernel
theorem dX10_panelLine_39 : decode cX10_panelLine 39 = .ok (.iastore, 1) := by decide +kernel
theorem dX10_panelLine_40 : decode cX10_panelLine 40 = .ok (.return_, 1) := by decide +kernel
theorem dX10_reviewerLine_0 : decode cX10_reviewerLine 0 = .ok (.aload_n 0, 1) := by decide +kernel
theorem dX10_reviewerLine_1 : decode cX10_reviewerLine 1 = .ok (.iconst 1, 1) := by decide +kernel
theorem dX10_reviewerLine_2 : decode cX10_reviewerLine 2 = .ok (.bipush 12, 2) := by decide +kernel
theorem dX10_reviewerLine_4 : decode cX10_reviewerLine 4 = .ok (.invokevirtual 99, 3) := by decide +kernel
theorem dX10_reviewerLine_7 : decode cX10_reviewerLine 7 = .ok (.ifCond .ne 4, 3) := by decide +kernel
theorem dX10_reviewerLine_10 : decode cX10_reviewerLine 10 = .ok (.return_, 1) := by decide +kernel
theorem dX10_reviewerLine_11 : decode cX10_reviewerLine 11 = .ok (.bipush 11, 2) := by decide +kernel
theorem dX10_reviewerLine_13 : decode cX10_reviewerLine 13 = .ok (.iconst 4, 1) := by decide +kernel
theorem dX10_reviewerLine_14 : decode cX10_reviewerLine 14 = .ok (.aload_n 0, 1) := by decide +kernel
theorem dX10_reviewerLine_15 : decode cX10_reviewerLine 15 = .ok (.getfield 13, 3) := by decide +kernel
theorem dX10_reviewerLine_18 : decode cX10_reviewerLine 18 = .ok (.iconst 1, 1) := by decide +kernel
theorem dX10_reviewerLine_19 : decode cX10_reviewerLine 19 = .ok (.iaload, 1) := by decide +kernel
theorem dX10_reviewerLine_20 : decode cX10_reviewerLine 20 = .ok (.imul, 1) := by decide +kernel
theorem dX10_reviewerLine_21 : decode cX10_reviewerLine 21 = .ok (.iadd, 1) := by decide +kernel
theorem dX10_reviewerLine_22 : decode cX10_reviewerLine 22 = .ok (.istore_n 1, 1) := by decide +kernel
theorem dX10_reviewerLine_23 : decode cX10_reviewerLine 23 = .ok (.aload_n 0, 1) := by decide +kernel
theorem dX10_reviewerLine_24 : decode cX10_reviewerLine 24 = .ok (.getfield 13, 3) := by decide +kernel
theorem dX10_reviewerLine_27 : decode cX10_reviewerLine 27 = .ok (.iload_n 1, 1) := by decide +kernel
theorem dX10_reviewerLine_28 : decode cX10_reviewerLine 28 = .ok (.iconst 0, 1) := by decide +kernel
theorem dX10_reviewerLine_29 : decode cX10_reviewerLine 29 = .ok (.iadd, 1) := by decide +kernel
theorem dX10_reviewerLine_30 : decode cX10_reviewerLine 30 = .ok (.aload_n 0, 1) := by decide +kernel
theorem dX10_reviewerLine_31 : decode cX10_reviewerLine 31 = .ok (.iconst 0, 1) := by decide +kernel
theorem dX10_reviewerLine_32 : decode cX10_reviewerLine 32 = .ok (.aload_n 0, 1) := by decide +kernel
theorem dX10_reviewerLine_33 : decode cX10_reviewerLine 33 = .ok (.getfield 13, 3) := by decide +kernel
theorem dX10_reviewerLine_36 : decode cX10_reviewerLine 36 = .ok (.iconst 0, 1) := by decide +kernel
theorem dX10_reviewerLine_37 : decode cX10_reviewerLine 37 = .ok (.iaload, 1) := by decide +kernel
theorem dX10_reviewerLine_38 : decode cX10_reviewerLine 38 = .ok (.iconst 1, 1) := by decide +kernel
theorem dX10_reviewerLine_39 : decode cX10_reviewerLine 39 = .ok (.isub, 1) := by decide +kernel
theorem dX10_reviewerLine_40 : decode cX10_reviewerLine 40 = .ok (.invokevirtual 104, 3) := by decide +kernel
theorem dX10_reviewerLine_43 : decode cX10_reviewerLine 43 = .ok (.iastore, 1) := by decide +kernel
theorem dX10_reviewerLine_44 : decode cX10_reviewerLine 44 = .ok (.aload_n 0, 1) := by decide +kernel
theorem dX10_reviewerLine_45 : decode cX10_reviewerLine 45 = .ok (.getfield 13, 3) := by decide +kernel
theorem dX10_reviewerLine_48 : decode cX10_reviewerLine 48 = .ok (.iload_n 1, 1) := by decide +kernel
theorem dX10_reviewerLine_49 : decode cX10_reviewerLine 49 = .ok (.iconst 1, 1) := by decide +kernel
theorem dX10_reviewerLine_50 : decode cX10_reviewerLine 50 = .ok (.iadd, 1) := by decide +kernel
theorem dX10_reviewerLine_51 : decode cX10_reviewerLine 51 = .ok (.aload_n 0, 1) := by decide +kernel
theorem dX10_reviewerLine_52 : decode cX10_reviewerLine 52 = .ok (.iconst 0, 1) := by decide +kernel
theorem dX10_reviewerLine_53 : decode cX10_reviewerLine 53 = .ok (.bipush 9, 2) := by decide +kernel
theorem dX10_reviewerLine_55 : decode cX10_reviewerLine 55 = .ok (.invokevirtual 104, 3) := by decide +kernel
theorem dX10_reviewerLine_58 : decode cX10_reviewerLine 58 = .ok (.iastore, 1) := by decide +kernel
theorem dX10_reviewerLine_59 : decode cX10_reviewerLine 59 = .ok (.aload_n 0, 1) := by decide +kernel
theorem dX10_reviewerLine_60 : decode cX10_reviewerLine 60 = .ok (.getfield 13, 3) := by decide +kernel
theorem dX10_reviewerLine_63 : decode cX10_reviewerLine 63 = .ok (.iload_n 1, 1) := by decide +kernel
theorem dX10_reviewerLine_64 : decode cX10_reviewerLine 64 = .ok (.iconst 2, 1) := by decide +kernel
theorem dX10_reviewerLine_65 : decode cX10_reviewerLine 65 = .ok (.iadd, 1) := by decide +kernel
theorem dX10_reviewerLine_66 : decode cX10_reviewerLine 66 = .ok (.aload_n 0, 1) := by decide +kernel
theorem dX10_reviewerLine_67 : decode cX10_reviewerLine 67 = .ok (.iconst 1, 1) := by decide +kernel
theorem dX10_reviewerLine_68 : decode cX10_reviewerLine 68 = .ok (.bipush 10, 2) := by decide +kernel
theorem dX10_reviewerLine_70 : decode cX10_reviewerLine 70 = .ok (.invokevirtual 104, 3) := by decide +kernel
theorem dX10_reviewerLine_73 : decode cX10_reviewerLine 73 = .ok (.iastore, 1) := by decide +kernel
theorem dX10_reviewerLine_74 : decode cX10_reviewerLine 74 = .ok (.aload_n 0, 1) := by decide +kernel
theorem dX10_reviewerLine_75 : decode cX10_reviewerLine 75 = .ok (.getfield 71, 3) := by decide +kernel
theorem dX10_reviewerLine_78 : decode cX10_reviewerLine 78 = .ok (.ifCond .ne 22, 3) := by decide +kernel
theorem dX10_reviewerLine_81 : decode cX10_reviewerLine 81 = .ok (.aload_n 0, 1) := by decide +kernel
theorem dX10_reviewerLine_82 : decode cX10_reviewerLine 82 = .ok (.ldc2_w 108, 3) := by decide +kernel
theorem dX10_reviewerLine_85 : decode cX10_reviewerLine 85 = .ok (.invokevirtual 110, 3) := by decide +kernel
theorem dX10_reviewerLine_88 : decode cX10_reviewerLine 88 = .ok (.ifCond .ne 12, 3) := by decide +kernel
theorem dX10_reviewerLine_91 : decode cX10_reviewerLine 91 = .ok (.aload_n 0, 1) := by decide +kernel
theorem dX10_reviewerLine_92 : decode cX10_reviewerLine 92 = .ok (.iconst 1, 1) := by decide +kernel
theorem dX10_reviewerLine_93 : decode cX10_reviewerLine 93 = .ok (.aload_n 0, 1) := by decide +kernel
theorem dX10_reviewerLine_94 : decode cX10_reviewerLine 94 = .ok (.getfield 68, 3) := by decide +kernel
theorem dX10_reviewerLine_97 : decode cX10_reviewerLine 97 = .ok (.invokevirtual 91, 3) := by decide +kernel
theorem dX10_reviewerLine_100 : decode cX10_reviewerLine 100 = .ok (.iconst 1, 1) := by decide +kernel
theorem dX10_reviewerLine_101 : decode cX10_reviewerLine 101 = .ok (.aload_n 0, 1) := by decide +kernel
theorem dX10_reviewerLine_102 : decode cX10_reviewerLine 102 = .ok (.iconst 0, 1) := by decide +kernel
theorem dX10_reviewerLine_103 : decode cX10_reviewerLine 103 = .ok (.bipush 7, 2) := by decide +kernel
theorem dX10_reviewerLine_105 : decode cX10_reviewerLine 105 = .ok (.invokevirtual 104, 3) := by decide +kernel
theorem dX10_reviewerLine_108 : decode cX10_reviewerLine 108 = .ok (.ishl, 1) := by decide +kernel
theorem dX10_reviewerLine_109 : decode cX10_reviewerLine 109 = .ok (.istore_n 2, 1) := by decide +kernel
theorem dX10_reviewerLine_110 : decode cX10_reviewerLine 110 = .ok (.aload_n 0, 1) := by decide +kernel
theorem dX10_reviewerLine_111 : decode cX10_reviewerLine 111 = .ok (.getfield 71, 3) := by decide +kernel
theorem dX10_reviewerLine_114 : decode cX10_reviewerLine 114 = .ok (.ifCond .ne 32, 3) := by decide +kernel
theorem dX10_reviewerLine_117 : decode cX10_reviewerLine 117 = .ok (.aload_n 0, 1) := by decide +kernel
theorem dX10_reviewerLine_118 : decode cX10_reviewerLine 118 = .ok (.invokevirtual 88, 3) := by decide +kernel
theorem dX10_reviewerLine_121 : decode cX10_reviewerLine 121 = .ok (.bipush 48, 2) := by decide +kernel
theorem dX10_reviewerLine_123 : decode cX10_reviewerLine 123 = .ok (.bipush 57, 2) := by decide +kernel
theorem dX10_reviewerLine_125 : decode cX10_reviewerLine 125 = .ok (.invokestatic 53, 3) := by decide +kernel
theorem dX10_reviewerLine_128 : decode cX10_reviewerLine 128 = .ok (.ifCond .eq 18, 3) := by decide +kernel
theorem dX10_reviewerLine_131 : decode cX10_reviewerLine 131 = .ok (.iload_n 2, 1) := by decide +kernel
theorem dX10_reviewerLine_132 : decode cX10_reviewerLine 132 = .ok (.iconst 1, 1) := by decide +kernel
theorem dX10_reviewerLine_133 : decode cX10_reviewerLine 133 = .ok (.aload_n 0, 1) := by decide +kernel
theorem dX10_reviewerLine_134 : decode cX10_reviewerLine 134 = .ok (.iconst 0, 1) := by decide +kernel
theorem dX10_reviewerLine_135 : decode cX10_reviewerLine 135 = .ok (.bipush 7, 2) := by decide +kernel
theorem dX10_reviewerLine_137 : decode cX10_reviewerLine 137 = .ok (.invokevirtual 104, 3) := by decide +kernel
theorem dX10_reviewerLine_140 : decode cX10_reviewerLine 140 = .ok (.ishl, 1) := by decide +kernel
theorem dX10_reviewerLine_141 : decode cX10_reviewerLine 141 = .ok (.ior, 1) := by decide +kernel
theorem dX10_reviewerLine_142 : decode cX10_reviewerLine 142 = .ok (.istore_n 2, 1) := by decide +kernel
theorem dX10_reviewerLine_143 : decode cX10_reviewerLine 143 = .ok (.goto (-33), 3) := by decide +kernel
theorem dX10_reviewerLine_146 : decode cX10_reviewerLine 146 = .ok (.aload_n 0, 1) := by decide +kernel
theorem dX10_reviewerLine_147 : decode cX10_reviewerLine 147 = .ok (.getfield 13, 3) := by decide +kernel
theorem dX10_reviewerLine_150 : decode cX10_reviewerLine 150 = .ok (.iload_n 1, 1) := by decide +kernel
theorem dX10_reviewerLine_151 : decode cX10_reviewerLine 151 = .ok (.iconst 3, 1) := by decide +kernel
theorem dX10_reviewerLine_152 : decode cX10_reviewerLine 152 = .ok (.iadd, 1) := by decide +kernel
theorem dX10_reviewerLine_153 : decode cX10_reviewerLine 153 = .ok (.iload_n 2, 1) := by decide +kernel
theorem dX10_reviewerLine_154 : decode cX10_reviewerLine 154 = .ok (.iastore, 1) := by decide +kernel
theorem dX10_reviewerLine_155 : decode cX10_reviewerLine 155 = .ok (.aload_n 0, 1) := by decide +kernel
theorem dX10_reviewerLine_156 : decode cX10_reviewerLine 156 = .ok (.getfield 13, 3) := by decide +kernel
theorem dX10_reviewerLine_159 : decode cX10_reviewerLine 159 = .ok (.iconst 1, 1) := by decide +kernel
theorem dX10_reviewerLine_160 : decode cX10_reviewerLine 160 = .ok (.dup2, 1) := by decide +kernel
theorem dX10_reviewerLine_161 : decode cX10_reviewerLine 161 = .ok (.iaload, 1) := by decide +kernel
theorem dX10_reviewerLine_162 : decode cX10_reviewerLine 162 = .ok (.iconst 1, 1) := by decide +kernel
theorem dX10_reviewerLine_163 : decode cX10_reviewerLine 163 = .ok (.iadd, 1) := by decide +kernel
theorem dX10_reviewerLine_164 : decode cX10_reviewerLine 164 = .ok (.iastore, 1) := by decide +kernel
theorem dX10_reviewerLine_165 : decode cX10_reviewerLine 165 = .ok (.return_, 1) := by decide +kernel
theorem dX10_proposalLine_0 : decode cX10_proposalLine 0 = .ok (.aload_n 0, 1) := by decide +kernel
theorem dX10_proposalLine_1 : decode cX10_proposalLine 1 = .ok (.iconst 2, 1) := by decide +kernel
theorem dX10_proposalLine_2 : decode cX10_proposalLine 2 = .ok (.bipush 16, 2) := by decide +kernel
theorem dX10_proposalLine_4 : decode cX10_proposalLine 4 = .ok (.invokevirtual 99, 3) := by decide +kernel
theorem dX10_proposalLine_7 : decode cX10_proposalLine 7 = .ok (.ifCond .ne 4, 3) := by decide +kernel
theorem dX10_proposalLine_10 : decode cX10_proposalLine 10 = .ok (.return_, 1) := by decide +kernel
theorem dX10_proposalLine_11 : decode cX10_proposalLine 11 = .ok (.bipush 59, 2) := by decide +kernel
theorem dX10_proposalLine_13 : decode cX10_proposalLine 13 = .ok (.iconst 5, 1) := by decide +kernel
theorem dX10_proposalLine_14 : decode cX10_proposalLine 14 = .ok (.aload_n 0, 1) := by decide +kernel
theorem dX10_proposalLine_15 : decode cX10_proposalLine 15 = .ok (.getfield 13, 3) := by decide +kernel
theorem dX10_proposalLine_18 : decode cX10_proposalLine 18 = .ok (.iconst 2, 1) := by decide +kernel
theorem dX10_proposalLine_19 : decode cX10_proposalLine 19 = .ok (.iaload, 1) := by decide +kernel
theorem dX10_proposalLine_20 : decode cX10_proposalLine 20 = .ok (.imul, 1) := by decide +kernel
theorem dX10_proposalLine_21 : decode cX10_proposalLine 21 = .ok (.iadd, 1) := by decide +kernel
theorem dX10_proposalLine_22 : decode cX10_proposalLine 22 = .ok (.istore_n 1, 1) := by decide +kernel
theorem dX10_proposalLine_23 : decode cX10_proposalLine 23 = .ok (.aload_n 0, 1) := by decide +kernel
theorem dX10_proposalLine_24 : decode cX10_proposalLine 24 = .ok (.getfield 13, 3) := by decide +kernel
theorem dX10_proposalLine_27 : decode cX10_proposalLine 27 = .ok (.iload_n 1, 1) := by decide +kernel
theorem dX10_proposalLine_28 : decode cX10_proposalLine 28 = .ok (.iconst 0, 1) := by decide +kernel
theorem dX10_proposalLine_29 : decode cX10_proposalLine 29 = .ok (.iadd, 1) := by decide +kernel
theorem dX10_proposalLine_30 : decode cX10_proposalLine 30 = .ok (.aload_n 0, 1) := by decide +kernel
theorem dX10_proposalLine_31 : decode cX10_proposalLine 31 = .ok (.iconst 0, 1) := by decide +kernel
theorem dX10_proposalLine_32 : decode cX10_proposalLine 32 = .ok (.aload_n 0, 1) := by decide +kernel
theorem dX10_proposalLine_33 : decode cX10_proposalLine 33 = .ok (.getfield 13, 3) := by decide +kernel
theorem dX10_proposalLine_36 : decode cX10_proposalLine 36 = .ok (.iconst 0, 1) := by decide +kernel
theorem dX10_proposalLine_37 : decode cX10_proposalLine 37 = .ok (.iaload, 1) := by decide +kernel
theorem dX10_proposalLine_38 : decode cX10_proposalLine 38 = .ok (.iconst 1, 1) := by decide +kernel
theorem dX10_proposalLine_39 : decode cX10_proposalLine 39 = .ok (.isub, 1) := by decide +kernel
theorem dX10_proposalLine_40 : decode cX10_proposalLine 40 = .ok (.invokevirtual 104, 3) := by decide +kernel
theorem dX10_proposalLine_43 : decode cX10_proposalLine 43 = .ok (.iastore, 1) := by decide +kernel
theorem dX10_proposalLine_44 : decode cX10_proposalLine 44 = .ok (.aload_n 0, 1) := by decide +kernel
theorem dX10_proposalLine_45 : decode cX10_proposalLine 45 = .ok (.getfield 13, 3) := by decide +kernel
theorem dX10_proposalLine_48 : decode cX10_proposalLine 48 = .ok (.iload_n 1, 1) := by decide +kernel
theorem dX10_proposalLine_49 : decode cX10_proposalLine 49 = .ok (.iconst 1, 1) := by decide +kernel
theorem dX10_proposalLine_50 : decode cX10_proposalLine 50 = .ok (.iadd, 1) := by decide +kernel
theorem dX10_proposalLine_51 : decode cX10_proposalLine 51 = .ok (.aload_n 0, 1) := by decide +kernel
theorem dX10_proposalLine_52 : decode cX10_proposalLine 52 = .ok (.iconst 0, 1) := by decide +kernel
theorem dX10_proposalLine_53 : decode cX10_proposalLine 53 = .ok (.bipush 9, 2) := by decide +kernel
theorem dX10_proposalLine_55 : decode cX10_proposalLine 55 = .ok (.invokevirtual 104, 3) := by decide +kernel
theorem dX10_proposalLine_58 : decode cX10_proposalLine 58 = .ok (.iastore, 1) := by decide +kernel
theorem dX10_proposalLine_59 : decode cX10_proposalLine 59 = .ok (.aload_n 0, 1) := by decide +kernel
theorem dX10_proposalLine_60 : decode cX10_proposalLine 60 = .ok (.getfield 13, 3) := by decide +kernel
theorem dX10_proposalLine_63 : decode cX10_proposalLine 63 = .ok (.iload_n 1, 1) := by decide +kernel
theorem dX10_proposalLine_64 : decode cX10_proposalLine 64 = .ok (.iconst 2, 1) := by decide +kernel
theorem dX10_proposalLine_65 : decode cX10_proposalLine 65 = .ok (.iadd, 1) := by decide +kernel
theorem dX10_proposalLine_66 : decode cX10_proposalLine 66 = .ok (.aload_n 0, 1) := by decide +kernel
theorem dX10_proposalLine_67 : decode cX10_proposalLine 67 = .ok (.iconst 0, 1) := by decide +kernel
theorem dX10_proposalLine_68 : decode cX10_proposalLine 68 = .ok (.bipush 7, 2) := by decide +kernel
theorem dX10_proposalLine_70 : decode cX10_proposalLine 70 = .ok (.invokevirtual 104, 3) := by decide +kernel
theorem dX10_proposalLine_73 : decode cX10_proposalLine 73 = .ok (.iastore, 1) := by decide +kernel
theorem dX10_proposalLine_74 : decode cX10_proposalLine 74 = .ok (.aload_n 0, 1) := by decide +kernel
theorem dX10_proposalLine_75 : decode cX10_proposalLine 75 = .ok (.getfield 13, 3) := by decide +kernel
theorem dX10_proposalLine_78 : decode cX10_proposalLine 78 = .ok (.iload_n 1, 1) := by decide +kernel
theorem dX10_proposalLine_79 : decode cX10_proposalLine 79 = .ok (.iconst 3, 1) := by decide +kernel
theorem dX10_proposalLine_80 : decode cX10_proposalLine 80 = .ok (.iadd, 1) := by decide +kernel
theorem dX10_proposalLine_81 : decode cX10_proposalLine 81 = .ok (.aload_n 0, 1) := by decide +kernel
theorem dX10_proposalLine_82 : decode cX10_proposalLine 82 = .ok (.iconst 1, 1) := by decide +kernel
theorem dX10_proposalLine_83 : decode cX10_proposalLine 83 = .ok (.sipush 9999, 3) := by decide +kernel
theorem dX10_proposalLine_86 : decode cX10_proposalLine 86 = .ok (.invokevirtual 104, 3) := by decide +kernel
theorem dX10_proposalLine_89 : decode cX10_proposalLine 89 = .ok (.iastore, 1) := by decide +kernel
theorem dX10_proposalLine_90 : decode cX10_proposalLine 90 = .ok (.aload_n 0, 1) := by decide +kernel
theorem dX10_proposalLine_91 : decode cX10_proposalLine 91 = .ok (.getfield 13, 3) := by decide +kernel
theorem dX10_proposalLine_94 : decode cX10_proposalLine 94 = .ok (.iload_n 1, 1) := by decide +kernel
theorem dX10_proposalLine_95 : decode cX10_proposalLine 95 = .ok (.iconst 4, 1) := by decide +kernel
theorem dX10_proposalLine_96 : decode cX10_proposalLine 96 = .ok (.iadd, 1) := by decide +kernel
theorem dX10_proposalLine_97 : decode cX10_proposalLine 97 = .ok (.aload_n 0, 1) := by decide +kernel
theorem dX10_proposalLine_98 : decode cX10_proposalLine 98 = .ok (.ldc2_w 114, 3) := by decide +kernel
theorem dX10_proposalLine_101 : decode cX10_proposalLine 101 = .ok (.invokevirtual 110, 3) := by decide +kernel
theorem dX10_proposalLine_104 : decode cX10_proposalLine 104 = .ok (.ifCond .eq 19, 3) := by decide +kernel
theorem dX10_proposalLine_107 : decode cX10_proposalLine 107 = .ok (.aload_n 0, 1) := by decide +kernel
theorem dX10_proposalLine_108 : decode cX10_proposalLine 108 = .ok (.iconst 1, 1) := by decide +kernel
theorem dX10_proposalLine_109 : decode cX10_proposalLine 109 = .ok (.aload_n 0, 1) := by decide +kernel
theorem dX10_proposalLine_110 : decode cX10_proposalLine 110 = .ok (.getfield 13, 3) := by decide +kernel
theorem dX10_proposalLine_113 : decode cX10_proposalLine 113 = .ok (.iload_n 1, 1) := by decide +kernel
theorem dX10_proposalLine_114 : decode cX10_proposalLine 114 = .ok (.iconst 3, 1) := by decide +kernel
theorem dX10_proposalLine_115 : decode cX10_proposalLine 115 = .ok (.iadd, 1) := by decide +kernel
theorem dX10_proposalLine_116 : decode cX10_proposalLine 116 = .ok (.iaload, 1) := by decide +kernel
theorem dX10_proposalLine_117 : decode cX10_proposalLine 117 = .ok (.invokevirtual 104, 3) := by decide +kernel
theorem dX10_proposalLine_120 : decode cX10_proposalLine 120 = .ok (.goto 11, 3) := by decide +kernel
theorem dX10_proposalLine_123 : decode cX10_proposalLine 123 = .ok (.aload_n 0, 1) := by decide +kernel
theorem dX10_proposalLine_124 : decode cX10_proposalLine 124 = .ok (.getfield 13, 3) := by decide +kernel
theorem dX10_proposalLine_127 : decode cX10_proposalLine 127 = .ok (.iload_n 1, 1) := by decide +kernel
theorem dX10_proposalLine_128 : decode cX10_proposalLine 128 = .ok (.iconst 3, 1) := by decide +kernel
theorem dX10_proposalLine_129 : decode cX10_proposalLine 129 = .ok (.iadd, 1) := by decide +kernel
theorem dX10_proposalLine_130 : decode cX10_proposalLine 130 = .ok (.iaload, 1) := by decide +kernel
theorem dX10_proposalLine_131 : decode cX10_proposalLine 131 = .ok (.iastore, 1) := by decide +kernel
theorem dX10_proposalLine_132 : decode cX10_proposalLine 132 = .ok (.aload_n 0, 1) := by decide +kernel
theorem dX10_proposalLine_133 : decode cX10_proposalLine 133 = .ok (.getfield 13, 3) := by decide +kernel
theorem dX10_proposalLine_136 : decode cX10_proposalLine 136 = .ok (.iconst 2, 1) := by decide +kernel
theorem dX10_proposalLine_137 : decode cX10_proposalLine 137 = .ok (.dup2, 1) := by decide +kernel
theorem dX10_proposalLine_138 : decode cX10_proposalLine 138 = .ok (.iaload, 1) := by decide +kernel
theorem dX10_proposalLine_139 : decode cX10_proposalLine 139 = .ok (.iconst 1, 1) := by decide +kernel
theorem dX10_proposalLine_140 : decode cX10_proposalLine 140 = .ok (.iadd, 1) := by decide +kernel
theorem dX10_proposalLine_141 : decode cX10_proposalLine 141 = .ok (.iastore, 1) := by decide +kernel
theorem dX10_proposalLine_142 : decode cX10_proposalLine 142 = .ok (.return_, 1) := by decide +kernel
theorem dX10_conflictLine_0 : decode cX10_conflictLine 0 = .ok (.aload_n 0, 1) := by decide +kernel
theorem dX10_conflictLine_1 : decode cX10_conflictLine 1 = .ok (.aload_n 0, 1) := by decide +kernel
theorem dX10_conflictLine_2 : decode cX10_conflictLine 2 = .ok (.invokevirtual 78, 3) := by decide +kernel
theorem dX10_conflictLine_5 : decode cX10_conflictLine 5 = .ok (.putfield 68, 3) := by decide +kernel
theorem dX10_conflictLine_8 : decode cX10_conflictLine 8 = .ok (.aload_n 0, 1) := by decide +kernel
theorem dX10_conflictLine_9 : decode cX10_conflictLine 9 = .ok (.iconst 0, 1) := by decide +kernel
theorem dX10_conflictLine_10 : decode cX10_conflictLine 10 = .ok (.aload_n 0, 1) := by decide +kernel
theorem dX10_conflictLine_11 : decode cX10_conflictLine 11 = .ok (.getfield 13, 3) := by decide +kernel
theorem dX10_conflictLine_14 : decode cX10_conflictLine 14 = .ok (.iconst 1, 1) := by decide +kernel
theorem dX10_conflictLine_15 : decode cX10_conflictLine 15 = .ok (.iaload, 1) := by decide +kernel
theorem dX10_conflictLine_16 : decode cX10_conflictLine 16 = .ok (.iconst 1, 1) := by decide +kernel
theorem dX10_conflictLine_17 : decode cX10_conflictLine 17 = .ok (.isub, 1) := by decide +kernel
theorem dX10_conflictLine_18 : decode cX10_conflictLine 18 = .ok (.invokevirtual 104, 3) := by decide +kernel
theorem dX10_conflictLine_21 : decode cX10_conflictLine 21 = .ok (.istore_n 1, 1) := by decide +kernel
theorem dX10_conflictLine_22 : decode cX10_conflictLine 22 = .ok (.aload_n 0, 1) := by decide +kernel
theorem dX10_conflictLine_23 : decode cX10_conflictLine 23 = .ok (.iconst 0, 1) := by decide +kernel
theorem dX10_conflictLine_24 : decode cX10_conflictLine 24 = .ok (.aload_n 0, 1) := by decide +kernel
theorem dX10_conflictLine_25 : decode cX10_conflictLine 25 = .ok (.getfield 13, 3) := by decide +kernel
theorem dX10_conflictLine_28 : decode cX10_conflictLine 28 = .ok (.iconst 2, 1) := by decide +kernel
theorem dX10_conflictLine_29 : decode cX10_conflictLine 29 = .ok (.iaload, 1) := by decide +kernel
theorem dX10_conflictLine_30 : decode cX10_conflictLine 30 = .ok (.iconst 1, 1) := by decide +kernel
theorem dX10_conflictLine_31 : decode cX10_conflictLine 31 = .ok (.isub, 1) := by decide +kernel
theorem dX10_conflictLine_32 : decode cX10_conflictLine 32 = .ok (.invokevirtual 104, 3) := by decide +kernel
theorem dX10_conflictLine_35 : decode cX10_conflictLine 35 = .ok (.istore_n 2, 1) := by decide +kernel
theorem dX10_conflictLine_36 : decode cX10_conflictLine 36 = .ok (.aload_n 0, 1) := by decide +kernel
theorem dX10_conflictLine_37 : decode cX10_conflictLine 37 = .ok (.getfield 13, 3) := by decide +kernel
theorem dX10_conflictLine_40 : decode cX10_conflictLine 40 = .ok (.sipush 139, 3) := by decide +kernel
theorem dX10_conflictLine_43 : decode cX10_conflictLine 43 = .ok (.iload_n 1, 1) := by decide +kernel
theorem dX10_conflictLine_44 : decode cX10_conflictLine 44 = .ok (.iadd, 1) := by decide +kernel
theorem dX10_conflictLine_45 : decode cX10_conflictLine 45 = .ok (.dup2, 1) := by decide +kernel
theorem dX10_conflictLine_46 : decode cX10_conflictLine 46 = .ok (.iaload, 1) := by decide +kernel
theorem dX10_conflictLine_47 : decode cX10_conflictLine 47 = .ok (.iconst 1, 1) := by decide +kernel
theorem dX10_conflictLine_48 : decode cX10_conflictLine 48 = .ok (.iload_n 2, 1) := by decide +kernel
theorem dX10_conflictLine_49 : decode cX10_conflictLine 49 = .ok (.ishl, 1) := by decide +kernel
theorem dX10_conflictLine_50 : decode cX10_conflictLine 50 = .ok (.ior, 1) := by decide +kernel
theorem dX10_conflictLine_51 : decode cX10_conflictLine 51 = .ok (.iastore, 1) := by decide +kernel
theorem dX10_conflictLine_52 : decode cX10_conflictLine 52 = .ok (.return_, 1) := by decide +kernel
theorem dX10_textLine_0 : decode cX10_textLine 0 = .ok (.aload_n 0, 1) := by decide +kernel
theorem dX10_textLine_1 : decode cX10_textLine 1 = .ok (.invokevirtual 95, 3) := by decide +kernel
theorem dX10_textLine_4 : decode cX10_textLine 4 = .ok (.lstore_n 1, 1) := by decide +kernel
theorem dX10_textLine_5 : decode cX10_textLine 5 = .ok (.lload_n 1, 1) := by decide +kernel
theorem dX10_textLine_6 : decode cX10_textLine 6 = .ok (.ldc2_w 116, 3) := by decide +kernel
theorem dX10_textLine_9 : decode cX10_textLine 9 = .ok (.lcmp, 1) := by decide +kernel
theorem dX10_textLine_10 : decode cX10_textLine 10 = .ok (.ifCond .ne 10, 3) := by decide +kernel
theorem dX10_textLine_13 : decode cX10_textLine 13 = .ok (.aload_n 0, 1) := by decide +kernel
theorem dX10_textLine_14 : decode cX10_textLine 14 = .ok (.invokevirtual 118, 3) := by decide +kernel
theorem dX10_textLine_17 : decode cX10_textLine 17 = .ok (.goto 173, 3) := by decide +kernel
theorem dX10_textLine_20 : decode cX10_textLine 20 = .ok (.lload_n 1, 1) := by decide +kernel
theorem dX10_textLine_21 : decode cX10_textLine 21 = .ok (.ldc2_w 121, 3) := by decide +kernel
theorem dX10_textLine_24 : decode cX10_textLine 24 = .ok (.lcmp, 1) := by decide +kernel
theorem dX10_textLine_25 : decode cX10_textLine 25 = .ok (.ifCond .ne 10, 3) := by decide +kernel
theorem dX10_textLine_28 : decode cX10_textLine 28 = .ok (.aload_n 0, 1) := by decide +kernel
theorem dX10_textLine_29 : decode cX10_textLine 29 = .ok (.invokevirtual 123, 3) := by decide +kernel
theorem dX10_textLine_32 : decode cX10_textLine 32 = .ok (.goto 158, 3) := by decide +kernel
theorem dX10_textLine_35 : decode cX10_textLine 35 = .ok (.lload_n 1, 1) := by decide +kernel
theorem dX10_textLine_36 : decode cX10_textLine 36 = .ok (.ldc2_w 126, 3) := by decide +kernel
theorem dX10_textLine_39 : decode cX10_textLine 39 = .ok (.lcmp, 1) := by decide +kernel
theorem dX10_textLine_40 : decode cX10_textLine 40 = .ok (.ifCond .ne 10, 3) := by decide +kernel
theorem dX10_textLine_43 : decode cX10_textLine 43 = .ok (.aload_n 0, 1) := by decide +kernel
theorem dX10_textLine_44 : decode cX10_textLine 44 = .ok (.invokevirtual 128, 3) := by decide +kernel
theorem dX10_textLine_47 : decode cX10_textLine 47 = .ok (.goto 143, 3) := by decide +kernel
theorem dX10_textLine_50 : decode cX10_textLine 50 = .ok (.lload_n 1, 1) := by decide +kernel
theorem dX10_textLine_51 : decode cX10_textLine 51 = .ok (.ldc2_w 131, 3) := by decide +kernel
theorem dX10_textLine_54 : decode cX10_textLine 54 = .ok (.lcmp, 1) := by decide +kernel
theorem dX10_textLine_55 : decode cX10_textLine 55 = .ok (.ifCond .ne 10, 3) := by decide +kernel
theorem dX10_textLine_58 : decode cX10_textLine 58 = .ok (.aload_n 0, 1) := by decide +kernel
theorem dX10_textLine_59 : decode cX10_textLine 59 = .ok (.invokevirtual 133, 3) := by decide +kernel
theorem dX10_textLine_62 : decode cX10_textLine 62 = .ok (.goto 128, 3) := by decide +kernel
theorem dX10_textLine_65 : decode cX10_textLine 65 = .ok (.lload_n 1, 1) := by decide +kernel
theorem dX10_textLine_66 : decode cX10_textLine 66 = .ok (.ldc2_w 136, 3) := by decide +kernel
theorem dX10_textLine_69 : decode cX10_textLine 69 = .ok (.lcmp, 1) := by decide +kernel
theorem dX10_textLine_70 : decode cX10_textLine 70 = .ok (.ifCond .ne 26, 3) := by decide +kernel
theorem dX10_textLine_73 : decode cX10_textLine 73 = .ok (.aload_n 0, 1) := by decide +kernel
theorem dX10_textLine_74 : decode cX10_textLine 74 = .ok (.aload_n 0, 1) := by decide +kernel
theorem dX10_textLine_75 : decode cX10_textLine 75 = .ok (.invokevirtual 78, 3) := by decide +kernel
theorem dX10_textLine_78 : decode cX10_textLine 78 = .ok (.putfield 68, 3) := by decide +kernel
theorem dX10_textLine_81 : decode cX10_textLine 81 = .ok (.aload_n 0, 1) := by decide +kernel
theorem dX10_textLine_82 : decode cX10_textLine 82 = .ok (.getfield 13, 3) := by decide +kernel
theorem dX10_textLine_85 : decode cX10_textLine 85 = .ok (.iconst 3, 1) := by decide +kernel
theorem dX10_textLine_86 : decode cX10_textLine 86 = .ok (.aload_n 0, 1) := by decide +kernel
theorem dX10_textLine_87 : decode cX10_textLine 87 = .ok (.iconst 1, 1) := by decide +kernel
theorem dX10_textLine_88 : decode cX10_textLine 88 = .ok (.iconst 4, 1) := by decide +kernel
theorem dX10_textLine_89 : decode cX10_textLine 89 = .ok (.invokevirtual 104, 3) := by decide +kernel
theorem dX10_textLine_92 : decode cX10_textLine 92 = .ok (.iastore, 1) := by decide +kernel
theorem dX10_textLine_93 : decode cX10_textLine 93 = .ok (.goto 97, 3) := by decide +kernel
theorem dX10_textLine_96 : decode cX10_textLine 96 = .ok (.lload_n 1, 1) := by decide +kernel
theorem dX10_textLine_97 : decode cX10_textLine 97 = .ok (.ldc2_w 138, 3) := by decide +kernel
theorem dX10_textLine_100 : decode cX10_textLine 100 = .ok (.lcmp, 1) := by decide +kernel
theorem dX10_textLine_101 : decode cX10_textLine 101 = .ok (.ifCond .eq 11, 3) := by decide +kernel
theorem dX10_textLine_104 : decode cX10_textLine 104 = .ok (.lload_n 1, 1) := by decide +kernel
theorem dX10_textLine_105 : decode cX10_textLine 105 = .ok (.ldc2_w 140, 3) := by decide +kernel
theorem dX10_textLine_108 : decode cX10_textLine 108 = .ok (.lcmp, 1) := by decide +kernel
theorem dX10_textLine_109 : decode cX10_textLine 109 = .ok (.ifCond .ne 39, 3) := by decide +kernel
theorem dX10_textLine_112 : decode cX10_textLine 112 = .ok (.aload_n 0, 1) := by decide +kernel
theorem dX10_textLine_113 : decode cX10_textLine 113 = .ok (.aload_n 0, 1) := by decide +kernel
theorem dX10_textLine_114 : decode cX10_textLine 114 = .ok (.invokevirtual 78, 3) := by decide +kernel
theorem dX10_textLine_117 : decode cX10_textLine 117 = .ok (.putfield 68, 3) := by decide +kernel
theorem dX10_textLine_120 : decode cX10_textLine 120 = .ok (.aload_n 0, 1) := by decide +kernel
theorem dX10_textLine_121 : decode cX10_textLine 121 = .ok (.getfield 13, 3) := by decide +kernel
theorem dX10_textLine_124 : decode cX10_textLine 124 = .ok (.lload_n 1, 1) := by decide +kernel
theorem dX10_textLine_125 : decode cX10_textLine 125 = .ok (.ldc2_w 138, 3) := by decide +kernel
theorem dX10_textLine_128 : decode cX10_textLine 128 = .ok (.lcmp, 1) := by decide +kernel
theorem dX10_textLine_129 : decode cX10_textLine 129 = .ok (.ifCond .ne 7, 3) := by decide +kernel
theorem dX10_textLine_132 : decode cX10_textLine 132 = .ok (.iconst 4, 1) := by decide +kernel
theorem dX10_textLine_133 : decode cX10_textLine 133 = .ok (.goto 4, 3) := by decide +kernel
theorem dX10_textLine_136 : decode cX10_textLine 136 = .ok (.iconst 5, 1) := by decide +kernel
theorem dX10_textLine_137 : decode cX10_textLine 137 = .ok (.aload_n 0, 1) := by decide +kernel
theorem dX10_textLine_138 : decode cX10_textLine 138 = .ok (.iconst 0, 1) := by decide +kernel
theorem dX10_textLine_139 : decode cX10_textLine 139 = .ok (.ldc 103, 2) := by decide +kernel
theorem dX10_textLine_141 : decode cX10_textLine 141 = .ok (.invokevirtual 104, 3) := by decide +kernel
theorem dX10_textLine_144 : decode cX10_textLine 144 = .ok (.iastore, 1) := by decide +kernel
theorem dX10_textLine_145 : decode cX10_textLine 145 = .ok (.goto 45, 3) := by decide +kernel
theorem dX10_textLine_148 : decode cX10_textLine 148 = .ok (.lload_n 1, 1) := by decide +kernel
theorem dX10_textLine_149 : decode cX10_textLine 149 = .ok (.ldc2_w 142, 3) := by decide +kernel
theorem dX10_textLine_152 : decode cX10_textLine 152 = .ok (.lcmp, 1) := by decide +kernel
theorem dX10_textLine_153 : decode cX10_textLine 153 = .ok (.ifCond .ne 28, 3) := by decide +kernel
theorem dX10_textLine_156 : decode cX10_textLine 156 = .ok (.aload_n 0, 1) := by decide +kernel
theorem dX10_textLine_157 : decode cX10_textLine 157 = .ok (.aload_n 0, 1) := by decide +kernel
theorem dX10_textLine_158 : decode cX10_textLine 158 = .ok (.invokevirtual 78, 3) := by decide +kernel
theorem dX10_textLine_161 : decode cX10_textLine 161 = .ok (.putfield 68, 3) := by decide +kernel
theorem dX10_textLine_164 : decode cX10_textLine 164 = .ok (.aload_n 0, 1) := by decide +kernel
theorem dX10_textLine_165 : decode cX10_textLine 165 = .ok (.getfield 13, 3) := by decide +kernel
theorem dX10_textLine_168 : decode cX10_textLine 168 = .ok (.bipush 6, 2) := by decide +kernel
theorem dX10_textLine_170 : decode cX10_textLine 170 = .ok (.aload_n 0, 1) := by decide +kernel
theorem dX10_textLine_171 : decode cX10_textLine 171 = .ok (.iconst 0, 1) := by decide +kernel
theorem dX10_textLine_172 : decode cX10_textLine 172 = .ok (.bipush 99, 2) := by decide +kernel
theorem dX10_textLine_174 : decode cX10_textLine 174 = .ok (.invokevirtual 104, 3) := by decide +kernel
theorem dX10_textLine_177 : decode cX10_textLine 177 = .ok (.iastore, 1) := by decide +kernel
theorem dX10_textLine_178 : decode cX10_textLine 178 = .ok (.goto 12, 3) := by decide +kernel
theorem dX10_textLine_181 : decode cX10_textLine 181 = .ok (.aload_n 0, 1) := by decide +kernel
theorem dX10_textLine_182 : decode cX10_textLine 182 = .ok (.iconst 1, 1) := by decide +kernel
theorem dX10_textLine_183 : decode cX10_textLine 183 = .ok (.aload_n 0, 1) := by decide +kernel
theorem dX10_textLine_184 : decode cX10_textLine 184 = .ok (.getfield 68, 3) := by decide +kernel
theorem dX10_textLine_187 : decode cX10_textLine 187 = .ok (.invokevirtual 91, 3) := by decide +kernel
theorem dX10_textLine_190 : decode cX10_textLine 190 = .ok (.aload_n 0, 1) := by decide +kernel
theorem dX10_textLine_191 : decode cX10_textLine 191 = .ok (.getfield 71, 3) := by decide +kernel
theorem dX10_textLine_194 : decode cX10_textLine 194 = .ok (.ifCond .ne 21, 3) := by decide +kernel
theorem dX10_textLine_197 : decode cX10_textLine 197 = .ok (.aload_n 0, 1) := by decide +kernel
theorem dX10_textLine_198 : decode cX10_textLine 198 = .ok (.invokevirtual 88, 3) := by decide +kernel
theorem dX10_textLine_201 : decode cX10_textLine 201 = .ok (.bipush 59, 2) := by decide +kernel
theorem dX10_textLine_203 : decode cX10_textLine 203 = .ok (.if_icmp .eq 12, 3) := by decide +kernel
theorem dX10_textLine_206 : decode cX10_textLine 206 = .ok (.aload_n 0, 1) := by decide +kernel
theorem dX10_textLine_207 : decode cX10_textLine 207 = .ok (.iconst 1, 1) := by decide +kernel
theorem dX10_textLine_208 : decode cX10_textLine 208 = .ok (.aload_n 0, 1) := by decide +kernel
theorem dX10_textLine_209 : decode cX10_textLine 209 = .ok (.getfield 68, 3) := by decide +kernel
theorem dX10_textLine_212 : decode cX10_textLine 212 = .ok (.invokevirtual 91, 3) := by decide +kernel
theorem dX10_textLine_215 : decode cX10_textLine 215 = .ok (.aload_n 0, 1) := by decide +kernel
theorem dX10_textLine_216 : decode cX10_textLine 216 = .ok (.dup, 1) := by decide +kernel
theorem dX10_textLine_217 : decode cX10_textLine 217 = .ok (.getfield 68, 3) := by decide +kernel
theorem dX10_textLine_220 : decode cX10_textLine 220 = .ok (.iconst 1, 1) := by decide +kernel
theorem dX10_textLine_221 : decode cX10_textLine 221 = .ok (.iadd, 1) := by decide +kernel
theorem dX10_textLine_222 : decode cX10_textLine 222 = .ok (.putfield 68, 3) := by decide +kernel
theorem dX10_textLine_225 : decode cX10_textLine 225 = .ok (.return_, 1) := by decide +kernel
theorem dX10_load_0 : decode cX10_load 0 = .ok (.aload_n 0, 1) := by decide +kernel
theorem dX10_load_1 : decode cX10_load 1 = .ok (.iconst 0, 1) := by decide +kernel
theorem dX10_load_2 : decode cX10_load 2 = .ok (.putfield 50, 3) := by decide +kernel
theorem dX10_load_5 : decode cX10_load 5 = .ok (.aload_n 0, 1) := by decide +kernel
theorem dX10_load_6 : decode cX10_load 6 = .ok (.iconst 0, 1) := by decide +kernel
theorem dX10_load_7 : decode cX10_load 7 = .ok (.putfield 75, 3) := by decide +kernel
theorem dX10_load_10 : decode cX10_load 10 = .ok (.aload_n 0, 1) := by decide +kernel
theorem dX10_load_11 : decode cX10_load 11 = .ok (.iconst (-1), 1) := by decide +kernel
theorem dX10_load_12 : decode cX10_load 12 = .ok (.putfield 25, 3) := by decide +kernel
theorem dX10_load_15 : decode cX10_load 15 = .ok (.iconst 0, 1) := by decide +kernel
theorem dX10_load_16 : decode cX10_load 16 = .ok (.istore_n 1, 1) := by decide +kernel
theorem dX10_load_17 : decode cX10_load 17 = .ok (.iload_n 1, 1) := by decide +kernel
theorem dX10_load_18 : decode cX10_load 18 = .ok (.sipush 151, 3) := by decide +kernel
theorem dX10_load_21 : decode cX10_load 21 = .ok (.if_icmp .ge 16, 3) := by decide +kernel
theorem dX10_load_24 : decode cX10_load 24 = .ok (.aload_n 0, 1) := by decide +kernel
theorem dX10_load_25 : decode cX10_load 25 = .ok (.getfield 13, 3) := by decide +kernel
theorem dX10_load_28 : decode cX10_load 28 = .ok (.iload_n 1, 1) := by decide +kernel
theorem dX10_load_29 : decode cX10_load 29 = .ok (.iconst 0, 1) := by decide +kernel
theorem dX10_load_30 : decode cX10_load 30 = .ok (.iastore, 1) := by decide +kernel
theorem dX10_load_31 : decode cX10_load 31 = .ok (.iinc 1 1, 3) := by decide +kernel
theorem dX10_load_34 : decode cX10_load 34 = .ok (.goto (-17), 3) := by decide +kernel
theorem dX10_load_37 : decode cX10_load 37 = .ok (.aload_n 0, 1) := by decide +kernel
theorem dX10_load_38 : decode cX10_load 38 = .ok (.getfield 13, 3) := by decide +kernel
theorem dX10_load_41 : decode cX10_load 41 = .ok (.iconst 3, 1) := by decide +kernel
theorem dX10_load_42 : decode cX10_load 42 = .ok (.iconst 2, 1) := by decide +kernel
theorem dX10_load_43 : decode cX10_load 43 = .ok (.iastore, 1) := by decide +kernel
theorem dX10_load_44 : decode cX10_load 44 = .ok (.aload_n 0, 1) := by decide +kernel
theorem dX10_load_45 : decode cX10_load 45 = .ok (.getfield 13, 3) := by decide +kernel
theorem dX10_load_48 : decode cX10_load 48 = .ok (.bipush 6, 2) := by decide +kernel
theorem dX10_load_50 : decode cX10_load 50 = .ok (.bipush 20, 2) := by decide +kernel
theorem dX10_load_52 : decode cX10_load 52 = .ok (.iastore, 1) := by decide +kernel
theorem dX10_load_53 : decode cX10_load 53 = .ok (.aload_n 0, 1) := by decide +kernel
theorem dX10_load_54 : decode cX10_load 54 = .ok (.iconst 0, 1) := by decide +kernel
theorem dX10_load_55 : decode cX10_load 55 = .ok (.putfield 68, 3) := by decide +kernel
theorem dX10_load_58 : decode cX10_load 58 = .ok (.aload_n 0, 1) := by decide +kernel
theorem dX10_load_59 : decode cX10_load 59 = .ok (.iconst 0, 1) := by decide +kernel
theorem dX10_load_60 : decode cX10_load 60 = .ok (.putfield 71, 3) := by decide +kernel
theorem dX10_load_63 : decode cX10_load 63 = .ok (.aload_n 0, 1) := by decide +kernel
theorem dX10_load_64 : decode cX10_load 64 = .ok (.getfield 71, 3) := by decide +kernel
theorem dX10_load_67 : decode cX10_load 67 = .ok (.ifCond .ne 18, 3) := by decide +kernel
theorem dX10_load_70 : decode cX10_load 70 = .ok (.aload_n 0, 1) := by decide +kernel
theorem dX10_load_71 : decode cX10_load 71 = .ok (.invokevirtual 88, 3) := by decide +kernel
theorem dX10_load_74 : decode cX10_load 74 = .ok (.iconst (-1), 1) := by decide +kernel
theorem dX10_load_75 : decode cX10_load 75 = .ok (.if_icmp .eq 10, 3) := by decide +kernel
theorem dX10_load_78 : decode cX10_load 78 = .ok (.aload_n 0, 1) := by decide +kernel
theorem dX10_load_79 : decode cX10_load 79 = .ok (.invokevirtual 144, 3) := by decide +kernel
theorem dX10_load_82 : decode cX10_load 82 = .ok (.goto (-19), 3) := by decide +kernel
theorem dX10_load_85 : decode cX10_load 85 = .ok (.aload_n 0, 1) := by decide +kernel
theorem dX10_load_86 : decode cX10_load 86 = .ok (.iconst 0, 1) := by decide +kernel
theorem dX10_load_87 : decode cX10_load 87 = .ok (.putfield 57, 3) := by decide +kernel
theorem dX10_load_90 : decode cX10_load 90 = .ok (.aload_n 0, 1) := by decide +kernel
theorem dX10_load_91 : decode cX10_load 91 = .ok (.getfield 71, 3) := by decide +kernel
theorem dX10_load_94 : decode cX10_load 94 = .ok (.ifCond .eq 9, 3) := by decide +kernel
theorem dX10_load_97 : decode cX10_load 97 = .ok (.aload_n 0, 1) := by decide +kernel
theorem dX10_load_98 : decode cX10_load 98 = .ok (.iconst 1, 1) := by decide +kernel
theorem dX10_load_99 : decode cX10_load 99 = .ok (.invokevirtual 60, 3) := by decide +kernel
theorem dX10_load_102 : decode cX10_load 102 = .ok (.ireturn, 1) := by decide +kernel
theorem dX10_load_103 : decode cX10_load 103 = .ok (.iconst 0, 1) := by decide +kernel
theorem dX10_load_104 : decode cX10_load 104 = .ok (.istore_n 1, 1) := by decide +kernel
theorem dX10_load_105 : decode cX10_load 105 = .ok (.iload_n 1, 1) := by decide +kernel
theorem dX10_load_106 : decode cX10_load 106 = .ok (.sipush 151, 3) := by decide +kernel
theorem dX10_load_109 : decode cX10_load 109 = .ok (.if_icmp .ge 21, 3) := by decide +kernel
theorem dX10_load_112 : decode cX10_load 112 = .ok (.aload_n 0, 1) := by decide +kernel
theorem dX10_load_113 : decode cX10_load 113 = .ok (.getfield 7, 3) := by decide +kernel
theorem dX10_load_116 : decode cX10_load 116 = .ok (.iload_n 1, 1) := by decide +kernel
theorem dX10_load_117 : decode cX10_load 117 = .ok (.aload_n 0, 1) := by decide +kernel
theorem dX10_load_118 : decode cX10_load 118 = .ok (.getfield 13, 3) := by decide +kernel
theorem dX10_load_121 : decode cX10_load 121 = .ok (.iload_n 1, 1) := by decide +kernel
theorem dX10_load_122 : decode cX10_load 122 = .ok (.iaload, 1) := by decide +kernel
theorem dX10_load_123 : decode cX10_load 123 = .ok (.iastore, 1) := by decide +kernel
theorem dX10_load_124 : decode cX10_load 124 = .ok (.iinc 1 1, 3) := by decide +kernel
theorem dX10_load_127 : decode cX10_load 127 = .ok (.goto (-22), 3) := by decide +kernel
theorem dX10_load_130 : decode cX10_load 130 = .ok (.iconst 0, 1) := by decide +kernel
theorem dX10_load_131 : decode cX10_load 131 = .ok (.istore_n 1, 1) := by decide +kernel
theorem dX10_load_132 : decode cX10_load 132 = .ok (.iload_n 1, 1) := by decide +kernel
theorem dX10_load_133 : decode cX10_load 133 = .ok (.sipush 218, 3) := by decide +kernel
theorem dX10_load_136 : decode cX10_load 136 = .ok (.if_icmp .ge 16, 3) := by decide +kernel
theorem dX10_load_139 : decode cX10_load 139 = .ok (.aload_n 0, 1) := by decide +kernel
theorem dX10_load_140 : decode cX10_load 140 = .ok (.getfield 16, 3) := by decide +kernel
theorem dX10_load_143 : decode cX10_load 143 = .ok (.iload_n 1, 1) := by decide +kernel
theorem dX10_load_144 : decode cX10_load 144 = .ok (.iconst 0, 1) := by decide +kernel
theorem dX10_load_145 : decode cX10_load 145 = .ok (.iastore, 1) := by decide +kernel
theorem dX10_load_146 : decode cX10_load 146 = .ok (.iinc 1 1, 3) := by decide +kernel
theorem dX10_load_149 : decode cX10_load 149 = .ok (.goto (-17), 3) := by decide +kernel
theorem dX10_load_152 : decode cX10_load 152 = .ok (.aload_n 0, 1) := by decide +kernel
theorem dX10_load_153 : decode cX10_load 153 = .ok (.getfield 16, 3) := by decide +kernel
theorem dX10_load_156 : decode cX10_load 156 = .ok (.iconst 0, 1) := by decide +kernel
theorem dX10_load_157 : decode cX10_load 157 = .ok (.aload_n 0, 1) := by decide +kernel
theorem dX10_load_158 : decode cX10_load 158 = .ok (.getfield 7, 3) := by decide +kernel
theorem dX10_load_161 : decode cX10_load 161 = .ok (.iconst 4, 1) := by decide +kernel
theorem dX10_load_162 : decode cX10_load 162 = .ok (.iaload, 1) := by decide +kernel
theorem dX10_load_163 : decode cX10_load 163 = .ok (.iastore, 1) := by decide +kernel
theorem dX10_load_164 : decode cX10_load 164 = .ok (.iconst 0, 1) := by decide +kernel
theorem dX10_load_165 : decode cX10_load 165 = .ok (.istore_n 1, 1) := by decide +kernel
theorem dX10_load_166 : decode cX10_load 166 = .ok (.iload_n 1, 1) := by decide +kernel
theorem dX10_load_167 : decode cX10_load 167 = .ok (.bipush 12, 2) := by decide +kernel
theorem dX10_load_169 : decode cX10_load 169 = .ok (.if_icmp .ge 27, 3) := by decide +kernel
theorem dX10_load_172 : decode cX10_load 172 = .ok (.aload_n 0, 1) := by decide +kernel
theorem dX10_load_173 : decode cX10_load 173 = .ok (.getfield 16, 3) := by decide +kernel
theorem dX10_load_176 : decode cX10_load 176 = .ok (.iconst 2, 1) := by decide +kernel
theorem dX10_load_177 : decode cX10_load 177 = .ok (.iload_n 1, 1) := by decide +kernel
theorem dX10_load_178 : decode cX10_load 178 = .ok (.iadd, 1) := by decide +kernel
theorem dX10_load_179 : decode cX10_load 179 = .ok (.aload_n 0, 1) := by decide +kernel
theorem dX10_load_180 : decode cX10_load 180 = .ok (.getfield 7, 3) := by decide +kernel
theorem dX10_load_183 : decode cX10_load 183 = .ok (.sipush 139, 3) := by decide +kernel
theorem dX10_load_186 : decode cX10_load 186 = .ok (.iload_n 1, 1) := by decide +kernel
theorem dX10_load_187 : decode cX10_load 187 = .ok (.iadd, 1) := by decide +kernel
theorem dX10_load_188 : decode cX10_load 188 = .ok (.iaload, 1) := by decide +kernel
theorem dX10_load_189 : decode cX10_load 189 = .ok (.iastore, 1) := by decide +kernel
theorem dX10_load_190 : decode cX10_load 190 = .ok (.iinc 1 1, 3) := by decide +kernel
theorem dX10_load_193 : decode cX10_load 193 = .ok (.goto (-27), 3) := by decide +kernel
theorem dX10_load_196 : decode cX10_load 196 = .ok (.aload_n 0, 1) := by decide +kernel
theorem dX10_load_197 : decode cX10_load 197 = .ok (.iconst 0, 1) := by decide +kernel
theorem dX10_load_198 : decode cX10_load 198 = .ok (.putfield 147, 3) := by decide +kernel
theorem dX10_load_201 : decode cX10_load 201 = .ok (.aload_n 0, 1) := by decide +kernel
theorem dX10_load_202 : decode cX10_load 202 = .ok (.getfield 7, 3) := by decide +kernel
theorem dX10_load_205 : decode cX10_load 205 = .ok (.iconst 2, 1) := by decide +kernel
theorem dX10_load_206 : decode cX10_load 206 = .ok (.iaload, 1) := by decide +kernel
theorem dX10_load_207 : decode cX10_load 207 = .ok (.ireturn, 1) := by decide +kernel
theorem dX10_errorCode_0 : decode cX10_errorCode 0 = .ok (.aload_n 0, 1) := by decide +kernel
theorem dX10_errorCode_1 : decode cX10_errorCode 1 = .ok (.iconst 0, 1) := by decide +kernel
theorem dX10_errorCode_2 : decode cX10_errorCode 2 = .ok (.putfield 50, 3) := by decide +kernel
theorem dX10_errorCode_5 : decode cX10_errorCode 5 = .ok (.aload_n 0, 1) := by decide +kernel
theorem dX10_errorCode_6 : decode cX10_errorCode 6 = .ok (.getfield 75, 3) := by decide +kernel
theorem dX10_errorCode_9 : decode cX10_errorCode 9 = .ok (.ireturn, 1) := by decide +kernel
theorem dX10_errorPosition_0 : decode cX10_errorPosition 0 = .ok (.aload_n 0, 1) := by decide +kernel
theorem dX10_errorPosition_1 : decode cX10_errorPosition 1 = .ok (.iconst 0, 1) := by decide +kernel
theorem dX10_errorPosition_2 : decode cX10_errorPosition 2 = .ok (.putfield 50, 3) := by decide +kernel
theorem dX10_errorPosition_5 : decode cX10_errorPosition 5 = .ok (.aload_n 0, 1) := by decide +kernel
theorem dX10_errorPosition_6 : decode cX10_errorPosition 6 = .ok (.getfield 25, 3) := by decide +kernel
theorem dX10_errorPosition_9 : decode cX10_errorPosition 9 = .ok (.ireturn, 1) := by decide +kernel
theorem dX10_keeps_0 : decode cX10_keeps 0 = .ok (.aload_n 0, 1) := by decide +kernel
theorem dX10_keeps_1 : decode cX10_keeps 1 = .ok (.getfield 147, 3) := by decide +kernel
theorem dX10_keeps_4 : decode cX10_keeps 4 = .ok (.bipush 10, 2) := by decide +kernel
theorem dX10_keeps_6 : decode cX10_keeps 6 = .ok (.if_icmp .ne 49, 3) := by decide +kernel
theorem dX10_keeps_9 : decode cX10_keeps 9 = .ok (.aload_n 0, 1) := by decide +kernel
theorem dX10_keeps_10 : decode cX10_keeps 10 = .ok (.dup, 1) := by decide +kernel
theorem dX10_keeps_11 : decode cX10_keeps 11 = .ok (.getfield 147, 3) := by decide +kernel
theorem dX10_keeps_14 : decode cX10_keeps 14 = .ok (.iconst 1, 1) := by decide +kernel
theorem dX10_keeps_15 : decode cX10_keeps 15 = .ok (.isub, 1) := by decide +kernel
theorem dX10_keeps_16 : decode cX10_keeps 16 = .ok (.putfield 147, 3) := by decide +kernel
theorem dX10_keeps_19 : decode cX10_keeps 19 = .ok (.iconst 0, 1) := by decide +kernel
theorem dX10_keeps_20 : decode cX10_keeps 20 = .ok (.istore_n 1, 1) := by decide +kernel
theorem dX10_keeps_21 : decode cX10_keeps 21 = .ok (.iload_n 1, 1) := by decide +kernel
theorem dX10_keeps_22 : decode cX10_keeps 22 = .ok (.aload_n 0, 1) := by decide +kernel
theorem dX10_keeps_23 : decode cX10_keeps 23 = .ok (.getfield 147, 3) := by decide +kernel
theorem dX10_keeps_26 : decode cX10_keeps 26 = .ok (.sipush 218, 3) := by decide +kernel
theorem dX10_keeps_29 : decode cX10_keeps 29 = .ok (.imul, 1) := by decide +kernel
theorem dX10_keeps_30 : decode cX10_keeps 30 = .ok (.if_icmp .ge 25, 3) := by decide +kernel
theorem dX10_keeps_33 : decode cX10_keeps 33 = .ok (.aload_n 0, 1) := by decide +kernel
theorem dX10_keeps_34 : decode cX10_keeps 34 = .ok (.getfield 19, 3) := by decide +kernel
theorem dX10_keeps_37 : decode cX10_keeps 37 = .ok (.iload_n 1, 1) := by decide +kernel
theorem dX10_keeps_38 : decode cX10_keeps 38 = .ok (.aload_n 0, 1) := by decide +kernel
theorem dX10_keeps_39 : decode cX10_keeps 39 = .ok (.getfield 19, 3) := by decide +kernel
theorem dX10_keeps_42 : decode cX10_keeps 42 = .ok (.iload_n 1, 1) := by decide +kernel
theorem dX10_keeps_43 : decode cX10_keeps 43 = .ok (.sipush 218, 3) := by decide +kernel
theorem dX10_keeps_46 : decode cX10_keeps 46 = .ok (.iadd, 1) := by decide +kernel
theorem dX10_keeps_47 : decode cX10_keeps 47 = .ok (.iaload, 1) := by decide +kernel
theorem dX10_keeps_48 : decode cX10_keeps 48 = .ok (.iastore, 1) := by decide +kernel
theorem dX10_keeps_49 : decode cX10_keeps 49 = .ok (.iinc 1 1, 3) := by decide +kernel
theorem dX10_keeps_52 : decode cX10_keeps 52 = .ok (.goto (-31), 3) := by decide +kernel
theorem dX10_keeps_55 : decode cX10_keeps 55 = .ok (.iconst 0, 1) := by decide +kernel
theorem dX10_keeps_56 : decode cX10_keeps 56 = .ok (.istore_n 1, 1) := by decide +kernel
theorem dX10_keeps_57 : decode cX10_keeps 57 = .ok (.iload_n 1, 1) := by decide +kernel
theorem dX10_keeps_58 : decode cX10_keeps 58 = .ok (.sipush 218, 3) := by decide +kernel
theorem dX10_keeps_61 : decode cX10_keeps 61 = .ok (.if_icmp .ge 30, 3) := by decide +kernel
theorem dX10_keeps_64 : decode cX10_keeps 64 = .ok (.aload_n 0, 1) := by decide +kernel
theorem dX10_keeps_65 : decode cX10_keeps 65 = .ok (.getfield 19, 3) := by decide +kernel
theorem dX10_keeps_68 : decode cX10_keeps 68 = .ok (.sipush 218, 3) := by decide +kernel
theorem dX10_keeps_71 : decode cX10_keeps 71 = .ok (.aload_n 0, 1) := by decide +kernel
theorem dX10_keeps_72 : decode cX10_keeps 72 = .ok (.getfield 147, 3) := by decide +kernel
theorem dX10_keeps_75 : decode cX10_keeps 75 = .ok (.imul, 1) := by decide +kernel
theorem dX10_keeps_76 : decode cX10_keeps 76 = .ok (.iload_n 1, 1) := by decide +kernel
theorem dX10_keeps_77 : decode cX10_keeps 77 = .ok (.iadd, 1) := by decide +kernel
theorem dX10_keeps_78 : decode cX10_keeps 78 = .ok (.aload_n 0, 1) := by decide +kernel
theorem dX10_keeps_79 : decode cX10_keeps 79 = .ok (.getfield 16, 3) := by decide +kernel
theorem dX10_keeps_82 : decode cX10_keeps 82 = .ok (.iload_n 1, 1) := by decide +kernel
theorem dX10_keeps_83 : decode cX10_keeps 83 = .ok (.iaload, 1) := by decide +kernel
theorem dX10_keeps_84 : decode cX10_keeps 84 = .ok (.iastore, 1) := by decide +kernel
theorem dX10_keeps_85 : decode cX10_keeps 85 = .ok (.iinc 1 1, 3) := by decide +kernel
theorem dX10_keeps_88 : decode cX10_keeps 88 = .ok (.goto (-31), 3) := by decide +kernel
theorem dX10_keeps_91 : decode cX10_keeps 91 = .ok (.aload_n 0, 1) := by decide +kernel
theorem dX10_keeps_92 : decode cX10_keeps 92 = .ok (.dup, 1) := by decide +kernel
theorem dX10_keeps_93 : decode cX10_keeps 93 = .ok (.getfield 147, 3) := by decide +kernel
theorem dX10_keeps_96 : decode cX10_keeps 96 = .ok (.iconst 1, 1) := by decide +kernel
theorem dX10_keeps_97 : decode cX10_keeps 97 = .ok (.iadd, 1) := by decide +kernel
theorem dX10_keeps_98 : decode cX10_keeps 98 = .ok (.putfield 147, 3) := by decide +kernel
theorem dX10_keeps_101 : decode cX10_keeps 101 = .ok (.return_, 1) := by decide +kernel
theorem dX10_undo_0 : decode cX10_undo 0 = .ok (.aload_n 0, 1) := by decide +kernel
theorem dX10_undo_1 : decode cX10_undo 1 = .ok (.aload_n 0, 1) := by decide +kernel
theorem dX10_undo_2 : decode cX10_undo 2 = .ok (.getfield 147, 3) := by decide +kernel
theorem dX10_undo_5 : decode cX10_undo 5 = .ok (.ifCond .ne 7, 3) := by decide +kernel
theorem dX10_undo_8 : decode cX10_undo 8 = .ok (.iconst 1, 1) := by decide +kernel
theorem dX10_undo_9 : decode cX10_undo 9 = .ok (.goto 4, 3) := by decide +kernel
theorem dX10_undo_12 : decode cX10_undo 12 = .ok (.iconst 0, 1) := by decide +kernel
theorem dX10_undo_13 : decode cX10_undo 13 = .ok (.putfield 50, 3) := by decide +kernel
theorem dX10_undo_16 : decode cX10_undo 16 = .ok (.aload_n 0, 1) := by decide +kernel
theorem dX10_undo_17 : decode cX10_undo 17 = .ok (.getfield 50, 3) := by decide +kernel
theorem dX10_undo_20 : decode cX10_undo 20 = .ok (.ifCond .le 5, 3) := by decide +kernel
theorem dX10_undo_23 : decode cX10_undo 23 = .ok (.iconst 0, 1) := by decide +kernel
theorem dX10_undo_24 : decode cX10_undo 24 = .ok (.ireturn, 1) := by decide +kernel
theorem dX10_undo_25 : decode cX10_undo 25 = .ok (.aload_n 0, 1) := by decide +kernel
theorem dX10_undo_26 : decode cX10_undo 26 = .ok (.dup, 1) := by decide +kernel
theorem dX10_undo_27 : decode cX10_undo 27 = .ok (.getfield 147, 3) := by decide +kernel
theorem dX10_undo_30 : decode cX10_undo 30 = .ok (.iconst 1, 1) := by decide +kernel
theorem dX10_undo_31 : decode cX10_undo 31 = .ok (.isub, 1) := by decide +kernel
theorem dX10_undo_32 : decode cX10_undo 32 = .ok (.putfield 147, 3) := by decide +kernel
theorem dX10_undo_35 : decode cX10_undo 35 = .ok (.iconst 0, 1) := by decide +kernel
theorem dX10_undo_36 : decode cX10_undo 36 = .ok (.istore_n 1, 1) := by decide +kernel
theorem dX10_undo_37 : decode cX10_undo 37 = .ok (.iload_n 1, 1) := by decide +kernel
theorem dX10_undo_38 : decode cX10_undo 38 = .ok (.sipush 218, 3) := by decide +kernel
theorem dX10_undo_41 : decode cX10_undo 41 = .ok (.if_icmp .ge 30, 3) := by decide +kernel
theorem dX10_undo_44 : decode cX10_undo 44 = .ok (.aload_n 0, 1) := by decide +kernel
theorem dX10_undo_45 : decode cX10_undo 45 = .ok (.getfield 16, 3) := by decide +kernel
theorem dX10_undo_48 : decode cX10_undo 48 = .ok (.iload_n 1, 1) := by decide +kernel
theorem dX10_undo_49 : decode cX10_undo 49 = .ok (.aload_n 0, 1) := by decide +kernel
theorem dX10_undo_50 : decode cX10_undo 50 = .ok (.getfield 19, 3) := by decide +kernel
theorem dX10_undo_53 : decode cX10_undo 53 = .ok (.sipush 218, 3) := by decide +kernel
theorem dX10_undo_56 : decode cX10_undo 56 = .ok (.aload_n 0, 1) := by decide +kernel
theorem dX10_undo_57 : decode cX10_undo 57 = .ok (.getfield 147, 3) := by decide +kernel
theorem dX10_undo_60 : decode cX10_undo 60 = .ok (.imul, 1) := by decide +kernel
theorem dX10_undo_61 : decode cX10_undo 61 = .ok (.iload_n 1, 1) := by decide +kernel
theorem dX10_undo_62 : decode cX10_undo 62 = .ok (.iadd, 1) := by decide +kernel
theorem dX10_undo_63 : decode cX10_undo 63 = .ok (.iaload, 1) := by decide +kernel
theorem dX10_undo_64 : decode cX10_undo 64 = .ok (.iastore, 1) := by decide +kernel
theorem dX10_undo_65 : decode cX10_undo 65 = .ok (.iinc 1 1, 3) := by decide +kernel
theorem dX10_undo_68 : decode cX10_undo 68 = .ok (.goto (-31), 3) := by decide +kernel
theorem dX10_undo_71 : decode cX10_undo 71 = .ok (.aload_n 0, 1) := by decide +kernel
theorem dX10_undo_72 : decode cX10_undo 72 = .ok (.getfield 147, 3) := by decide +kernel
theorem dX10_undo_75 : decode cX10_undo 75 = .ok (.ireturn, 1) := by decide +kernel
theorem dX10_isReview_0 : decode cX10_isReview 0 = .ok (.aload_n 0, 1) := by decide +kernel
theorem dX10_isReview_1 : decode cX10_isReview 1 = .ok (.getfield 16, 3) := by decide +kernel
theorem dX10_isReview_4 : decode cX10_isReview 4 = .ok (.bipush 14, 2) := by decide +kernel
theorem dX10_isReview_6 : decode cX10_isReview 6 = .ok (.iload_n 1, 1) := by decide +kernel
theorem dX10_isReview_7 : decode cX10_isReview 7 = .ok (.iadd, 1) := by decide +kernel
theorem dX10_isReview_8 : decode cX10_isReview 8 = .ok (.iaload, 1) := by decide +kernel
theorem dX10_isReview_9 : decode cX10_isReview 9 = .ok (.iload_n 2, 1) := by decide +kernel
theorem dX10_isReview_10 : decode cX10_isReview 10 = .ok (.invokestatic 150, 3) := by decide +kernel
theorem dX10_isReview_13 : decode cX10_isReview 13 = .ok (.ireturn, 1) := by decide +kernel
theorem dX10_score_0 : decode cX10_score 0 = .ok (.aload_n 0, 1) := by decide +kernel
theorem dX10_score_1 : decode cX10_score 1 = .ok (.getfield 16, 3) := by decide +kernel
theorem dX10_score_4 : decode cX10_score 4 = .ok (.bipush 26, 2) := by decide +kernel
theorem dX10_score_6 : decode cX10_score 6 = .ok (.bipush 16, 2) := by decide +kernel
theorem dX10_score_8 : decode cX10_score 8 = .ok (.iload_n 1, 1) := by decide +kernel
theorem dX10_score_9 : decode cX10_score 9 = .ok (.imul, 1) := by decide +kernel
theorem dX10_score_10 : decode cX10_score 10 = .ok (.iadd, 1) := by decide +kernel
theorem dX10_score_11 : decode cX10_score 11 = .ok (.iload_n 2, 1) := by decide +kernel
theorem dX10_score_12 : decode cX10_score 12 = .ok (.iadd, 1) := by decide +kernel
theorem dX10_score_13 : decode cX10_score 13 = .ok (.iaload, 1) := by decide +kernel
theorem dX10_score_14 : decode cX10_score 14 = .ok (.ireturn, 1) := by decide +kernel
theorem dX10_reviewsOf_0 : decode cX10_reviewsOf 0 = .ok (.iconst 0, 1) := by decide +kernel
theorem dX10_reviewsOf_1 : decode cX10_reviewsOf 1 = .ok (.istore_n 2, 1) := by decide +kernel
theorem dX10_reviewsOf_2 : decode cX10_reviewsOf 2 = .ok (.iconst 0, 1) := by decide +kernel
theorem dX10_reviewsOf_3 : decode cX10_reviewsOf 3 = .ok (.istore_n 3, 1) := by decide +kernel
theorem dX10_reviewsOf_4 : decode cX10_reviewsOf 4 = .ok (.iload_n 3, 1) := by decide +kernel
theorem dX10_reviewsOf_5 : decode cX10_reviewsOf 5 = .ok (.aload_n 0, 1) := by decide +kernel
theorem dX10_reviewsOf_6 : decode cX10_reviewsOf 6 = .ok (.getfield 7, 3) := by decide +kernel
theorem dX10_reviewsOf_9 : decode cX10_reviewsOf 9 = .ok (.iconst 1, 1) := by decide +kernel
theorem dX10_reviewsOf_10 : decode cX10_reviewsOf 10 = .ok (.iaload, 1) := by decide +kernel
theorem dX10_reviewsOf_11 : decode cX10_reviewsOf 11 = .ok (.if_icmp .ge 26, 3) := by decide +kernel
theorem dX10_reviewsOf_14 : decode cX10_reviewsOf 14 = .ok (.iload_n 2, 1) := by decide +kernel
theorem dX10_reviewsOf_15 : decode cX10_reviewsOf 15 = .ok (.aload_n 0, 1) := by decide +kernel
theorem dX10_reviewsOf_16 : decode cX10_reviewsOf 16 = .ok (.iload_n 3, 1) := by decide +kernel
theorem dX10_reviewsOf_17 : decode cX10_reviewsOf 17 = .ok (.iload_n 1, 1) := by decide +kernel
theorem dX10_reviewsOf_18 : decode cX10_reviewsOf 18 = .ok (.invokevirtual 153, 3) := by decide +kernel
theorem dX10_reviewsOf_21 : decode cX10_reviewsOf 21 = .ok (.ifCond .eq 7, 3) := by decide +kernel
theorem dX10_reviewsOf_24 : decode cX10_reviewsOf 24 = .ok (.iconst 1, 1) := by decide +kernel
theorem dX10_reviewsOf_25 : decode cX10_reviewsOf 25 = .ok (.goto 4, 3) := by decide +kernel
theorem dX10_reviewsOf_28 : decode cX10_reviewsOf 28 = .ok (.iconst 0, 1) := by decide +kernel
theorem dX10_reviewsOf_29 : decode cX10_reviewsOf 29 = .ok (.iadd, 1) := by decide +kernel
theorem dX10_reviewsOf_30 : decode cX10_reviewsOf 30 = .ok (.istore_n 2, 1) := by decide +kernel
theorem dX10_reviewsOf_31 : decode cX10_reviewsOf 31 = .ok (.iinc 3 1, 3) := by decide +kernel
theorem dX10_reviewsOf_34 : decode cX10_reviewsOf 34 = .ok (.goto (-30), 3) := by decide +kernel
theorem dX10_reviewsOf_37 : decode cX10_reviewsOf 37 = .ok (.iload_n 2, 1) := by decide +kernel
theorem dX10_reviewsOf_38 : decode cX10_reviewsOf 38 = .ok (.ireturn, 1) := by decide +kernel
theorem dX10_reviewsBy_0 : decode cX10_reviewsBy 0 = .ok (.aload_n 0, 1) := by decide +kernel
theorem dX10_reviewsBy_1 : decode cX10_reviewsBy 1 = .ok (.getfield 16, 3) := by decide +kernel
theorem dX10_reviewsBy_4 : decode cX10_reviewsBy 4 = .ok (.bipush 14, 2) := by decide +kernel
theorem dX10_reviewsBy_6 : decode cX10_reviewsBy 6 = .ok (.iload_n 1, 1) := by decide +kernel
theorem dX10_reviewsBy_7 : decode cX10_reviewsBy 7 = .ok (.iadd, 1) := by decide +kernel
theorem dX10_reviewsBy_8 : decode cX10_reviewsBy 8 = .ok (.iaload, 1) := by decide +kernel
theorem dX10_reviewsBy_9 : decode cX10_reviewsBy 9 = .ok (.invokestatic 156, 3) := by decide +kernel
theorem dX10_reviewsBy_12 : decode cX10_reviewsBy 12 = .ok (.ireturn, 1) := by decide +kernel
theorem dX10_scoredOf_0 : decode cX10_scoredOf 0 = .ok (.iconst 0, 1) := by decide +kernel
theorem dX10_scoredOf_1 : decode cX10_scoredOf 1 = .ok (.istore_n 2, 1) := by decide +kernel
theorem dX10_scoredOf_2 : decode cX10_scoredOf 2 = .ok (.iconst 0, 1) := by decide +kernel
theorem dX10_scoredOf_3 : decode cX10_scoredOf 3 = .ok (.istore_n 3, 1) := by decide +kernel
theorem dX10_scoredOf_4 : decode cX10_scoredOf 4 = .ok (.iload_n 3, 1) := by decide +kernel
theorem dX10_scoredOf_5 : decode cX10_scoredOf 5 = .ok (.bipush 16, 2) := by decide +kernel
theorem dX10_scoredOf_7 : decode cX10_scoredOf 7 = .ok (.if_icmp .ge 26, 3) := by decide +kernel
theorem dX10_scoredOf_10 : decode cX10_scoredOf 10 = .ok (.iload_n 2, 1) := by decide +kernel
theorem dX10_scoredOf_11 : decode cX10_scoredOf 11 = .ok (.aload_n 0, 1) := by decide +kernel
theorem dX10_scoredOf_12 : decode cX10_scoredOf 12 = .ok (.iload_n 1, 1) := by decide +kernel
theorem dX10_scoredOf_13 : decode cX10_scoredOf 13 = .ok (.iload_n 3, 1) := by decide +kernel
theorem dX10_scoredOf_14 : decode cX10_scoredOf 14 = .ok (.invokevirtual 159, 3) := by decide +kernel
theorem dX10_scoredOf_17 : decode cX10_scoredOf 17 = .ok (.ifCond .le 7, 3) := by decide +kernel
theorem dX10_scoredOf_20 : decode cX10_scoredOf 20 = .ok (.iconst 1, 1) := by decide +kernel
theorem dX10_scoredOf_21 : decode cX10_scoredOf 21 = .ok (.goto 4, 3) := by decide +kernel
theorem dX10_scoredOf_24 : decode cX10_scoredOf 24 = .ok (.iconst 0, 1) := by decide +kernel
theorem dX10_scoredOf_25 : decode cX10_scoredOf 25 = .ok (.iadd, 1) := by decide +kernel
theorem dX10_scoredOf_26 : decode cX10_scoredOf 26 = .ok (.istore_n 2, 1) := by decide +kernel
theorem dX10_scoredOf_27 : decode cX10_scoredOf 27 = .ok (.iinc 3 1, 3) := by decide +kernel
theorem dX10_scoredOf_30 : decode cX10_scoredOf 30 = .ok (.goto (-26), 3) := by decide +kernel
theorem dX10_scoredOf_33 : decode cX10_scoredOf 33 = .ok (.iload_n 2, 1) := by decide +kernel
theorem dX10_scoredOf_34 : decode cX10_scoredOf 34 = .ok (.ireturn, 1) := by decide +kernel
theorem dX10_hasConflict_0 : decode cX10_hasConflict 0 = .ok (.aload_n 0, 1) := by decide +kernel
theorem dX10_hasConflict_1 : decode cX10_hasConflict 1 = .ok (.iload_n 1, 1) := by decide +kernel
theorem dX10_hasConflict_2 : decode cX10_hasConflict 2 = .ok (.iconst 1, 1) := by decide +kernel
theorem dX10_hasConflict_3 : decode cX10_hasConflict 3 = .ok (.invokevirtual 162, 3) := by decide +kernel
theorem dX10_hasConflict_6 : decode cX10_hasConflict 6 = .ok (.aload_n 0, 1) := by decide +kernel
theorem dX10_hasConflict_7 : decode cX10_hasConflict 7 = .ok (.iload_n 2, 1) := by decide +kernel
theorem dX10_hasConflict_8 : decode cX10_hasConflict 8 = .ok (.iconst 1, 1) := by decide +kernel
theorem dX10_hasConflict_9 : decode cX10_hasConflict 9 = .ok (.invokevirtual 165, 3) := by decide +kernel
theorem dX10_hasConflict_12 : decode cX10_hasConflict 12 = .ok (.if_icmp .eq 18, 3) := by decide +kernel
theorem dX10_hasConflict_15 : decode cX10_hasConflict 15 = .ok (.aload_n 0, 1) := by decide +kernel
theorem dX10_hasConflict_16 : decode cX10_hasConflict 16 = .ok (.getfield 16, 3) := by decide +kernel
theorem dX10_hasConflict_19 : decode cX10_hasConflict 19 = .ok (.iconst 2, 1) := by decide +kernel
theorem dX10_hasConflict_20 : decode cX10_hasConflict 20 = .ok (.iload_n 1, 1) := by decide +kernel
theorem dX10_hasConflict_21 : decode cX10_hasConflict 21 = .ok (.iadd, 1) := by decide +kernel
theorem dX10_hasConflict_22 : decode cX10_hasConflict 22 = .ok (.iaload, 1) := by decide +kernel
theorem dX10_hasConflict_23 : decode cX10_hasConflict 23 = .ok (.iload_n 2, 1) := by decide +kernel
theorem dX10_hasConflict_24 : decode cX10_hasConflict 24 = .ok (.invokestatic 150, 3) := by decide +kernel
theorem dX10_hasConflict_27 : decode cX10_hasConflict 27 = .ok (.ifCond .eq 7, 3) := by decide +kernel
theorem dX10_hasConflict_30 : decode cX10_hasConflict 30 = .ok (.iconst 1, 1) := by decide +kernel
theorem dX10_hasConflict_31 : decode cX10_hasConflict 31 = .ok (.goto 4, 3) := by decide +kernel
theorem dX10_hasConflict_34 : decode cX10_hasConflict 34 = .ok (.iconst 0, 1) := by decide +kernel
theorem dX10_hasConflict_35 : decode cX10_hasConflict 35 = .ok (.ireturn, 1) := by decide +kernel
theorem dX10_fits_0 : decode cX10_fits 0 = .ok (.aload_n 0, 1) := by decide +kernel
theorem dX10_fits_1 : decode cX10_fits 1 = .ok (.iload_n 1, 1) := by decide +kernel
theorem dX10_fits_2 : decode cX10_fits 2 = .ok (.iconst 0, 1) := by decide +kernel
theorem dX10_fits_3 : decode cX10_fits 3 = .ok (.invokevirtual 162, 3) := by decide +kernel
theorem dX10_fits_6 : decode cX10_fits 6 = .ok (.aload_n 0, 1) := by decide +kernel
theorem dX10_fits_7 : decode cX10_fits 7 = .ok (.iload_n 2, 1) := by decide +kernel
theorem dX10_fits_8 : decode cX10_fits 8 = .ok (.iconst 0, 1) := by decide +kernel
theorem dX10_fits_9 : decode cX10_fits 9 = .ok (.invokevirtual 165, 3) := by decide +kernel
theorem dX10_fits_12 : decode cX10_fits 12 = .ok (.if_icmp .ne 16, 3) := by decide +kernel
theorem dX10_fits_15 : decode cX10_fits 15 = .ok (.aload_n 0, 1) := by decide +kernel
theorem dX10_fits_16 : decode cX10_fits 16 = .ok (.iload_n 1, 1) := by decide +kernel
theorem dX10_fits_17 : decode cX10_fits 17 = .ok (.iload_n 2, 1) := by decide +kernel
theorem dX10_fits_18 : decode cX10_fits 18 = .ok (.invokevirtual 168, 3) := by decide +kernel
theorem dX10_fits_21 : decode cX10_fits 21 = .ok (.ifCond .ne 7, 3) := by decide +kernel
theorem dX10_fits_24 : decode cX10_fits 24 = .ok (.iconst 1, 1) := by decide +kernel
theorem dX10_fits_25 : decode cX10_fits 25 = .ok (.goto 4, 3) := by decide +kernel
theorem dX10_fits_28 : decode cX10_fits 28 = .ok (.iconst 0, 1) := by decide +kernel
theorem dX10_fits_29 : decode cX10_fits 29 = .ok (.ireturn, 1) := by decide +kernel
theorem dX10_matches_0 : decode cX10_matches 0 = .ok (.aload_n 0, 1) := by decide +kernel
theorem dX10_matches_1 : decode cX10_matches 1 = .ok (.iload_n 2, 1) := by decide +kernel
theorem dX10_matches_2 : decode cX10_matches 2 = .ok (.iconst 2, 1) := by decide +kernel
theorem dX10_matches_3 : decode cX10_matches 3 = .ok (.invokevirtual 165, 3) := by decide +kernel
theorem dX10_matches_6 : decode cX10_matches 6 = .ok (.istore_n 3, 1) := by decide +kernel
theorem dX10_matches_7 : decode cX10_matches 7 = .ok (.aload_n 0, 1) := by decide +kernel
theorem dX10_matches_8 : decode cX10_matches 8 = .ok (.iload_n 1, 1) := by decide +kernel
theorem dX10_matches_9 : decode cX10_matches 9 = .ok (.iconst 3, 1) := by decide +kernel
theorem dX10_matches_10 : decode cX10_matches 10 = .ok (.invokevirtual 162, 3) := by decide +kernel
theorem dX10_matches_13 : decode cX10_matches 13 = .ok (.istore 4, 2) := by decide +kernel
theorem dX10_matches_15 : decode cX10_matches 15 = .ok (.iload 4, 2) := by decide +kernel
theorem dX10_matches_17 : decode cX10_matches 17 = .ok (.iload_n 3, 1) := by decide +kernel
theorem dX10_matches_18 : decode cX10_matches 18 = .ok (.invokestatic 150, 3) := by decide +kernel
theorem dX10_matches_21 : decode cX10_matches 21 = .ok (.ifCond .eq 5, 3) := by decide +kernel
theorem dX10_matches_24 : decode cX10_matches 24 = .ok (.iconst 2, 1) := by decide +kernel
theorem dX10_matches_25 : decode cX10_matches 25 = .ok (.ireturn, 1) := by decide +kernel
theorem dX10_matches_26 : decode cX10_matches 26 = .ok (.iload 4, 2) := by decide +kernel
theorem dX10_matches_28 : decode cX10_matches 28 = .ok (.iload_n 3, 1) := by decide +kernel
theorem dX10_matches_29 : decode cX10_matches 29 = .ok (.iconst 1, 1) := by decide +kernel
theorem dX10_matches_30 : decode cX10_matches 30 = .ok (.iadd, 1) := by decide +kernel
theorem dX10_matches_31 : decode cX10_matches 31 = .ok (.invokestatic 150, 3) := by decide +kernel
theorem dX10_matches_34 : decode cX10_matches 34 = .ok (.ifCond .ne 18, 3) := by decide +kernel
theorem dX10_matches_37 : decode cX10_matches 37 = .ok (.iload_n 3, 1) := by decide +kernel
theorem dX10_matches_38 : decode cX10_matches 38 = .ok (.ifCond .le 18, 3) := by decide +kernel
theorem dX10_matches_41 : decode cX10_matches 41 = .ok (.iload 4, 2) := by decide +kernel
theorem dX10_matches_43 : decode cX10_matches 43 = .ok (.iload_n 3, 1) := by decide +kernel
theorem dX10_matches_44 : decode cX10_matches 44 = .ok (.iconst 1, 1) := by decide +kernel
theorem dX10_matches_45 : decode cX10_matches 45 = .ok (.isub, 1) := by decide +kernel
theorem dX10_matches_46 : decode cX10_matches 46 = .ok (.invokestatic 150, 3) := by decide +kernel
theorem dX10_matches_49 : decode cX10_matches 49 = .ok (.ifCond .eq 7, 3) := by decide +kernel
theorem dX10_matches_52 : decode cX10_matches 52 = .ok (.iconst 1, 1) := by decide +kernel
theorem dX10_matches_53 : decode cX10_matches 53 = .ok (.goto 4, 3) := by decide +kernel
theorem dX10_matches_56 : decode cX10_matches 56 = .ok (.iconst 0, 1) := by decide +kernel
theorem dX10_matches_57 : decode cX10_matches 57 = .ok (.ireturn, 1) := by decide +kernel
theorem dX10_count_0 : decode cX10_count 0 = .ok (.aload_n 0, 1) := by decide +kernel
theorem dX10_count_1 : decode cX10_count 1 = .ok (.iload_n 1, 1) := by decide +kernel
theorem dX10_count_2 : decode cX10_count 2 = .ok (.iconst 0, 1) := by decide +kernel
theorem dX10_count_3 : decode cX10_count 3 = .ok (.bipush 6, 2) := by decide +kernel
theorem dX10_count_5 : decode cX10_count 5 = .ok (.invokestatic 53, 3) := by decide +kernel
theorem dX10_count_8 : decode cX10_count 8 = .ok (.ifCond .eq 7, 3) := by decide +kernel
theorem dX10_count_11 : decode cX10_count 11 = .ok (.iconst 0, 1) := by decide +kernel
theorem dX10_count_12 : decode cX10_count 12 = .ok (.goto 4, 3) := by decide +kernel
theorem dX10_count_15 : decode cX10_count 15 = .ok (.iconst 1, 1) := by decide +kernel
theorem dX10_count_16 : decode cX10_count 16 = .ok (.putfield 50, 3) := by decide +kernel
theorem dX10_count_19 : decode cX10_count 19 = .ok (.aload_n 0, 1) := by decide +kernel
theorem dX10_count_20 : decode cX10_count 20 = .ok (.getfield 50, 3) := by decide +kernel
theorem dX10_count_23 : decode cX10_count 23 = .ok (.ifCond .le 5, 3) := by decide +kernel
theorem dX10_count_26 : decode cX10_count 26 = .ok (.iconst 0, 1) := by decide +kernel
theorem dX10_count_27 : decode cX10_count 27 = .ok (.ireturn, 1) := by decide +kernel
theorem dX10_count_28 : decode cX10_count 28 = .ok (.iload_n 1, 1) := by decide +kernel
theorem dX10_count_29 : decode cX10_count 29 = .ok (.iconst 3, 1) := by decide +kernel
theorem dX10_count_30 : decode cX10_count 30 = .ok (.if_icmp .ge 10, 3) := by decide +kernel
theorem dX10_count_33 : decode cX10_count 33 = .ok (.aload_n 0, 1) := by decide +kernel
theorem dX10_count_34 : decode cX10_count 34 = .ok (.getfield 7, 3) := by decide +kernel
theorem dX10_count_37 : decode cX10_count 37 = .ok (.iload_n 1, 1) := by decide +kernel
theorem dX10_count_38 : decode cX10_count 38 = .ok (.iaload, 1) := by decide +kernel
theorem dX10_count_39 : decode cX10_count 39 = .ok (.ireturn, 1) := by decide +kernel
theorem dX10_count_40 : decode cX10_count 40 = .ok (.iload_n 1, 1) := by decide +kernel
theorem dX10_count_41 : decode cX10_count 41 = .ok (.bipush 6, 2) := by decide +kernel
theorem dX10_count_43 : decode cX10_count 43 = .ok (.if_icmp .ne 13, 3) := by decide +kernel
theorem dX10_count_46 : decode cX10_count 46 = .ok (.aload_n 0, 1) := by decide +kernel
theorem dX10_count_47 : decode cX10_count 47 = .ok (.getfield 16, 3) := by decide +kernel
theorem dX10_count_50 : decode cX10_count 50 = .ok (.iconst 1, 1) := by decide +kernel
theorem dX10_count_51 : decode cX10_count 51 = .ok (.iaload, 1) := by decide +kernel
theorem dX10_count_52 : decode cX10_count 52 = .ok (.invokestatic 156, 3) := by decide +kernel
theorem dX10_count_55 : decode cX10_count 55 = .ok (.ireturn, 1) := by decide +kernel
theorem dX10_count_56 : decode cX10_count 56 = .ok (.iconst 0, 1) := by decide +kernel
theorem dX10_count_57 : decode cX10_count 57 = .ok (.istore_n 2, 1) := by decide +kernel
theorem dX10_count_58 : decode cX10_count 58 = .ok (.iconst 0, 1) := by decide +kernel
theorem dX10_count_59 : decode cX10_count 59 = .ok (.istore_n 3, 1) := by decide +kernel
theorem dX10_count_60 : decode cX10_count 60 = .ok (.iload_n 3, 1) := by decide +kernel
theorem dX10_count_61 : decode cX10_count 61 = .ok (.aload_n 0, 1) := by decide +kernel
theorem dX10_count_62 : decode cX10_count 62 = .ok (.getfield 7, 3) := by decide +kernel
theorem dX10_count_65 : decode cX10_count 65 = .ok (.iconst 1, 1) := by decide +kernel
theorem dX10_count_66 : decode cX10_count 66 = .ok (.iaload, 1) := by decide +kernel
theorem dX10_count_67 : decode cX10_count 67 = .ok (.if_icmp .ge 49, 3) := by decide +kernel
theorem dX10_count_70 : decode cX10_count 70 = .ok (.iload_n 2, 1) := by decide +kernel
theorem dX10_count_71 : decode cX10_count 71 = .ok (.iload_n 1, 1) := by decide +kernel
theorem dX10_count_72 : decode cX10_count 72 = .ok (.iconst 3, 1) := by decide +kernel
theorem dX10_count_73 : decode cX10_count 73 = .ok (.if_icmp .ne 11, 3) := by decide +kernel
theorem dX10_count_76 : decode cX10_count 76 = .ok (.aload_n 0, 1) := by decide +kernel
theorem dX10_count_77 : decode cX10_count 77 = .ok (.iload_n 3, 1) := by decide +kernel
theorem dX10_count_78 : decode cX10_count 78 = .ok (.invokevirtual 171, 3) := by decide +kernel
theorem dX10_count_81 : decode cX10_count 81 = .ok (.goto 27, 3) := by decide +kernel
theorem dX10_count_84 : decode cX10_count 84 = .ok (.iload_n 1, 1) := by decide +kernel
theorem dX10_count_85 : decode cX10_count 85 = .ok (.iconst 4, 1) := by decide +kernel
theorem dX10_count_86 : decode cX10_count 86 = .ok (.if_icmp .ne 11, 3) := by decide +kernel
theorem dX10_count_89 : decode cX10_count 89 = .ok (.aload_n 0, 1) := by decide +kernel
theorem dX10_count_90 : decode cX10_count 90 = .ok (.iload_n 3, 1) := by decide +kernel
theorem dX10_count_91 : decode cX10_count 91 = .ok (.invokevirtual 174, 3) := by decide +kernel
theorem dX10_count_94 : decode cX10_count 94 = .ok (.goto 14, 3) := by decide +kernel
theorem dX10_count_97 : decode cX10_count 97 = .ok (.aload_n 0, 1) := by decide +kernel
theorem dX10_count_98 : decode cX10_count 98 = .ok (.getfield 16, 3) := by decide +kernel
theorem dX10_count_101 : decode cX10_count 101 = .ok (.iconst 2, 1) := by decide +kernel
theorem dX10_count_102 : decode cX10_count 102 = .ok (.iload_n 3, 1) := by decide +kernel
theorem dX10_count_103 : decode cX10_count 103 = .ok (.iadd, 1) := by decide +kernel
theorem dX10_count_104 : decode cX10_count 104 = .ok (.iaload, 1) := by decide +kernel
theorem dX10_count_105 : decode cX10_count 105 = .ok (.invokestatic 156, 3) := by decide +kernel
theorem dX10_count_108 : decode cX10_count 108 = .ok (.iadd, 1) := by decide +kernel
theorem dX10_count_109 : decode cX10_count 109 = .ok (.istore_n 2, 1) := by decide +kernel
theorem dX10_count_110 : decode cX10_count 110 = .ok (.iinc 3 1, 3) := by decide +kernel
theorem dX10_count_113 : decode cX10_count 113 = .ok (.goto (-53), 3) := by decide +kernel
theorem dX10_count_116 : decode cX10_count 116 = .ok (.iload_n 2, 1) := by decide +kernel
theorem dX10_count_117 : decode cX10_count 117 = .ok (.ireturn, 1) := by decide +kernel
theorem dX10_areBoth_0 : decode cX10_areBoth 0 = .ok (.aload_n 0, 1) := by decide +kernel
theorem dX10_areBoth_1 : decode cX10_areBoth 1 = .ok (.aload_n 0, 1) := by decide +kernel
theorem dX10_areBoth_2 : decode cX10_areBoth 2 = .ok (.iload_n 1, 1) := by decide +kernel
theorem dX10_areBoth_3 : decode cX10_areBoth 3 = .ok (.invokevirtual 177, 3) := by decide +kernel
theorem dX10_areBoth_6 : decode cX10_areBoth 6 = .ok (.ifCond .eq 15, 3) := by decide +kernel
theorem dX10_areBoth_9 : decode cX10_areBoth 9 = .ok (.aload_n 0, 1) := by decide +kernel
theorem dX10_areBoth_10 : decode cX10_areBoth 10 = .ok (.iload_n 2, 1) := by decide +kernel
theorem dX10_areBoth_11 : decode cX10_areBoth 11 = .ok (.invokevirtual 181, 3) := by decide +kernel
theorem dX10_areBoth_14 : decode cX10_areBoth 14 = .ok (.ifCond .eq 7, 3) := by decide +kernel
theorem dX10_areBoth_17 : decode cX10_areBoth 17 = .ok (.iconst 0, 1) := by decide +kernel
theorem dX10_areBoth_18 : decode cX10_areBoth 18 = .ok (.goto 4, 3) := by decide +kernel
theorem dX10_areBoth_21 : decode cX10_areBoth 21 = .ok (.iconst 1, 1) := by decide +kernel
theorem dX10_areBoth_22 : decode cX10_areBoth 22 = .ok (.putfield 50, 3) := by decide +kernel
theorem dX10_areBoth_25 : decode cX10_areBoth 25 = .ok (.aload_n 0, 1) := by decide +kernel
theorem dX10_areBoth_26 : decode cX10_areBoth 26 = .ok (.getfield 50, 3) := by decide +kernel
theorem dX10_areBoth_29 : decode cX10_areBoth 29 = .ok (.ifCond .ne 7, 3) := by decide +kernel
theorem dX10_areBoth_32 : decode cX10_areBoth 32 = .ok (.iconst 1, 1) := by decide +kernel
theorem dX10_areBoth_33 : decode cX10_areBoth 33 = .ok (.goto 4, 3) := by decide +kernel
theorem dX10_areBoth_36 : decode cX10_areBoth 36 = .ok (.iconst 0, 1) := by decide +kernel
theorem dX10_areBoth_37 : decode cX10_areBoth 37 = .ok (.ireturn, 1) := by decide +kernel
theorem dX10_isConflict_0 : decode cX10_isConflict 0 = .ok (.aload_n 0, 1) := by decide +kernel
theorem dX10_isConflict_1 : decode cX10_isConflict 1 = .ok (.iload_n 1, 1) := by decide +kernel
theorem dX10_isConflict_2 : decode cX10_isConflict 2 = .ok (.iload_n 2, 1) := by decide +kernel
theorem dX10_isConflict_3 : decode cX10_isConflict 3 = .ok (.invokevirtual 184, 3) := by decide +kernel
theorem dX10_isConflict_6 : decode cX10_isConflict 6 = .ok (.ifCond .eq 16, 3) := by decide +kernel
theorem dX10_isConflict_9 : decode cX10_isConflict 9 = .ok (.aload_n 0, 1) := by decide +kernel
theorem dX10_isConflict_10 : decode cX10_isConflict 10 = .ok (.iload_n 1, 1) := by decide +kernel
theorem dX10_isConflict_11 : decode cX10_isConflict 11 = .ok (.iload_n 2, 1) := by decide +kernel
theorem dX10_isConflict_12 : decode cX10_isConflict 12 = .ok (.invokevirtual 168, 3) := by decide +kernel
theorem dX10_isConflict_15 : decode cX10_isConflict 15 = .ok (.ifCond .eq 7, 3) := by decide +kernel
theorem dX10_isConflict_18 : decode cX10_isConflict 18 = .ok (.iconst 1, 1) := by decide +kernel
theorem dX10_isConflict_19 : decode cX10_isConflict 19 = .ok (.goto 4, 3) := by decide +kernel
theorem dX10_isConflict_22 : decode cX10_isConflict 22 = .ok (.iconst 0, 1) := by decide +kernel
theorem dX10_isConflict_23 : decode cX10_isConflict 23 = .ok (.ireturn, 1) := by decide +kernel
theorem dX10_match_0 : decode cX10_match 0 = .ok (.aload_n 0, 1) := by decide +kernel
theorem dX10_match_1 : decode cX10_match 1 = .ok (.iload_n 1, 1) := by decide +kernel
theorem dX10_match_2 : decode cX10_match 2 = .ok (.iload_n 2, 1) := by decide +kernel
theorem dX10_match_3 : decode cX10_match 3 = .ok (.invokevirtual 184, 3) := by decide +kernel
theorem dX10_match_6 : decode cX10_match 6 = .ok (.ifCond .eq 12, 3) := by decide +kernel
theorem dX10_match_9 : decode cX10_match 9 = .ok (.aload_n 0, 1) := by decide +kernel
theorem dX10_match_10 : decode cX10_match 10 = .ok (.iload_n 1, 1) := by decide +kernel
theorem dX10_match_11 : decode cX10_match 11 = .ok (.iload_n 2, 1) := by decide +kernel
theorem dX10_match_12 : decode cX10_match 12 = .ok (.invokevirtual 187, 3) := by decide +kernel
theorem dX10_match_15 : decode cX10_match 15 = .ok (.goto 4, 3) := by decide +kernel
theorem dX10_match_18 : decode cX10_match 18 = .ok (.iconst 0, 1) := by decide +kernel
theorem dX10_match_19 : decode cX10_match 19 = .ok (.ireturn, 1) := by decide +kernel
theorem dX10_declare_0 : decode cX10_declare 0 = .ok (.aload_n 0, 1) := by decide +kernel
theorem dX10_declare_1 : decode cX10_declare 1 = .ok (.iload_n 1, 1) := by decide +kernel
theorem dX10_declare_2 : decode cX10_declare 2 = .ok (.iload_n 2, 1) := by decide +kernel
theorem dX10_declare_3 : decode cX10_declare 3 = .ok (.invokevirtual 184, 3) := by decide +kernel
theorem dX10_declare_6 : decode cX10_declare 6 = .ok (.ifCond .ne 5, 3) := by decide +kernel
theorem dX10_declare_9 : decode cX10_declare 9 = .ok (.iconst 0, 1) := by decide +kernel
theorem dX10_declare_10 : decode cX10_declare 10 = .ok (.ireturn, 1) := by decide +kernel
theorem dX10_declare_11 : decode cX10_declare 11 = .ok (.aload_n 0, 1) := by decide +kernel
theorem dX10_declare_12 : decode cX10_declare 12 = .ok (.iload_n 1, 1) := by decide +kernel
theorem dX10_declare_13 : decode cX10_declare 13 = .ok (.iload_n 2, 1) := by decide +kernel
theorem dX10_declare_14 : decode cX10_declare 14 = .ok (.invokevirtual 153, 3) := by decide +kernel
theorem dX10_declare_17 : decode cX10_declare 17 = .ok (.ifCond .eq 10, 3) := by decide +kernel
theorem dX10_declare_20 : decode cX10_declare 20 = .ok (.aload_n 0, 1) := by decide +kernel
theorem dX10_declare_21 : decode cX10_declare 21 = .ok (.iconst 2, 1) := by decide +kernel
theorem dX10_declare_22 : decode cX10_declare 22 = .ok (.putfield 50, 3) := by decide +kernel
theorem dX10_declare_25 : decode cX10_declare 25 = .ok (.iconst 0, 1) := by decide +kernel
theorem dX10_declare_26 : decode cX10_declare 26 = .ok (.ireturn, 1) := by decide +kernel
theorem dX10_declare_27 : decode cX10_declare 27 = .ok (.aload_n 0, 1) := by decide +kernel
theorem dX10_declare_28 : decode cX10_declare 28 = .ok (.getfield 16, 3) := by decide +kernel
theorem dX10_declare_31 : decode cX10_declare 31 = .ok (.iconst 2, 1) := by decide +kernel
theorem dX10_declare_32 : decode cX10_declare 32 = .ok (.iload_n 1, 1) := by decide +kernel
theorem dX10_declare_33 : decode cX10_declare 33 = .ok (.iadd, 1) := by decide +kernel
theorem dX10_declare_34 : decode cX10_declare 34 = .ok (.iaload, 1) := by decide +kernel
theorem dX10_declare_35 : decode cX10_declare 35 = .ok (.iload_n 2, 1) := by decide +kernel
theorem dX10_declare_36 : decode cX10_declare 36 = .ok (.invokestatic 150, 3) := by decide +kernel
theorem dX10_declare_39 : decode cX10_declare 39 = .ok (.ifCond .ne 7, 3) := by decide +kernel
theorem dX10_declare_42 : decode cX10_declare 42 = .ok (.iconst 1, 1) := by decide +kernel
theorem dX10_declare_43 : decode cX10_declare 43 = .ok (.goto 4, 3) := by decide +kernel
theorem dX10_declare_46 : decode cX10_declare 46 = .ok (.iconst 0, 1) := by decide +kernel
theorem dX10_declare_47 : decode cX10_declare 47 = .ok (.istore_n 3, 1) := by decide +kernel
theorem dX10_declare_48 : decode cX10_declare 48 = .ok (.aload_n 0, 1) := by decide +kernel
theorem dX10_declare_49 : decode cX10_declare 49 = .ok (.invokevirtual 190, 3) := by decide +kernel
theorem dX10_declare_52 : decode cX10_declare 52 = .ok (.aload_n 0, 1) := by decide +kernel
theorem dX10_declare_53 : decode cX10_declare 53 = .ok (.getfield 16, 3) := by decide +kernel
theorem dX10_declare_56 : decode cX10_declare 56 = .ok (.iconst 2, 1) := by decide +kernel
theorem dX10_declare_57 : decode cX10_declare 57 = .ok (.iload_n 1, 1) := by decide +kernel
theorem dX10_declare_58 : decode cX10_declare 58 = .ok (.iadd, 1) := by decide +kernel
theorem dX10_declare_59 : decode cX10_declare 59 = .ok (.dup2, 1) := by decide +kernel
theorem dX10_declare_60 : decode cX10_declare 60 = .ok (.iaload, 1) := by decide +kernel
theorem dX10_declare_61 : decode cX10_declare 61 = .ok (.iconst 1, 1) := by decide +kernel
theorem dX10_declare_62 : decode cX10_declare 62 = .ok (.iload_n 2, 1) := by decide +kernel
theorem dX10_declare_63 : decode cX10_declare 63 = .ok (.ishl, 1) := by decide +kernel
theorem dX10_declare_64 : decode cX10_declare 64 = .ok (.ior, 1) := by decide +kernel
theorem dX10_declare_65 : decode cX10_declare 65 = .ok (.iastore, 1) := by decide +kernel
theorem dX10_declare_66 : decode cX10_declare 66 = .ok (.iload_n 3, 1) := by decide +kernel
theorem dX10_declare_67 : decode cX10_declare 67 = .ok (.ireturn, 1) := by decide +kernel
theorem dX10_assign_0 : decode cX10_assign 0 = .ok (.aload_n 0, 1) := by decide +kernel
theorem dX10_assign_1 : decode cX10_assign 1 = .ok (.iload_n 1, 1) := by decide +kernel
theorem dX10_assign_2 : decode cX10_assign 2 = .ok (.iload_n 2, 1) := by decide +kernel
theorem dX10_assign_3 : decode cX10_assign 3 = .ok (.invokevirtual 184, 3) := by decide +kernel
theorem dX10_assign_6 : decode cX10_assign 6 = .ok (.ifCond .ne 5, 3) := by decide +kernel
theorem dX10_assign_9 : decode cX10_assign 9 = .ok (.iconst 0, 1) := by decide +kernel
theorem dX10_assign_10 : decode cX10_assign 10 = .ok (.ireturn, 1) := by decide +kernel
theorem dX10_assign_11 : decode cX10_assign 11 = .ok (.aload_n 0, 1) := by decide +kernel
