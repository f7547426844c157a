theorem dX10_assign_12 : decode cX10_assign 12 = .ok (.iload_n 1, 1) := by decide +kernel
theorem dX10_assign_13 : decode cX10_assign 13 = .ok (.iload_n 2, 1) := by decide +kernel
theorem dX10_assign_14 : decode cX10_assign 14 = .ok (.invokevirtual 193, 3) := by decide +kernel
theorem dX10_assign_17 : decode cX10_assign 17 = .ok (.ifCond .ne 9, 3) := by decide +kernel
theorem dX10_assign_20 : decode cX10_assign 20 = .ok (.aload_n 0, 1) := by decide +kernel
theorem dX10_assign_21 : decode cX10_assign 21 = .ok (.iconst 2, 1) := by decide +kernel
theorem dX10_assign_22 : decode cX10_assign 22 = .ok (.invokevirtual 60, 3) := by decide +kernel
theorem dX10_assign_25 : decode cX10_assign 25 = .ok (.ireturn, 1) := by decide +kernel
theorem dX10_assign_26 : decode cX10_assign 26 = .ok (.aload_n 0, 1) := by decide +kernel
theorem dX10_assign_27 : decode cX10_assign 27 = .ok (.iload_n 1, 1) := by decide +kernel
theorem dX10_assign_28 : decode cX10_assign 28 = .ok (.iload_n 2, 1) := by decide +kernel
theorem dX10_assign_29 : decode cX10_assign 29 = .ok (.invokevirtual 153, 3) := by decide +kernel
theorem dX10_assign_32 : decode cX10_assign 32 = .ok (.ifCond .ne 31, 3) := by decide +kernel
theorem dX10_assign_35 : decode cX10_assign 35 = .ok (.aload_n 0, 1) := by decide +kernel
theorem dX10_assign_36 : decode cX10_assign 36 = .ok (.iload_n 1, 1) := by decide +kernel
theorem dX10_assign_37 : decode cX10_assign 37 = .ok (.invokevirtual 171, 3) := by decide +kernel
theorem dX10_assign_40 : decode cX10_assign 40 = .ok (.aload_n 0, 1) := by decide +kernel
theorem dX10_assign_41 : decode cX10_assign 41 = .ok (.iload_n 1, 1) := by decide +kernel
theorem dX10_assign_42 : decode cX10_assign 42 = .ok (.iconst 2, 1) := by decide +kernel
theorem dX10_assign_43 : decode cX10_assign 43 = .ok (.invokevirtual 162, 3) := by decide +kernel
theorem dX10_assign_46 : decode cX10_assign 46 = .ok (.if_icmp .ge 17, 3) := by decide +kernel
theorem dX10_assign_49 : decode cX10_assign 49 = .ok (.aload_n 0, 1) := by decide +kernel
theorem dX10_assign_50 : decode cX10_assign 50 = .ok (.iload_n 2, 1) := by decide +kernel
theorem dX10_assign_51 : decode cX10_assign 51 = .ok (.invokevirtual 196, 3) := by decide +kernel
theorem dX10_assign_54 : decode cX10_assign 54 = .ok (.aload_n 0, 1) := by decide +kernel
theorem dX10_assign_55 : decode cX10_assign 55 = .ok (.getfield 7, 3) := by decide +kernel
theorem dX10_assign_58 : decode cX10_assign 58 = .ok (.iconst 3, 1) := by decide +kernel
theorem dX10_assign_59 : decode cX10_assign 59 = .ok (.iaload, 1) := by decide +kernel
theorem dX10_assign_60 : decode cX10_assign 60 = .ok (.if_icmp .lt 9, 3) := by decide +kernel
theorem dX10_assign_63 : decode cX10_assign 63 = .ok (.aload_n 0, 1) := by decide +kernel
theorem dX10_assign_64 : decode cX10_assign 64 = .ok (.iconst 3, 1) := by decide +kernel
theorem dX10_assign_65 : decode cX10_assign 65 = .ok (.invokevirtual 60, 3) := by decide +kernel
theorem dX10_assign_68 : decode cX10_assign 68 = .ok (.ireturn, 1) := by decide +kernel
theorem dX10_assign_69 : decode cX10_assign 69 = .ok (.aload_n 0, 1) := by decide +kernel
theorem dX10_assign_70 : decode cX10_assign 70 = .ok (.invokevirtual 190, 3) := by decide +kernel
theorem dX10_assign_73 : decode cX10_assign 73 = .ok (.aload_n 0, 1) := by decide +kernel
theorem dX10_assign_74 : decode cX10_assign 74 = .ok (.getfield 16, 3) := by decide +kernel
theorem dX10_assign_77 : decode cX10_assign 77 = .ok (.bipush 14, 2) := by decide +kernel
theorem dX10_assign_79 : decode cX10_assign 79 = .ok (.iload_n 1, 1) := by decide +kernel
theorem dX10_assign_80 : decode cX10_assign 80 = .ok (.iadd, 1) := by decide +kernel
theorem dX10_assign_81 : decode cX10_assign 81 = .ok (.dup2, 1) := by decide +kernel
theorem dX10_assign_82 : decode cX10_assign 82 = .ok (.iaload, 1) := by decide +kernel
theorem dX10_assign_83 : decode cX10_assign 83 = .ok (.iconst 1, 1) := by decide +kernel
theorem dX10_assign_84 : decode cX10_assign 84 = .ok (.iload_n 2, 1) := by decide +kernel
theorem dX10_assign_85 : decode cX10_assign 85 = .ok (.ishl, 1) := by decide +kernel
theorem dX10_assign_86 : decode cX10_assign 86 = .ok (.ior, 1) := by decide +kernel
theorem dX10_assign_87 : decode cX10_assign 87 = .ok (.iastore, 1) := by decide +kernel
theorem dX10_assign_88 : decode cX10_assign 88 = .ok (.aload_n 0, 1) := by decide +kernel
theorem dX10_assign_89 : decode cX10_assign 89 = .ok (.iload_n 2, 1) := by decide +kernel
theorem dX10_assign_90 : decode cX10_assign 90 = .ok (.invokevirtual 196, 3) := by decide +kernel
theorem dX10_assign_93 : decode cX10_assign 93 = .ok (.ireturn, 1) := by decide +kernel
theorem dX10_removes_0 : decode cX10_removes 0 = .ok (.aload_n 0, 1) := by decide +kernel
theorem dX10_removes_1 : decode cX10_removes 1 = .ok (.getfield 16, 3) := by decide +kernel
theorem dX10_removes_4 : decode cX10_removes 4 = .ok (.bipush 14, 2) := by decide +kernel
theorem dX10_removes_6 : decode cX10_removes 6 = .ok (.iload_n 1, 1) := by decide +kernel
theorem dX10_removes_7 : decode cX10_removes 7 = .ok (.iadd, 1) := by decide +kernel
theorem dX10_removes_8 : decode cX10_removes 8 = .ok (.dup2, 1) := by decide +kernel
theorem dX10_removes_9 : decode cX10_removes 9 = .ok (.iaload, 1) := by decide +kernel
theorem dX10_removes_10 : decode cX10_removes 10 = .ok (.iconst 1, 1) := by decide +kernel
theorem dX10_removes_11 : decode cX10_removes 11 = .ok (.iload_n 2, 1) := by decide +kernel
theorem dX10_removes_12 : decode cX10_removes 12 = .ok (.ishl, 1) := by decide +kernel
theorem dX10_removes_13 : decode cX10_removes 13 = .ok (.iconst (-1), 1) := by decide +kernel
theorem dX10_removes_14 : decode cX10_removes 14 = .ok (.ixor, 1) := by decide +kernel
theorem dX10_removes_15 : decode cX10_removes 15 = .ok (.iand, 1) := by decide +kernel
theorem dX10_removes_16 : decode cX10_removes 16 = .ok (.iastore, 1) := by decide +kernel
theorem dX10_removes_17 : decode cX10_removes 17 = .ok (.aload_n 0, 1) := by decide +kernel
theorem dX10_removes_18 : decode cX10_removes 18 = .ok (.getfield 16, 3) := by decide +kernel
theorem dX10_removes_21 : decode cX10_removes 21 = .ok (.bipush 26, 2) := by decide +kernel
theorem dX10_removes_23 : decode cX10_removes 23 = .ok (.bipush 16, 2) := by decide +kernel
theorem dX10_removes_25 : decode cX10_removes 25 = .ok (.iload_n 1, 1) := by decide +kernel
theorem dX10_removes_26 : decode cX10_removes 26 = .ok (.imul, 1) := by decide +kernel
theorem dX10_removes_27 : decode cX10_removes 27 = .ok (.iadd, 1) := by decide +kernel
theorem dX10_removes_28 : decode cX10_removes 28 = .ok (.iload_n 2, 1) := by decide +kernel
theorem dX10_removes_29 : decode cX10_removes 29 = .ok (.iadd, 1) := by decide +kernel
theorem dX10_removes_30 : decode cX10_removes 30 = .ok (.iconst 0, 1) := by decide +kernel
theorem dX10_removes_31 : decode cX10_removes 31 = .ok (.iastore, 1) := by decide +kernel
theorem dX10_removes_32 : decode cX10_removes 32 = .ok (.return_, 1) := by decide +kernel
theorem dX10_orNone_0 : decode cX10_orNone 0 = .ok (.iload_n 0, 1) := by decide +kernel
theorem dX10_orNone_1 : decode cX10_orNone 1 = .ok (.ifCond .ne 7, 3) := by decide +kernel
theorem dX10_orNone_4 : decode cX10_orNone 4 = .ok (.iconst (-1), 1) := by decide +kernel
theorem dX10_orNone_5 : decode cX10_orNone 5 = .ok (.goto 4, 3) := by decide +kernel
theorem dX10_orNone_8 : decode cX10_orNone 8 = .ok (.iload_n 0, 1) := by decide +kernel
theorem dX10_orNone_9 : decode cX10_orNone 9 = .ok (.ireturn, 1) := by decide +kernel
theorem dX10_unassign_0 : decode cX10_unassign 0 = .ok (.aload_n 0, 1) := by decide +kernel
theorem dX10_unassign_1 : decode cX10_unassign 1 = .ok (.iload_n 1, 1) := by decide +kernel
theorem dX10_unassign_2 : decode cX10_unassign 2 = .ok (.iload_n 2, 1) := by decide +kernel
theorem dX10_unassign_3 : decode cX10_unassign 3 = .ok (.invokevirtual 184, 3) := by decide +kernel
theorem dX10_unassign_6 : decode cX10_unassign 6 = .ok (.ifCond .ne 5, 3) := by decide +kernel
theorem dX10_unassign_9 : decode cX10_unassign 9 = .ok (.iconst 0, 1) := by decide +kernel
theorem dX10_unassign_10 : decode cX10_unassign 10 = .ok (.ireturn, 1) := by decide +kernel
theorem dX10_unassign_11 : decode cX10_unassign 11 = .ok (.aload_n 0, 1) := by decide +kernel
theorem dX10_unassign_12 : decode cX10_unassign 12 = .ok (.iload_n 1, 1) := by decide +kernel
theorem dX10_unassign_13 : decode cX10_unassign 13 = .ok (.iload_n 2, 1) := by decide +kernel
theorem dX10_unassign_14 : decode cX10_unassign 14 = .ok (.invokevirtual 153, 3) := by decide +kernel
theorem dX10_unassign_17 : decode cX10_unassign 17 = .ok (.ifCond .ne 9, 3) := by decide +kernel
theorem dX10_unassign_20 : decode cX10_unassign 20 = .ok (.aload_n 0, 1) := by decide +kernel
theorem dX10_unassign_21 : decode cX10_unassign 21 = .ok (.iconst 2, 1) := by decide +kernel
theorem dX10_unassign_22 : decode cX10_unassign 22 = .ok (.invokevirtual 60, 3) := by decide +kernel
theorem dX10_unassign_25 : decode cX10_unassign 25 = .ok (.ireturn, 1) := by decide +kernel
theorem dX10_unassign_26 : decode cX10_unassign 26 = .ok (.aload_n 0, 1) := by decide +kernel
theorem dX10_unassign_27 : decode cX10_unassign 27 = .ok (.invokevirtual 190, 3) := by decide +kernel
theorem dX10_unassign_30 : decode cX10_unassign 30 = .ok (.aload_n 0, 1) := by decide +kernel
theorem dX10_unassign_31 : decode cX10_unassign 31 = .ok (.iload_n 1, 1) := by decide +kernel
theorem dX10_unassign_32 : decode cX10_unassign 32 = .ok (.iload_n 2, 1) := by decide +kernel
theorem dX10_unassign_33 : decode cX10_unassign 33 = .ok (.invokevirtual 159, 3) := by decide +kernel
theorem dX10_unassign_36 : decode cX10_unassign 36 = .ok (.istore_n 3, 1) := by decide +kernel
theorem dX10_unassign_37 : decode cX10_unassign 37 = .ok (.aload_n 0, 1) := by decide +kernel
theorem dX10_unassign_38 : decode cX10_unassign 38 = .ok (.iload_n 1, 1) := by decide +kernel
theorem dX10_unassign_39 : decode cX10_unassign 39 = .ok (.iload_n 2, 1) := by decide +kernel
theorem dX10_unassign_40 : decode cX10_unassign 40 = .ok (.invokevirtual 199, 3) := by decide +kernel
theorem dX10_unassign_43 : decode cX10_unassign 43 = .ok (.iload_n 3, 1) := by decide +kernel
theorem dX10_unassign_44 : decode cX10_unassign 44 = .ok (.invokestatic 202, 3) := by decide +kernel
theorem dX10_unassign_47 : decode cX10_unassign 47 = .ok (.ireturn, 1) := by decide +kernel
theorem dX10_chooses_0 : decode cX10_chooses 0 = .ok (.iconst (-1), 1) := by decide +kernel
theorem dX10_chooses_1 : decode cX10_chooses 1 = .ok (.istore_n 2, 1) := by decide +kernel
theorem dX10_chooses_2 : decode cX10_chooses 2 = .ok (.iconst 0, 1) := by decide +kernel
theorem dX10_chooses_3 : decode cX10_chooses 3 = .ok (.istore_n 3, 1) := by decide +kernel
theorem dX10_chooses_4 : decode cX10_chooses 4 = .ok (.iload_n 3, 1) := by decide +kernel
theorem dX10_chooses_5 : decode cX10_chooses 5 = .ok (.aload_n 0, 1) := by decide +kernel
theorem dX10_chooses_6 : decode cX10_chooses 6 = .ok (.getfield 7, 3) := by decide +kernel
theorem dX10_chooses_9 : decode cX10_chooses 9 = .ok (.iconst 1, 1) := by decide +kernel
theorem dX10_chooses_10 : decode cX10_chooses 10 = .ok (.iaload, 1) := by decide +kernel
theorem dX10_chooses_11 : decode cX10_chooses 11 = .ok (.if_icmp .ge 97, 3) := by decide +kernel
theorem dX10_chooses_14 : decode cX10_chooses 14 = .ok (.aload_n 0, 1) := by decide +kernel
theorem dX10_chooses_15 : decode cX10_chooses 15 = .ok (.iload_n 3, 1) := by decide +kernel
theorem dX10_chooses_16 : decode cX10_chooses 16 = .ok (.iload_n 1, 1) := by decide +kernel
theorem dX10_chooses_17 : decode cX10_chooses 17 = .ok (.invokevirtual 193, 3) := by decide +kernel
theorem dX10_chooses_20 : decode cX10_chooses 20 = .ok (.ifCond .eq 82, 3) := by decide +kernel
theorem dX10_chooses_23 : decode cX10_chooses 23 = .ok (.aload_n 0, 1) := by decide +kernel
theorem dX10_chooses_24 : decode cX10_chooses 24 = .ok (.iload_n 3, 1) := by decide +kernel
theorem dX10_chooses_25 : decode cX10_chooses 25 = .ok (.iload_n 1, 1) := by decide +kernel
theorem dX10_chooses_26 : decode cX10_chooses 26 = .ok (.invokevirtual 153, 3) := by decide +kernel
theorem dX10_chooses_29 : decode cX10_chooses 29 = .ok (.ifCond .ne 73, 3) := by decide +kernel
theorem dX10_chooses_32 : decode cX10_chooses 32 = .ok (.aload_n 0, 1) := by decide +kernel
theorem dX10_chooses_33 : decode cX10_chooses 33 = .ok (.iload_n 3, 1) := by decide +kernel
theorem dX10_chooses_34 : decode cX10_chooses 34 = .ok (.invokevirtual 171, 3) := by decide +kernel
theorem dX10_chooses_37 : decode cX10_chooses 37 = .ok (.aload_n 0, 1) := by decide +kernel
theorem dX10_chooses_38 : decode cX10_chooses 38 = .ok (.iload_n 3, 1) := by decide +kernel
theorem dX10_chooses_39 : decode cX10_chooses 39 = .ok (.iconst 2, 1) := by decide +kernel
theorem dX10_chooses_40 : decode cX10_chooses 40 = .ok (.invokevirtual 162, 3) := by decide +kernel
theorem dX10_chooses_43 : decode cX10_chooses 43 = .ok (.if_icmp .lt 6, 3) := by decide +kernel
theorem dX10_chooses_46 : decode cX10_chooses 46 = .ok (.goto 56, 3) := by decide +kernel
theorem dX10_chooses_49 : decode cX10_chooses 49 = .ok (.iload_n 2, 1) := by decide +kernel
theorem dX10_chooses_50 : decode cX10_chooses 50 = .ok (.iconst (-1), 1) := by decide +kernel
theorem dX10_chooses_51 : decode cX10_chooses 51 = .ok (.if_icmp .ne 7, 3) := by decide +kernel
theorem dX10_chooses_54 : decode cX10_chooses 54 = .ok (.iconst 1, 1) := by decide +kernel
theorem dX10_chooses_55 : decode cX10_chooses 55 = .ok (.goto 16, 3) := by decide +kernel
theorem dX10_chooses_58 : decode cX10_chooses 58 = .ok (.aload_n 0, 1) := by decide +kernel
theorem dX10_chooses_59 : decode cX10_chooses 59 = .ok (.iload_n 3, 1) := by decide +kernel
theorem dX10_chooses_60 : decode cX10_chooses 60 = .ok (.iload_n 1, 1) := by decide +kernel
theorem dX10_chooses_61 : decode cX10_chooses 61 = .ok (.invokevirtual 187, 3) := by decide +kernel
theorem dX10_chooses_64 : decode cX10_chooses 64 = .ok (.aload_n 0, 1) := by decide +kernel
theorem dX10_chooses_65 : decode cX10_chooses 65 = .ok (.iload_n 2, 1) := by decide +kernel
theorem dX10_chooses_66 : decode cX10_chooses 66 = .ok (.iload_n 1, 1) := by decide +kernel
theorem dX10_chooses_67 : decode cX10_chooses 67 = .ok (.invokevirtual 187, 3) := by decide +kernel
theorem dX10_chooses_70 : decode cX10_chooses 70 = .ok (.isub, 1) := by decide +kernel
theorem dX10_chooses_71 : decode cX10_chooses 71 = .ok (.istore 4, 2) := by decide +kernel
theorem dX10_chooses_73 : decode cX10_chooses 73 = .ok (.iload 4, 2) := by decide +kernel
theorem dX10_chooses_75 : decode cX10_chooses 75 = .ok (.ifCond .gt 21, 3) := by decide +kernel
theorem dX10_chooses_78 : decode cX10_chooses 78 = .ok (.iload 4, 2) := by decide +kernel
theorem dX10_chooses_80 : decode cX10_chooses 80 = .ok (.ifCond .ne 20, 3) := by decide +kernel
theorem dX10_chooses_83 : decode cX10_chooses 83 = .ok (.aload_n 0, 1) := by decide +kernel
theorem dX10_chooses_84 : decode cX10_chooses 84 = .ok (.iload_n 3, 1) := by decide +kernel
theorem dX10_chooses_85 : decode cX10_chooses 85 = .ok (.invokevirtual 171, 3) := by decide +kernel
theorem dX10_chooses_88 : decode cX10_chooses 88 = .ok (.aload_n 0, 1) := by decide +kernel
theorem dX10_chooses_89 : decode cX10_chooses 89 = .ok (.iload_n 2, 1) := by decide +kernel
theorem dX10_chooses_90 : decode cX10_chooses 90 = .ok (.invokevirtual 171, 3) := by decide +kernel
theorem dX10_chooses_93 : decode cX10_chooses 93 = .ok (.if_icmp .ge 7, 3) := by decide +kernel
theorem dX10_chooses_96 : decode cX10_chooses 96 = .ok (.iload_n 3, 1) := by decide +kernel
theorem dX10_chooses_97 : decode cX10_chooses 97 = .ok (.goto 4, 3) := by decide +kernel
theorem dX10_chooses_100 : decode cX10_chooses 100 = .ok (.iload_n 2, 1) := by decide +kernel
theorem dX10_chooses_101 : decode cX10_chooses 101 = .ok (.istore_n 2, 1) := by decide +kernel
theorem dX10_chooses_102 : decode cX10_chooses 102 = .ok (.iinc 3 1, 3) := by decide +kernel
theorem dX10_chooses_105 : decode cX10_chooses 105 = .ok (.goto (-101), 3) := by decide +kernel
theorem dX10_chooses_108 : decode cX10_chooses 108 = .ok (.iload_n 2, 1) := by decide +kernel
theorem dX10_chooses_109 : decode cX10_chooses 109 = .ok (.ireturn, 1) := by decide +kernel
theorem dX10_assignAll_0 : decode cX10_assignAll 0 = .ok (.aload_n 0, 1) := by decide +kernel
theorem dX10_assignAll_1 : decode cX10_assignAll 1 = .ok (.aload_n 0, 1) := by decide +kernel
theorem dX10_assignAll_2 : decode cX10_assignAll 2 = .ok (.iload_n 1, 1) := by decide +kernel
theorem dX10_assignAll_3 : decode cX10_assignAll 3 = .ok (.invokevirtual 205, 3) := by decide +kernel
theorem dX10_assignAll_6 : decode cX10_assignAll 6 = .ok (.ifCond .eq 7, 3) := by decide +kernel
theorem dX10_assignAll_9 : decode cX10_assignAll 9 = .ok (.iconst 0, 1) := by decide +kernel
theorem dX10_assignAll_10 : decode cX10_assignAll 10 = .ok (.goto 4, 3) := by decide +kernel
theorem dX10_assignAll_13 : decode cX10_assignAll 13 = .ok (.iconst 1, 1) := by decide +kernel
theorem dX10_assignAll_14 : decode cX10_assignAll 14 = .ok (.putfield 50, 3) := by decide +kernel
theorem dX10_assignAll_17 : decode cX10_assignAll 17 = .ok (.aload_n 0, 1) := by decide +kernel
theorem dX10_assignAll_18 : decode cX10_assignAll 18 = .ok (.getfield 50, 3) := by decide +kernel
theorem dX10_assignAll_21 : decode cX10_assignAll 21 = .ok (.ifCond .le 5, 3) := by decide +kernel
theorem dX10_assignAll_24 : decode cX10_assignAll 24 = .ok (.iconst 0, 1) := by decide +kernel
theorem dX10_assignAll_25 : decode cX10_assignAll 25 = .ok (.ireturn, 1) := by decide +kernel
theorem dX10_assignAll_26 : decode cX10_assignAll 26 = .ok (.aload_n 0, 1) := by decide +kernel
theorem dX10_assignAll_27 : decode cX10_assignAll 27 = .ok (.invokevirtual 190, 3) := by decide +kernel
theorem dX10_assignAll_30 : decode cX10_assignAll 30 = .ok (.iconst 0, 1) := by decide +kernel
theorem dX10_assignAll_31 : decode cX10_assignAll 31 = .ok (.istore_n 2, 1) := by decide +kernel
theorem dX10_assignAll_32 : decode cX10_assignAll 32 = .ok (.iconst 1, 1) := by decide +kernel
theorem dX10_assignAll_33 : decode cX10_assignAll 33 = .ok (.istore_n 3, 1) := by decide +kernel
theorem dX10_assignAll_34 : decode cX10_assignAll 34 = .ok (.iload_n 3, 1) := by decide +kernel
theorem dX10_assignAll_35 : decode cX10_assignAll 35 = .ok (.aload_n 0, 1) := by decide +kernel
theorem dX10_assignAll_36 : decode cX10_assignAll 36 = .ok (.getfield 7, 3) := by decide +kernel
theorem dX10_assignAll_39 : decode cX10_assignAll 39 = .ok (.iconst 3, 1) := by decide +kernel
theorem dX10_assignAll_40 : decode cX10_assignAll 40 = .ok (.iaload, 1) := by decide +kernel
theorem dX10_assignAll_41 : decode cX10_assignAll 41 = .ok (.if_icmp .gt 88, 3) := by decide +kernel
theorem dX10_assignAll_44 : decode cX10_assignAll 44 = .ok (.iconst 0, 1) := by decide +kernel
theorem dX10_assignAll_45 : decode cX10_assignAll 45 = .ok (.istore 4, 2) := by decide +kernel
theorem dX10_assignAll_47 : decode cX10_assignAll 47 = .ok (.iload 4, 2) := by decide +kernel
theorem dX10_assignAll_49 : decode cX10_assignAll 49 = .ok (.aload_n 0, 1) := by decide +kernel
theorem dX10_assignAll_50 : decode cX10_assignAll 50 = .ok (.getfield 7, 3) := by decide +kernel
theorem dX10_assignAll_53 : decode cX10_assignAll 53 = .ok (.iconst 2, 1) := by decide +kernel
theorem dX10_assignAll_54 : decode cX10_assignAll 54 = .ok (.iaload, 1) := by decide +kernel
theorem dX10_assignAll_55 : decode cX10_assignAll 55 = .ok (.if_icmp .ge 68, 3) := by decide +kernel
theorem dX10_assignAll_58 : decode cX10_assignAll 58 = .ok (.aload_n 0, 1) := by decide +kernel
theorem dX10_assignAll_59 : decode cX10_assignAll 59 = .ok (.iload 4, 2) := by decide +kernel
theorem dX10_assignAll_61 : decode cX10_assignAll 61 = .ok (.iconst 0, 1) := by decide +kernel
theorem dX10_assignAll_62 : decode cX10_assignAll 62 = .ok (.invokevirtual 165, 3) := by decide +kernel
theorem dX10_assignAll_65 : decode cX10_assignAll 65 = .ok (.iload_n 1, 1) := by decide +kernel
theorem dX10_assignAll_66 : decode cX10_assignAll 66 = .ok (.if_icmp .ne 22, 3) := by decide +kernel
theorem dX10_assignAll_69 : decode cX10_assignAll 69 = .ok (.aload_n 0, 1) := by decide +kernel
theorem dX10_assignAll_70 : decode cX10_assignAll 70 = .ok (.iload 4, 2) := by decide +kernel
theorem dX10_assignAll_72 : decode cX10_assignAll 72 = .ok (.invokevirtual 196, 3) := by decide +kernel
theorem dX10_assignAll_75 : decode cX10_assignAll 75 = .ok (.iload_n 3, 1) := by decide +kernel
theorem dX10_assignAll_76 : decode cX10_assignAll 76 = .ok (.if_icmp .ge 12, 3) := by decide +kernel
theorem dX10_assignAll_79 : decode cX10_assignAll 79 = .ok (.aload_n 0, 1) := by decide +kernel
theorem dX10_assignAll_80 : decode cX10_assignAll 80 = .ok (.iload 4, 2) := by decide +kernel
theorem dX10_assignAll_82 : decode cX10_assignAll 82 = .ok (.invokevirtual 208, 3) := by decide +kernel
theorem dX10_assignAll_85 : decode cX10_assignAll 85 = .ok (.goto 4, 3) := by decide +kernel
theorem dX10_assignAll_88 : decode cX10_assignAll 88 = .ok (.iconst (-1), 1) := by decide +kernel
theorem dX10_assignAll_89 : decode cX10_assignAll 89 = .ok (.istore 5, 2) := by decide +kernel
theorem dX10_assignAll_91 : decode cX10_assignAll 91 = .ok (.iload 5, 2) := by decide +kernel
theorem dX10_assignAll_93 : decode cX10_assignAll 93 = .ok (.iconst (-1), 1) := by decide +kernel
theorem dX10_assignAll_94 : decode cX10_assignAll 94 = .ok (.if_icmp .eq 23, 3) := by decide +kernel
theorem dX10_assignAll_97 : decode cX10_assignAll 97 = .ok (.aload_n 0, 1) := by decide +kernel
theorem dX10_assignAll_98 : decode cX10_assignAll 98 = .ok (.getfield 16, 3) := by decide +kernel
theorem dX10_assignAll_101 : decode cX10_assignAll 101 = .ok (.bipush 14, 2) := by decide +kernel
theorem dX10_assignAll_103 : decode cX10_assignAll 103 = .ok (.iload 5, 2) := by decide +kernel
theorem dX10_assignAll_105 : decode cX10_assignAll 105 = .ok (.iadd, 1) := by decide +kernel
theorem dX10_assignAll_106 : decode cX10_assignAll 106 = .ok (.dup2, 1) := by decide +kernel
theorem dX10_assignAll_107 : decode cX10_assignAll 107 = .ok (.iaload, 1) := by decide +kernel
theorem dX10_assignAll_108 : decode cX10_assignAll 108 = .ok (.iconst 1, 1) := by decide +kernel
theorem dX10_assignAll_109 : decode cX10_assignAll 109 = .ok (.iload 4, 2) := by decide +kernel
theorem dX10_assignAll_111 : decode cX10_assignAll 111 = .ok (.ishl, 1) := by decide +kernel
theorem dX10_assignAll_112 : decode cX10_assignAll 112 = .ok (.ior, 1) := by decide +kernel
theorem dX10_assignAll_113 : decode cX10_assignAll 113 = .ok (.iastore, 1) := by decide +kernel
theorem dX10_assignAll_114 : decode cX10_assignAll 114 = .ok (.iinc 2 1, 3) := by decide +kernel
theorem dX10_assignAll_117 : decode cX10_assignAll 117 = .ok (.iinc 4 1, 3) := by decide +kernel
theorem dX10_assignAll_120 : decode cX10_assignAll 120 = .ok (.goto (-73), 3) := by decide +kernel
theorem dX10_assignAll_123 : decode cX10_assignAll 123 = .ok (.iinc 3 1, 3) := by decide +kernel
theorem dX10_assignAll_126 : decode cX10_assignAll 126 = .ok (.goto (-92), 3) := by decide +kernel
theorem dX10_assignAll_129 : decode cX10_assignAll 129 = .ok (.iload_n 2, 1) := by decide +kernel
theorem dX10_assignAll_130 : decode cX10_assignAll 130 = .ok (.ireturn, 1) := by decide +kernel
theorem dX10_reviewerOf_0 : decode cX10_reviewerOf 0 = .ok (.aload_n 0, 1) := by decide +kernel
theorem dX10_reviewerOf_1 : decode cX10_reviewerOf 1 = .ok (.aload_n 0, 1) := by decide +kernel
theorem dX10_reviewerOf_2 : decode cX10_reviewerOf 2 = .ok (.iload_n 1, 1) := by decide +kernel
theorem dX10_reviewerOf_3 : decode cX10_reviewerOf 3 = .ok (.invokevirtual 181, 3) := by decide +kernel
theorem dX10_reviewerOf_6 : decode cX10_reviewerOf 6 = .ok (.ifCond .eq 22, 3) := by decide +kernel
theorem dX10_reviewerOf_9 : decode cX10_reviewerOf 9 = .ok (.iload_n 2, 1) := by decide +kernel
theorem dX10_reviewerOf_10 : decode cX10_reviewerOf 10 = .ok (.iconst 0, 1) := by decide +kernel
theorem dX10_reviewerOf_11 : decode cX10_reviewerOf 11 = .ok (.aload_n 0, 1) := by decide +kernel
theorem dX10_reviewerOf_12 : decode cX10_reviewerOf 12 = .ok (.iload_n 1, 1) := by decide +kernel
theorem dX10_reviewerOf_13 : decode cX10_reviewerOf 13 = .ok (.invokevirtual 196, 3) := by decide +kernel
theorem dX10_reviewerOf_16 : decode cX10_reviewerOf 16 = .ok (.iconst 1, 1) := by decide +kernel
theorem dX10_reviewerOf_17 : decode cX10_reviewerOf 17 = .ok (.isub, 1) := by decide +kernel
theorem dX10_reviewerOf_18 : decode cX10_reviewerOf 18 = .ok (.invokestatic 53, 3) := by decide +kernel
theorem dX10_reviewerOf_21 : decode cX10_reviewerOf 21 = .ok (.ifCond .eq 7, 3) := by decide +kernel
theorem dX10_reviewerOf_24 : decode cX10_reviewerOf 24 = .ok (.iconst 0, 1) := by decide +kernel
theorem dX10_reviewerOf_25 : decode cX10_reviewerOf 25 = .ok (.goto 4, 3) := by decide +kernel
theorem dX10_reviewerOf_28 : decode cX10_reviewerOf 28 = .ok (.iconst 1, 1) := by decide +kernel
theorem dX10_reviewerOf_29 : decode cX10_reviewerOf 29 = .ok (.putfield 50, 3) := by decide +kernel
theorem dX10_reviewerOf_32 : decode cX10_reviewerOf 32 = .ok (.iconst 0, 1) := by decide +kernel
theorem dX10_reviewerOf_33 : decode cX10_reviewerOf 33 = .ok (.istore_n 3, 1) := by decide +kernel
theorem dX10_reviewerOf_34 : decode cX10_reviewerOf 34 = .ok (.iconst 0, 1) := by decide +kernel
theorem dX10_reviewerOf_35 : decode cX10_reviewerOf 35 = .ok (.istore 4, 2) := by decide +kernel
theorem dX10_reviewerOf_37 : decode cX10_reviewerOf 37 = .ok (.iload 4, 2) := by decide +kernel
theorem dX10_reviewerOf_39 : decode cX10_reviewerOf 39 = .ok (.aload_n 0, 1) := by decide +kernel
theorem dX10_reviewerOf_40 : decode cX10_reviewerOf 40 = .ok (.getfield 7, 3) := by decide +kernel
theorem dX10_reviewerOf_43 : decode cX10_reviewerOf 43 = .ok (.iconst 1, 1) := by decide +kernel
theorem dX10_reviewerOf_44 : decode cX10_reviewerOf 44 = .ok (.iaload, 1) := by decide +kernel
theorem dX10_reviewerOf_45 : decode cX10_reviewerOf 45 = .ok (.if_icmp .ge 40, 3) := by decide +kernel
theorem dX10_reviewerOf_48 : decode cX10_reviewerOf 48 = .ok (.aload_n 0, 1) := by decide +kernel
theorem dX10_reviewerOf_49 : decode cX10_reviewerOf 49 = .ok (.getfield 50, 3) := by decide +kernel
theorem dX10_reviewerOf_52 : decode cX10_reviewerOf 52 = .ok (.ifCond .ne 33, 3) := by decide +kernel
theorem dX10_reviewerOf_55 : decode cX10_reviewerOf 55 = .ok (.aload_n 0, 1) := by decide +kernel
theorem dX10_reviewerOf_56 : decode cX10_reviewerOf 56 = .ok (.iload 4, 2) := by decide +kernel
theorem dX10_reviewerOf_58 : decode cX10_reviewerOf 58 = .ok (.iload_n 1, 1) := by decide +kernel
theorem dX10_reviewerOf_59 : decode cX10_reviewerOf 59 = .ok (.invokevirtual 153, 3) := by decide +kernel
theorem dX10_reviewerOf_62 : decode cX10_reviewerOf 62 = .ok (.ifCond .ne 6, 3) := by decide +kernel
theorem dX10_reviewerOf_65 : decode cX10_reviewerOf 65 = .ok (.goto 14, 3) := by decide +kernel
theorem dX10_reviewerOf_68 : decode cX10_reviewerOf 68 = .ok (.iload_n 3, 1) := by decide +kernel
theorem dX10_reviewerOf_69 : decode cX10_reviewerOf 69 = .ok (.iload_n 2, 1) := by decide +kernel
theorem dX10_reviewerOf_70 : decode cX10_reviewerOf 70 = .ok (.if_icmp .ne 6, 3) := by decide +kernel
theorem dX10_reviewerOf_73 : decode cX10_reviewerOf 73 = .ok (.iload 4, 2) := by decide +kernel
theorem dX10_reviewerOf_75 : decode cX10_reviewerOf 75 = .ok (.ireturn, 1) := by decide +kernel
theorem dX10_reviewerOf_76 : decode cX10_reviewerOf 76 = .ok (.iinc 3 1, 3) := by decide +kernel
theorem dX10_reviewerOf_79 : decode cX10_reviewerOf 79 = .ok (.iinc 4 1, 3) := by decide +kernel
theorem dX10_reviewerOf_82 : decode cX10_reviewerOf 82 = .ok (.goto (-45), 3) := by decide +kernel
theorem dX10_reviewerOf_85 : decode cX10_reviewerOf 85 = .ok (.iconst 0, 1) := by decide +kernel
theorem dX10_reviewerOf_86 : decode cX10_reviewerOf 86 = .ok (.ireturn, 1) := by decide +kernel
theorem dX10_loadOf_0 : decode cX10_loadOf 0 = .ok (.aload_n 0, 1) := by decide +kernel
theorem dX10_loadOf_1 : decode cX10_loadOf 1 = .ok (.aload_n 0, 1) := by decide +kernel
theorem dX10_loadOf_2 : decode cX10_loadOf 2 = .ok (.iload_n 1, 1) := by decide +kernel
theorem dX10_loadOf_3 : decode cX10_loadOf 3 = .ok (.invokevirtual 177, 3) := by decide +kernel
theorem dX10_loadOf_6 : decode cX10_loadOf 6 = .ok (.ifCond .eq 7, 3) := by decide +kernel
theorem dX10_loadOf_9 : decode cX10_loadOf 9 = .ok (.iconst 0, 1) := by decide +kernel
theorem dX10_loadOf_10 : decode cX10_loadOf 10 = .ok (.goto 4, 3) := by decide +kernel
theorem dX10_loadOf_13 : decode cX10_loadOf 13 = .ok (.iconst 1, 1) := by decide +kernel
theorem dX10_loadOf_14 : decode cX10_loadOf 14 = .ok (.putfield 50, 3) := by decide +kernel
theorem dX10_loadOf_17 : decode cX10_loadOf 17 = .ok (.aload_n 0, 1) := by decide +kernel
theorem dX10_loadOf_18 : decode cX10_loadOf 18 = .ok (.getfield 50, 3) := by decide +kernel
theorem dX10_loadOf_21 : decode cX10_loadOf 21 = .ok (.ifCond .le 7, 3) := by decide +kernel
theorem dX10_loadOf_24 : decode cX10_loadOf 24 = .ok (.iconst 0, 1) := by decide +kernel
theorem dX10_loadOf_25 : decode cX10_loadOf 25 = .ok (.goto 8, 3) := by decide +kernel
theorem dX10_loadOf_28 : decode cX10_loadOf 28 = .ok (.aload_n 0, 1) := by decide +kernel
theorem dX10_loadOf_29 : decode cX10_loadOf 29 = .ok (.iload_n 1, 1) := by decide +kernel
theorem dX10_loadOf_30 : decode cX10_loadOf 30 = .ok (.invokevirtual 171, 3) := by decide +kernel
theorem dX10_loadOf_33 : decode cX10_loadOf 33 = .ok (.ireturn, 1) := by decide +kernel
theorem dX10_matchSum_0 : decode cX10_matchSum 0 = .ok (.aload_n 0, 1) := by decide +kernel
theorem dX10_matchSum_1 : decode cX10_matchSum 1 = .ok (.aload_n 0, 1) := by decide +kernel
theorem dX10_matchSum_2 : decode cX10_matchSum 2 = .ok (.iload_n 1, 1) := by decide +kernel
theorem dX10_matchSum_3 : decode cX10_matchSum 3 = .ok (.invokevirtual 205, 3) := by decide +kernel
theorem dX10_matchSum_6 : decode cX10_matchSum 6 = .ok (.ifCond .eq 7, 3) := by decide +kernel
theorem dX10_matchSum_9 : decode cX10_matchSum 9 = .ok (.iconst 0, 1) := by decide +kernel
theorem dX10_matchSum_10 : decode cX10_matchSum 10 = .ok (.goto 4, 3) := by decide +kernel
theorem dX10_matchSum_13 : decode cX10_matchSum 13 = .ok (.iconst 1, 1) := by decide +kernel
theorem dX10_matchSum_14 : decode cX10_matchSum 14 = .ok (.putfield 50, 3) := by decide +kernel
theorem dX10_matchSum_17 : decode cX10_matchSum 17 = .ok (.iconst 0, 1) := by decide +kernel
theorem dX10_matchSum_18 : decode cX10_matchSum 18 = .ok (.istore_n 2, 1) := by decide +kernel
theorem dX10_matchSum_19 : decode cX10_matchSum 19 = .ok (.iconst 0, 1) := by decide +kernel
theorem dX10_matchSum_20 : decode cX10_matchSum 20 = .ok (.istore_n 3, 1) := by decide +kernel
theorem dX10_matchSum_21 : decode cX10_matchSum 21 = .ok (.iload_n 3, 1) := by decide +kernel
theorem dX10_matchSum_22 : decode cX10_matchSum 22 = .ok (.aload_n 0, 1) := by decide +kernel
theorem dX10_matchSum_23 : decode cX10_matchSum 23 = .ok (.getfield 7, 3) := by decide +kernel
theorem dX10_matchSum_26 : decode cX10_matchSum 26 = .ok (.iconst 2, 1) := by decide +kernel
theorem dX10_matchSum_27 : decode cX10_matchSum 27 = .ok (.iaload, 1) := by decide +kernel
theorem dX10_matchSum_28 : decode cX10_matchSum 28 = .ok (.if_icmp .ge 70, 3) := by decide +kernel
theorem dX10_matchSum_31 : decode cX10_matchSum 31 = .ok (.aload_n 0, 1) := by decide +kernel
theorem dX10_matchSum_32 : decode cX10_matchSum 32 = .ok (.getfield 50, 3) := by decide +kernel
theorem dX10_matchSum_35 : decode cX10_matchSum 35 = .ok (.ifCond .ne 63, 3) := by decide +kernel
theorem dX10_matchSum_38 : decode cX10_matchSum 38 = .ok (.iconst 0, 1) := by decide +kernel
theorem dX10_matchSum_39 : decode cX10_matchSum 39 = .ok (.istore 4, 2) := by decide +kernel
theorem dX10_matchSum_41 : decode cX10_matchSum 41 = .ok (.iload 4, 2) := by decide +kernel
theorem dX10_matchSum_43 : decode cX10_matchSum 43 = .ok (.aload_n 0, 1) := by decide +kernel
theorem dX10_matchSum_44 : decode cX10_matchSum 44 = .ok (.getfield 7, 3) := by decide +kernel
theorem dX10_matchSum_47 : decode cX10_matchSum 47 = .ok (.iconst 1, 1) := by decide +kernel
theorem dX10_matchSum_48 : decode cX10_matchSum 48 = .ok (.iaload, 1) := by decide +kernel
theorem dX10_matchSum_49 : decode cX10_matchSum 49 = .ok (.if_icmp .ge 43, 3) := by decide +kernel
theorem dX10_matchSum_52 : decode cX10_matchSum 52 = .ok (.iload_n 2, 1) := by decide +kernel
theorem dX10_matchSum_53 : decode cX10_matchSum 53 = .ok (.aload_n 0, 1) := by decide +kernel
theorem dX10_matchSum_54 : decode cX10_matchSum 54 = .ok (.iload_n 3, 1) := by decide +kernel
theorem dX10_matchSum_55 : decode cX10_matchSum 55 = .ok (.iconst 0, 1) := by decide +kernel
theorem dX10_matchSum_56 : decode cX10_matchSum 56 = .ok (.invokevirtual 165, 3) := by decide +kernel
theorem dX10_matchSum_59 : decode cX10_matchSum 59 = .ok (.iload_n 1, 1) := by decide +kernel
theorem dX10_matchSum_60 : decode cX10_matchSum 60 = .ok (.if_icmp .ne 23, 3) := by decide +kernel
theorem dX10_matchSum_63 : decode cX10_matchSum 63 = .ok (.aload_n 0, 1) := by decide +kernel
theorem dX10_matchSum_64 : decode cX10_matchSum 64 = .ok (.iload 4, 2) := by decide +kernel
theorem dX10_matchSum_66 : decode cX10_matchSum 66 = .ok (.iload_n 3, 1) := by decide +kernel
theorem dX10_matchSum_67 : decode cX10_matchSum 67 = .ok (.invokevirtual 153, 3) := by decide +kernel
theorem dX10_matchSum_70 : decode cX10_matchSum 70 = .ok (.ifCond .eq 13, 3) := by decide +kernel
theorem dX10_matchSum_73 : decode cX10_matchSum 73 = .ok (.aload_n 0, 1) := by decide +kernel
theorem dX10_matchSum_74 : decode cX10_matchSum 74 = .ok (.iload 4, 2) := by decide +kernel
theorem dX10_matchSum_76 : decode cX10_matchSum 76 = .ok (.iload_n 3, 1) := by decide +kernel
theorem dX10_matchSum_77 : decode cX10_matchSum 77 = .ok (.invokevirtual 187, 3) := by decide +kernel
theorem dX10_matchSum_80 : decode cX10_matchSum 80 = .ok (.goto 4, 3) := by decide +kernel
theorem dX10_matchSum_83 : decode cX10_matchSum 83 = .ok (.iconst 0, 1) := by decide +kernel
theorem dX10_matchSum_84 : decode cX10_matchSum 84 = .ok (.iadd, 1) := by decide +kernel
theorem dX10_matchSum_85 : decode cX10_matchSum 85 = .ok (.istore_n 2, 1) := by decide +kernel
theorem dX10_matchSum_86 : decode cX10_matchSum 86 = .ok (.iinc 4 1, 3) := by decide +kernel
theorem dX10_matchSum_89 : decode cX10_matchSum 89 = .ok (.goto (-48), 3) := by decide +kernel
theorem dX10_matchSum_92 : decode cX10_matchSum 92 = .ok (.iinc 3 1, 3) := by decide +kernel
theorem dX10_matchSum_95 : decode cX10_matchSum 95 = .ok (.goto (-74), 3) := by decide +kernel
theorem dX10_matchSum_98 : decode cX10_matchSum 98 = .ok (.iload_n 2, 1) := by decide +kernel
theorem dX10_matchSum_99 : decode cX10_matchSum 99 = .ok (.ireturn, 1) := by decide +kernel
theorem dX10_takenOf_0 : decode cX10_takenOf 0 = .ok (.iconst 0, 1) := by decide +kernel
theorem dX10_takenOf_1 : decode cX10_takenOf 1 = .ok (.istore_n 2, 1) := by decide +kernel
theorem dX10_takenOf_2 : decode cX10_takenOf 2 = .ok (.iconst 0, 1) := by decide +kernel
theorem dX10_takenOf_3 : decode cX10_takenOf 3 = .ok (.istore_n 3, 1) := by decide +kernel
theorem dX10_takenOf_4 : decode cX10_takenOf 4 = .ok (.iload_n 3, 1) := by decide +kernel
theorem dX10_takenOf_5 : decode cX10_takenOf 5 = .ok (.aload_n 0, 1) := by decide +kernel
theorem dX10_takenOf_6 : decode cX10_takenOf 6 = .ok (.getfield 7, 3) := by decide +kernel
theorem dX10_takenOf_9 : decode cX10_takenOf 9 = .ok (.iconst 1, 1) := by decide +kernel
theorem dX10_takenOf_10 : decode cX10_takenOf 10 = .ok (.iaload, 1) := by decide +kernel
theorem dX10_takenOf_11 : decode cX10_takenOf 11 = .ok (.if_icmp .ge 30, 3) := by decide +kernel
theorem dX10_takenOf_14 : decode cX10_takenOf 14 = .ok (.iload_n 2, 1) := by decide +kernel
theorem dX10_takenOf_15 : decode cX10_takenOf 15 = .ok (.aload_n 0, 1) := by decide +kernel
theorem dX10_takenOf_16 : decode cX10_takenOf 16 = .ok (.getfield 29, 3) := by decide +kernel
theorem dX10_takenOf_19 : decode cX10_takenOf 19 = .ok (.iload_n 3, 1) := by decide +kernel
theorem dX10_takenOf_20 : decode cX10_takenOf 20 = .ok (.iaload, 1) := by decide +kernel
theorem dX10_takenOf_21 : decode cX10_takenOf 21 = .ok (.iload_n 1, 1) := by decide +kernel
theorem dX10_takenOf_22 : decode cX10_takenOf 22 = .ok (.invokestatic 150, 3) := by decide +kernel
theorem dX10_takenOf_25 : decode cX10_takenOf 25 = .ok (.ifCond .eq 7, 3) := by decide +kernel
theorem dX10_takenOf_28 : decode cX10_takenOf 28 = .ok (.iconst 1, 1) := by decide +kernel
theorem dX10_takenOf_29 : decode cX10_takenOf 29 = .ok (.goto 4, 3) := by decide +kernel
theorem dX10_takenOf_32 : decode cX10_takenOf 32 = .ok (.iconst 0, 1) := by decide +kernel
theorem dX10_takenOf_33 : decode cX10_takenOf 33 = .ok (.iadd, 1) := by decide +kernel
theorem dX10_takenOf_34 : decode cX10_takenOf 34 = .ok (.istore_n 2, 1) := by decide +kernel
theorem dX10_takenOf_35 : decode cX10_takenOf 35 = .ok (.iinc 3 1, 3) := by decide +kernel
theorem dX10_takenOf_38 : decode cX10_takenOf 38 = .ok (.goto (-34), 3) := by decide +kernel
theorem dX10_takenOf_41 : decode cX10_takenOf 41 = .ok (.iload_n 2, 1) := by decide +kernel
theorem dX10_takenOf_42 : decode cX10_takenOf 42 = .ok (.ireturn, 1) := by decide +kernel
theorem dX10_reaches_0 : decode cX10_reaches 0 = .ok (.iload_n 2, 1) := by decide +kernel
theorem dX10_reaches_1 : decode cX10_reaches 1 = .ok (.aload_n 0, 1) := by decide +kernel
theorem dX10_reaches_2 : decode cX10_reaches 2 = .ok (.getfield 32, 3) := by decide +kernel
theorem dX10_reaches_5 : decode cX10_reaches 5 = .ok (.iload_n 1, 1) := by decide +kernel
theorem dX10_reaches_6 : decode cX10_reaches 6 = .ok (.iaload, 1) := by decide +kernel
theorem dX10_reaches_7 : decode cX10_reaches 7 = .ok (.if_icmp .gt 5, 3) := by decide +kernel
theorem dX10_reaches_10 : decode cX10_reaches 10 = .ok (.iconst 0, 1) := by decide +kernel
theorem dX10_reaches_11 : decode cX10_reaches 11 = .ok (.ireturn, 1) := by decide +kernel
theorem dX10_reaches_12 : decode cX10_reaches 12 = .ok (.aload_n 0, 1) := by decide +kernel
theorem dX10_reaches_13 : decode cX10_reaches 13 = .ok (.getfield 32, 3) := by decide +kernel
theorem dX10_reaches_16 : decode cX10_reaches 16 = .ok (.iload_n 1, 1) := by decide +kernel
theorem dX10_reaches_17 : decode cX10_reaches 17 = .ok (.iload_n 2, 1) := by decide +kernel
theorem dX10_reaches_18 : decode cX10_reaches 18 = .ok (.iastore, 1) := by decide +kernel
theorem dX10_reaches_19 : decode cX10_reaches 19 = .ok (.aload_n 0, 1) := by decide +kernel
theorem dX10_reaches_20 : decode cX10_reaches 20 = .ok (.getfield 35, 3) := by decide +kernel
theorem dX10_reaches_23 : decode cX10_reaches 23 = .ok (.iload_n 1, 1) := by decide +kernel
theorem dX10_reaches_24 : decode cX10_reaches 24 = .ok (.iload_n 3, 1) := by decide +kernel
theorem dX10_reaches_25 : decode cX10_reaches 25 = .ok (.iastore, 1) := by decide +kernel
theorem dX10_reaches_26 : decode cX10_reaches 26 = .ok (.iconst 1, 1) := by decide +kernel
theorem dX10_reaches_27 : decode cX10_reaches 27 = .ok (.ireturn, 1) := by decide +kernel
theorem dX10_reachesMore_0 : decode cX10_reachesMore 0 = .ok (.iconst 0, 1) := by decide +kernel
theorem dX10_reachesMore_1 : decode cX10_reachesMore 1 = .ok (.istore_n 2, 1) := by decide +kernel
theorem dX10_reachesMore_2 : decode cX10_reachesMore 2 = .ok (.iconst 0, 1) := by decide +kernel
theorem dX10_reachesMore_3 : decode cX10_reachesMore 3 = .ok (.istore_n 3, 1) := by decide +kernel
theorem dX10_reachesMore_4 : decode cX10_reachesMore 4 = .ok (.iload_n 3, 1) := by decide +kernel
theorem dX10_reachesMore_5 : decode cX10_reachesMore 5 = .ok (.aload_n 0, 1) := by decide +kernel
theorem dX10_reachesMore_6 : decode cX10_reachesMore 6 = .ok (.getfield 7, 3) := by decide +kernel
theorem dX10_reachesMore_9 : decode cX10_reachesMore 9 = .ok (.iconst 2, 1) := by decide +kernel
theorem dX10_reachesMore_10 : decode cX10_reachesMore 10 = .ok (.iaload, 1) := by decide +kernel
theorem dX10_reachesMore_11 : decode cX10_reachesMore 11 = .ok (.if_icmp .ge 164, 3) := by decide +kernel
theorem dX10_reachesMore_14 : decode cX10_reachesMore 14 = .ok (.iconst 0, 1) := by decide +kernel
theorem dX10_reachesMore_15 : decode cX10_reachesMore 15 = .ok (.istore 4, 2) := by decide +kernel
theorem dX10_reachesMore_17 : decode cX10_reachesMore 17 = .ok (.iload 4, 2) := by decide +kernel
theorem dX10_reachesMore_19 : decode cX10_reachesMore 19 = .ok (.aload_n 0, 1) := by decide +kernel
theorem dX10_reachesMore_20 : decode cX10_reachesMore 20 = .ok (.getfield 7, 3) := by decide +kernel
theorem dX10_reachesMore_23 : decode cX10_reachesMore 23 = .ok (.iconst 1, 1) := by decide +kernel
theorem dX10_reachesMore_24 : decode cX10_reachesMore 24 = .ok (.iaload, 1) := by decide +kernel
theorem dX10_reachesMore_25 : decode cX10_reachesMore 25 = .ok (.if_icmp .ge 144, 3) := by decide +kernel
theorem dX10_reachesMore_28 : decode cX10_reachesMore 28 = .ok (.aload_n 0, 1) := by decide +kernel
theorem dX10_reachesMore_29 : decode cX10_reachesMore 29 = .ok (.iload_n 3, 1) := by decide +kernel
theorem dX10_reachesMore_30 : decode cX10_reachesMore 30 = .ok (.iconst 0, 1) := by decide +kernel
theorem dX10_reachesMore_31 : decode cX10_reachesMore 31 = .ok (.invokevirtual 165, 3) := by decide +kernel
theorem dX10_reachesMore_34 : decode cX10_reachesMore 34 = .ok (.iload_n 1, 1) := by decide +kernel
theorem dX10_reachesMore_35 : decode cX10_reachesMore 35 = .ok (.if_icmp .ne 134, 3) := by decide +kernel
theorem dX10_reachesMore_38 : decode cX10_reachesMore 38 = .ok (.aload_n 0, 1) := by decide +kernel
theorem dX10_reachesMore_39 : decode cX10_reachesMore 39 = .ok (.iload 4, 2) := by decide +kernel
theorem dX10_reachesMore_41 : decode cX10_reachesMore 41 = .ok (.iload_n 3, 1) := by decide +kernel
theorem dX10_reachesMore_42 : decode cX10_reachesMore 42 = .ok (.invokevirtual 193, 3) := by decide +kernel
theorem dX10_reachesMore_45 : decode cX10_reachesMore 45 = .ok (.ifCond .ne 6, 3) := by decide +kernel
theorem dX10_reachesMore_48 : decode cX10_reachesMore 48 = .ok (.goto 115, 3) := by decide +kernel
theorem dX10_reachesMore_51 : decode cX10_reachesMore 51 = .ok (.bipush 16, 2) := by decide +kernel
theorem dX10_reachesMore_53 : decode cX10_reachesMore 53 = .ok (.iload 4, 2) := by decide +kernel
theorem dX10_reachesMore_55 : decode cX10_reachesMore 55 = .ok (.iadd, 1) := by decide +kernel
theorem dX10_reachesMore_56 : decode cX10_reachesMore 56 = .ok (.istore 5, 2) := by decide +kernel
theorem dX10_reachesMore_58 : decode cX10_reachesMore 58 = .ok (.aload_n 0, 1) := by decide +kernel
theorem dX10_reachesMore_59 : decode cX10_reachesMore 59 = .ok (.getfield 29, 3) := by decide +kernel
theorem dX10_reachesMore_62 : decode cX10_reachesMore 62 = .ok (.iload 4, 2) := by decide +kernel
theorem dX10_reachesMore_64 : decode cX10_reachesMore 64 = .ok (.iaload, 1) := by decide +kernel
theorem dX10_reachesMore_65 : decode cX10_reachesMore 65 = .ok (.iload_n 3, 1) := by decide +kernel
theorem dX10_reachesMore_66 : decode cX10_reachesMore 66 = .ok (.invokestatic 150, 3) := by decide +kernel
theorem dX10_reachesMore_69 : decode cX10_reachesMore 69 = .ok (.ifCond .eq 51, 3) := by decide +kernel
theorem dX10_reachesMore_72 : decode cX10_reachesMore 72 = .ok (.iload_n 2, 1) := by decide +kernel
theorem dX10_reachesMore_73 : decode cX10_reachesMore 73 = .ok (.aload_n 0, 1) := by decide +kernel
theorem dX10_reachesMore_74 : decode cX10_reachesMore 74 = .ok (.getfield 32, 3) := by decide +kernel
theorem dX10_reachesMore_77 : decode cX10_reachesMore 77 = .ok (.iload 5, 2) := by decide +kernel
theorem dX10_reachesMore_79 : decode cX10_reachesMore 79 = .ok (.iaload, 1) := by decide +kernel
theorem dX10_reachesMore_80 : decode cX10_reachesMore 80 = .ok (.ldc 211, 2) := by decide +kernel
theorem dX10_reachesMore_82 : decode cX10_reachesMore 82 = .ok (.if_icmp .le 32, 3) := by decide +kernel
theorem dX10_reachesMore_85 : decode cX10_reachesMore 85 = .ok (.aload_n 0, 1) := by decide +kernel
theorem dX10_reachesMore_86 : decode cX10_reachesMore 86 = .ok (.iload_n 3, 1) := by decide +kernel
theorem dX10_reachesMore_87 : decode cX10_reachesMore 87 = .ok (.aload_n 0, 1) := by decide +kernel
theorem dX10_reachesMore_88 : decode cX10_reachesMore 88 = .ok (.getfield 32, 3) := by decide +kernel
theorem dX10_reachesMore_91 : decode cX10_reachesMore 91 = .ok (.iload 5, 2) := by decide +kernel
theorem dX10_reachesMore_93 : decode cX10_reachesMore 93 = .ok (.iaload, 1) := by decide +kernel
theorem dX10_reachesMore_94 : decode cX10_reachesMore 94 = .ok (.aload_n 0, 1) := by decide +kernel
theorem dX10_reachesMore_95 : decode cX10_reachesMore 95 = .ok (.iload 4, 2) := by decide +kernel
theorem dX10_reachesMore_97 : decode cX10_reachesMore 97 = .ok (.iload_n 3, 1) := by decide +kernel
theorem dX10_reachesMore_98 : decode cX10_reachesMore 98 = .ok (.invokevirtual 187, 3) := by decide +kernel
theorem dX10_reachesMore_101 : decode cX10_reachesMore 101 = .ok (.isub, 1) := by decide +kernel
theorem dX10_reachesMore_102 : decode cX10_reachesMore 102 = .ok (.iload 5, 2) := by decide +kernel
theorem dX10_reachesMore_104 : decode cX10_reachesMore 104 = .ok (.invokevirtual 212, 3) := by decide +kernel
theorem dX10_reachesMore_107 : decode cX10_reachesMore 107 = .ok (.ifCond .eq 7, 3) := by decide +kernel
theorem dX10_reachesMore_110 : decode cX10_reachesMore 110 = .ok (.iconst 1, 1) := by decide +kernel
theorem dX10_reachesMore_111 : decode cX10_reachesMore 111 = .ok (.goto 4, 3) := by decide +kernel
theorem dX10_reachesMore_114 : decode cX10_reachesMore 114 = .ok (.iconst 0, 1) := by decide +kernel
theorem dX10_reachesMore_115 : decode cX10_reachesMore 115 = .ok (.ior, 1) := by decide +kernel
theorem dX10_reachesMore_116 : decode cX10_reachesMore 116 = .ok (.istore_n 2, 1) := by decide +kernel
theorem dX10_reachesMore_117 : decode cX10_reachesMore 117 = .ok (.goto 46, 3) := by decide +kernel
theorem dX10_reachesMore_120 : decode cX10_reachesMore 120 = .ok (.iload_n 2, 1) := by decide +kernel
theorem dX10_reachesMore_121 : decode cX10_reachesMore 121 = .ok (.aload_n 0, 1) := by decide +kernel
theorem dX10_reachesMore_122 : decode cX10_reachesMore 122 = .ok (.getfield 32, 3) := by decide +kernel
theorem dX10_reachesMore_125 : decode cX10_reachesMore 125 = .ok (.iload_n 3, 1) := by decide +kernel
theorem dX10_reachesMore_126 : decode cX10_reachesMore 126 = .ok (.iaload, 1) := by decide +kernel
theorem dX10_reachesMore_127 : decode cX10_reachesMore 127 = .ok (.ldc 211, 2) := by decide +kernel
theorem dX10_reachesMore_129 : decode cX10_reachesMore 129 = .ok (.if_icmp .le 31, 3) := by decide +kernel
theorem dX10_reachesMore_132 : decode cX10_reachesMore 132 = .ok (.aload_n 0, 1) := by decide +kernel
theorem dX10_reachesMore_133 : decode cX10_reachesMore 133 = .ok (.iload 5, 2) := by decide +kernel
theorem dX10_reachesMore_135 : decode cX10_reachesMore 135 = .ok (.aload_n 0, 1) := by decide +kernel
theorem dX10_reachesMore_136 : decode cX10_reachesMore 136 = .ok (.getfield 32, 3) := by decide +kernel
theorem dX10_reachesMore_139 : decode cX10_reachesMore 139 = .ok (.iload_n 3, 1) := by decide +kernel
theorem dX10_reachesMore_140 : decode cX10_reachesMore 140 = .ok (.iaload, 1) := by decide +kernel
theorem dX10_reachesMore_141 : decode cX10_reachesMore 141 = .ok (.aload_n 0, 1) := by decide +kernel
theorem dX10_reachesMore_142 : decode cX10_reachesMore 142 = .ok (.iload 4, 2) := by decide +kernel
theorem dX10_reachesMore_144 : decode cX10_reachesMore 144 = .ok (.iload_n 3, 1) := by decide +kernel
theorem dX10_reachesMore_145 : decode cX10_reachesMore 145 = .ok (.invokevirtual 187, 3) := by decide +kernel
theorem dX10_reachesMore_148 : decode cX10_reachesMore 148 = .ok (.iadd, 1) := by decide +kernel
theorem dX10_reachesMore_149 : decode cX10_reachesMore 149 = .ok (.iload_n 3, 1) := by decide +kernel
theorem dX10_reachesMore_150 : decode cX10_reachesMore 150 = .ok (.invokevirtual 212, 3) := by decide +kernel
theorem dX10_reachesMore_153 : decode cX10_reachesMore 153 = .ok (.ifCond .eq 7, 3) := by decide +kernel
theorem dX10_reachesMore_156 : decode cX10_reachesMore 156 = .ok (.iconst 1, 1) := by decide +kernel
theorem dX10_reachesMore_157 : decode cX10_reachesMore 157 = .ok (.goto 4, 3) := by decide +kernel
theorem dX10_reachesMore_160 : decode cX10_reachesMore 160 = .ok (.iconst 0, 1) := by decide +kernel
theorem dX10_reachesMore_161 : decode cX10_reachesMore 161 = .ok (.ior, 1) := by decide +kernel
theorem dX10_reachesMore_162 : decode cX10_reachesMore 162 = .ok (.istore_n 2, 1) := by decide +kernel
theorem dX10_reachesMore_163 : decode cX10_reachesMore 163 = .ok (.iinc 4 1, 3) := by decide +kernel
theorem dX10_reachesMore_166 : decode cX10_reachesMore 166 = .ok (.goto (-149), 3) := by decide +kernel
theorem dX10_reachesMore_169 : decode cX10_reachesMore 169 = .ok (.iinc 3 1, 3) := by decide +kernel
theorem dX10_reachesMore_172 : decode cX10_reachesMore 172 = .ok (.goto (-168), 3) := by decide +kernel
theorem dX10_reachesMore_175 : decode cX10_reachesMore 175 = .ok (.iload_n 2, 1) := by decide +kernel
theorem dX10_reachesMore_176 : decode cX10_reachesMore 176 = .ok (.ireturn, 1) := by decide +kernel
theorem dX10_goesOn_0 : decode cX10_goesOn 0 = .ok (.iconst 0, 1) := by decide +kernel
theorem dX10_goesOn_1 : decode cX10_goesOn 1 = .ok (.istore_n 2, 1) := by decide +kernel
theorem dX10_goesOn_2 : decode cX10_goesOn 2 = .ok (.iload_n 2, 1) := by decide +kernel
theorem dX10_goesOn_3 : decode cX10_goesOn 3 = .ok (.bipush 28, 2) := by decide +kernel
theorem dX10_goesOn_5 : decode cX10_goesOn 5 = .ok (.if_icmp .ge 24, 3) := by decide +kernel
theorem dX10_goesOn_8 : decode cX10_goesOn 8 = .ok (.aload_n 0, 1) := by decide +kernel
theorem dX10_goesOn_9 : decode cX10_goesOn 9 = .ok (.getfield 32, 3) := by decide +kernel
theorem dX10_goesOn_12 : decode cX10_goesOn 12 = .ok (.iload_n 2, 1) := by decide +kernel
theorem dX10_goesOn_13 : decode cX10_goesOn 13 = .ok (.ldc 211, 2) := by decide +kernel
theorem dX10_goesOn_15 : decode cX10_goesOn 15 = .ok (.iastore, 1) := by decide +kernel
theorem dX10_goesOn_16 : decode cX10_goesOn 16 = .ok (.aload_n 0, 1) := by decide +kernel
theorem dX10_goesOn_17 : decode cX10_goesOn 17 = .ok (.getfield 35, 3) := by decide +kernel
theorem dX10_goesOn_20 : decode cX10_goesOn 20 = .ok (.iload_n 2, 1) := by decide +kernel
theorem dX10_goesOn_21 : decode cX10_goesOn 21 = .ok (.iconst (-1), 1) := by decide +kernel
theorem dX10_goesOn_22 : decode cX10_goesOn 22 = .ok (.iastore, 1) := by decide +kernel
theorem dX10_goesOn_23 : decode cX10_goesOn 23 = .ok (.iinc 2 1, 3) := by decide +kernel
theorem dX10_goesOn_26 : decode cX10_goesOn 26 = .ok (.goto (-24), 3) := by decide +kernel
theorem dX10_goesOn_29 : decode cX10_goesOn 29 = .ok (.iconst 0, 1) := by decide +kernel
theorem dX10_goesOn_30 : decode cX10_goesOn 30 = .ok (.istore_n 2, 1) := by decide +kernel
theorem dX10_goesOn_31 : decode cX10_goesOn 31 = .ok (.iload_n 2, 1) := by decide +kernel
theorem dX10_goesOn_32 : decode cX10_goesOn 32 = .ok (.aload_n 0, 1) := by decide +kernel
theorem dX10_goesOn_33 : decode cX10_goesOn 33 = .ok (.getfield 7, 3) := by decide +kernel
theorem dX10_goesOn_36 : decode cX10_goesOn 36 = .ok (.iconst 2, 1) := by decide +kernel
theorem dX10_goesOn_37 : decode cX10_goesOn 37 = .ok (.iaload, 1) := by decide +kernel
theorem dX10_goesOn_38 : decode cX10_goesOn 38 = .ok (.if_icmp .ge 45, 3) := by decide +kernel
theorem dX10_goesOn_41 : decode cX10_goesOn 41 = .ok (.aload_n 0, 1) := by decide +kernel
theorem dX10_goesOn_42 : decode cX10_goesOn 42 = .ok (.getfield 32, 3) := by decide +kernel
theorem dX10_goesOn_45 : decode cX10_goesOn 45 = .ok (.iload_n 2, 1) := by decide +kernel
theorem dX10_goesOn_46 : decode cX10_goesOn 46 = .ok (.aload_n 0, 1) := by decide +kernel
theorem dX10_goesOn_47 : decode cX10_goesOn 47 = .ok (.iload_n 2, 1) := by decide +kernel
theorem dX10_goesOn_48 : decode cX10_goesOn 48 = .ok (.iconst 0, 1) := by decide +kernel
theorem dX10_goesOn_49 : decode cX10_goesOn 49 = .ok (.invokevirtual 165, 3) := by decide +kernel
theorem dX10_goesOn_52 : decode cX10_goesOn 52 = .ok (.iload_n 1, 1) := by decide +kernel
theorem dX10_goesOn_53 : decode cX10_goesOn 53 = .ok (.if_icmp .ne 21, 3) := by decide +kernel
theorem dX10_goesOn_56 : decode cX10_goesOn 56 = .ok (.aload_n 0, 1) := by decide +kernel
theorem dX10_goesOn_57 : decode cX10_goesOn 57 = .ok (.iload_n 2, 1) := by decide +kernel
theorem dX10_goesOn_58 : decode cX10_goesOn 58 = .ok (.invokevirtual 215, 3) := by decide +kernel
theorem dX10_goesOn_61 : decode cX10_goesOn 61 = .ok (.aload_n 0, 1) := by decide +kernel
theorem dX10_goesOn_62 : decode cX10_goesOn 62 = .ok (.getfield 7, 3) := by decide +kernel
theorem dX10_goesOn_65 : decode cX10_goesOn 65 = .ok (.iconst 3, 1) := by decide +kernel
theorem dX10_goesOn_66 : decode cX10_goesOn 66 = .ok (.iaload, 1) := by decide +kernel
theorem dX10_goesOn_67 : decode cX10_goesOn 67 = .ok (.if_icmp .ge 7, 3) := by decide +kernel
theorem dX10_goesOn_70 : decode cX10_goesOn 70 = .ok (.iconst 0, 1) := by decide +kernel
theorem dX10_goesOn_71 : decode cX10_goesOn 71 = .ok (.goto 5, 3) := by decide +kernel
theorem dX10_goesOn_74 : decode cX10_goesOn 74 = .ok (.ldc 211, 2) := by decide +kernel
theorem dX10_goesOn_76 : decode cX10_goesOn 76 = .ok (.iastore, 1) := by decide +kernel
theorem dX10_goesOn_77 : decode cX10_goesOn 77 = .ok (.iinc 2 1, 3) := by decide +kernel
theorem dX10_goesOn_80 : decode cX10_goesOn 80 = .ok (.goto (-49), 3) := by decide +kernel
theorem dX10_goesOn_83 : decode cX10_goesOn 83 = .ok (.iconst 1, 1) := by decide +kernel
theorem dX10_goesOn_84 : decode cX10_goesOn 84 = .ok (.istore_n 2, 1) := by decide +kernel
theorem dX10_goesOn_85 : decode cX10_goesOn 85 = .ok (.iload_n 2, 1) := by decide +kernel
theorem dX10_goesOn_86 : decode cX10_goesOn 86 = .ok (.ifCond .eq 12, 3) := by decide +kernel
theorem dX10_goesOn_89 : decode cX10_goesOn 89 = .ok (.aload_n 0, 1) := by decide +kernel
theorem dX10_goesOn_90 : decode cX10_goesOn 90 = .ok (.iload_n 1, 1) := by decide +kernel
theorem dX10_goesOn_91 : decode cX10_goesOn 91 = .ok (.invokevirtual 218, 3) := by decide +kernel
theorem dX10_goesOn_94 : decode cX10_goesOn 94 = .ok (.istore_n 2, 1) := by decide +kernel
theorem dX10_goesOn_95 : decode cX10_goesOn 95 = .ok (.goto (-10), 3) := by decide +kernel
theorem dX10_goesOn_98 : decode cX10_goesOn 98 = .ok (.iconst (-1), 1) := by decide +kernel
theorem dX10_goesOn_99 : decode cX10_goesOn 99 = .ok (.istore_n 3, 1) := by decide +kernel
theorem dX10_goesOn_100 : decode cX10_goesOn 100 = .ok (.iconst 0, 1) := by decide +kernel
theorem dX10_goesOn_101 : decode cX10_goesOn 101 = .ok (.istore 4, 2) := by decide +kernel
theorem dX10_goesOn_103 : decode cX10_goesOn 103 = .ok (.iload 4, 2) := by decide +kernel
theorem dX10_goesOn_105 : decode cX10_goesOn 105 = .ok (.aload_n 0, 1) := by decide +kernel
theorem dX10_goesOn_106 : decode cX10_goesOn 106 = .ok (.getfield 7, 3) := by decide +kernel
theorem dX10_goesOn_109 : decode cX10_goesOn 109 = .ok (.iconst 1, 1) := by decide +kernel
theorem dX10_goesOn_110 : decode cX10_goesOn 110 = .ok (.iaload, 1) := by decide +kernel
theorem dX10_goesOn_111 : decode cX10_goesOn 111 = .ok (.if_icmp .ge 90, 3) := by decide +kernel
theorem dX10_goesOn_114 : decode cX10_goesOn 114 = .ok (.aload_n 0, 1) := by decide +kernel
theorem dX10_goesOn_115 : decode cX10_goesOn 115 = .ok (.getfield 32, 3) := by decide +kernel
theorem dX10_goesOn_118 : decode cX10_goesOn 118 = .ok (.bipush 16, 2) := by decide +kernel
theorem dX10_goesOn_120 : decode cX10_goesOn 120 = .ok (.iload 4, 2) := by decide +kernel
theorem dX10_goesOn_122 : decode cX10_goesOn 122 = .ok (.iadd, 1) := by decide +kernel
theorem dX10_goesOn_123 : decode cX10_goesOn 123 = .ok (.iaload, 1) := by decide +kernel
theorem dX10_goesOn_124 : decode cX10_goesOn 124 = .ok (.ldc 211, 2) := by decide +kernel
theorem dX10_goesOn_126 : decode cX10_goesOn 126 = .ok (.if_icmp .le 27, 3) := by decide +kernel
theorem dX10_goesOn_129 : decode cX10_goesOn 129 = .ok (.aload_n 0, 1) := by decide +kernel
theorem dX10_goesOn_130 : decode cX10_goesOn 130 = .ok (.getfield 29, 3) := by decide +kernel
theorem dX10_goesOn_133 : decode cX10_goesOn 133 = .ok (.iload 4, 2) := by decide +kernel
theorem dX10_goesOn_135 : decode cX10_goesOn 135 = .ok (.iaload, 1) := by decide +kernel
theorem dX10_goesOn_136 : decode cX10_goesOn 136 = .ok (.invokestatic 156, 3) := by decide +kernel
theorem dX10_goesOn_139 : decode cX10_goesOn 139 = .ok (.aload_n 0, 1) := by decide +kernel
theorem dX10_goesOn_140 : decode cX10_goesOn 140 = .ok (.iload 4, 2) := by decide +kernel
theorem dX10_goesOn_142 : decode cX10_goesOn 142 = .ok (.iconst 2, 1) := by decide +kernel
theorem dX10_goesOn_143 : decode cX10_goesOn 143 = .ok (.invokevirtual 162, 3) := by decide +kernel
theorem dX10_goesOn_146 : decode cX10_goesOn 146 = .ok (.if_icmp .ge 7, 3) := by decide +kernel
theorem dX10_goesOn_149 : decode cX10_goesOn 149 = .ok (.iconst 1, 1) := by decide +kernel
theorem dX10_goesOn_150 : decode cX10_goesOn 150 = .ok (.goto 4, 3) := by decide +kernel
theorem dX10_goesOn_153 : decode cX10_goesOn 153 = .ok (.iconst 0, 1) := by decide +kernel
theorem dX10_goesOn_154 : decode cX10_goesOn 154 = .ok (.istore 5, 2) := by decide +kernel
theorem dX10_goesOn_156 : decode cX10_goesOn 156 = .ok (.iload 5, 2) := by decide +kernel
theorem dX10_goesOn_158 : decode cX10_goesOn 158 = .ok (.ifCond .eq 35, 3) := by decide +kernel
theorem dX10_goesOn_161 : decode cX10_goesOn 161 = .ok (.iload_n 3, 1) := by decide +kernel
theorem dX10_goesOn_162 : decode cX10_goesOn 162 = .ok (.iconst (-1), 1) := by decide +kernel
theorem dX10_goesOn_163 : decode cX10_goesOn 163 = .ok (.if_icmp .eq 25, 3) := by decide +kernel
theorem dX10_goesOn_166 : decode cX10_goesOn 166 = .ok (.aload_n 0, 1) := by decide +kernel
theorem dX10_goesOn_167 : decode cX10_goesOn 167 = .ok (.getfield 32, 3) := by decide +kernel
theorem dX10_goesOn_170 : decode cX10_goesOn 170 = .ok (.bipush 16, 2) := by decide +kernel
theorem dX10_goesOn_172 : decode cX10_goesOn 172 = .ok (.iload 4, 2) := by decide +kernel
theorem dX10_goesOn_174 : decode cX10_goesOn 174 = .ok (.iadd, 1) := by decide +kernel
theorem dX10_goesOn_175 : decode cX10_goesOn 175 = .ok (.iaload, 1) := by decide +kernel
theorem dX10_goesOn_176 : decode cX10_goesOn 176 = .ok (.aload_n 0, 1) := by decide +kernel
theorem dX10_goesOn_177 : decode cX10_goesOn 177 = .ok (.getfield 32, 3) := by decide +kernel
theorem dX10_goesOn_180 : decode cX10_goesOn 180 = .ok (.bipush 16, 2) := by decide +kernel
theorem dX10_goesOn_182 : decode cX10_goesOn 182 = .ok (.iload_n 3, 1) := by decide +kernel
theorem dX10_goesOn_183 : decode cX10_goesOn 183 = .ok (.iadd, 1) := by decide +kernel
theorem dX10_goesOn_184 : decode cX10_goesOn 184 = .ok (.iaload, 1) := by decide +kernel
theorem dX10_goesOn_185 : decode cX10_goesOn 185 = .ok (.if_icmp .le 8, 3) := by decide +kernel
theorem dX10_goesOn_188 : decode cX10_goesOn 188 = .ok (.iload 4, 2) := by decide +kernel
theorem dX10_goesOn_190 : decode cX10_goesOn 190 = .ok (.goto 4, 3) := by decide +kernel
theorem dX10_goesOn_193 : decode cX10_goesOn 193 = .ok (.iload_n 3, 1) := by decide +kernel
theorem dX10_goesOn_194 : decode cX10_goesOn 194 = .ok (.istore_n 3, 1) := by decide +kernel
theorem dX10_goesOn_195 : decode cX10_goesOn 195 = .ok (.iinc 4 1, 3) := by decide +kernel
theorem dX10_goesOn_198 : decode cX10_goesOn 198 = .ok (.goto (-95), 3) := by decide +kernel
theorem dX10_goesOn_201 : decode cX10_goesOn 201 = .ok (.iload_n 3, 1) := by decide +kernel
theorem dX10_goesOn_202 : decode cX10_goesOn 202 = .ok (.ireturn, 1) := by decide +kernel
theorem dX10_finds_0 : decode cX10_finds 0 = .ok (.iconst 0, 1) := by decide +kernel
theorem dX10_finds_1 : decode cX10_finds 1 = .ok (.istore_n 2, 1) := by decide +kernel
theorem dX10_finds_2 : decode cX10_finds 2 = .ok (.iload_n 2, 1) := by decide +kernel
theorem dX10_finds_3 : decode cX10_finds 3 = .ok (.bipush 12, 2) := by decide +kernel
theorem dX10_finds_5 : decode cX10_finds 5 = .ok (.if_icmp .ge 16, 3) := by decide +kernel
theorem dX10_finds_8 : decode cX10_finds 8 = .ok (.aload_n 0, 1) := by decide +kernel
theorem dX10_finds_9 : decode cX10_finds 9 = .ok (.getfield 29, 3) := by decide +kernel
theorem dX10_finds_12 : decode cX10_finds 12 = .ok (.iload_n 2, 1) := by decide +kernel
theorem dX10_finds_13 : decode cX10_finds 13 = .ok (.iconst 0, 1) := by decide +kernel
theorem dX10_finds_14 : decode cX10_finds 14 = .ok (.iastore, 1) := by decide +kernel
theorem dX10_finds_15 : decode cX10_finds 15 = .ok (.iinc 2 1, 3) := by decide +kernel
theorem dX10_finds_18 : decode cX10_finds 18 = .ok (.goto (-16), 3) := by decide +kernel
theorem dX10_finds_21 : decode cX10_finds 21 = .ok (.aload_n 0, 1) := by decide +kernel
theorem dX10_finds_22 : decode cX10_finds 22 = .ok (.iconst 0, 1) := by decide +kernel
theorem dX10_finds_23 : decode cX10_finds 23 = .ok (.putfield 221, 3) := by decide +kernel
theorem dX10_finds_26 : decode cX10_finds 26 = .ok (.aload_n 0, 1) := by decide +kernel
theorem dX10_finds_27 : decode cX10_finds 27 = .ok (.iconst 0, 1) := by decide +kernel
theorem dX10_finds_28 : decode cX10_finds 28 = .ok (.putfield 224, 3) := by decide +kernel
theorem dX10_finds_31 : decode cX10_finds 31 = .ok (.aload_n 0, 1) := by decide +kernel
theorem dX10_finds_32 : decode cX10_finds 32 = .ok (.iload_n 1, 1) := by decide +kernel
theorem dX10_finds_33 : decode cX10_finds 33 = .ok (.invokevirtual 227, 3) := by decide +kernel
theorem dX10_finds_36 : decode cX10_finds 36 = .ok (.istore_n 2, 1) := by decide +kernel
theorem dX10_finds_37 : decode cX10_finds 37 = .ok (.iload_n 2, 1) := by decide +kernel
theorem dX10_finds_38 : decode cX10_finds 38 = .ok (.iconst (-1), 1) := by decide +kernel
theorem dX10_finds_39 : decode cX10_finds 39 = .ok (.if_icmp .eq 106, 3) := by decide +kernel
theorem dX10_finds_42 : decode cX10_finds 42 = .ok (.aload_n 0, 1) := by decide +kernel
theorem dX10_finds_43 : decode cX10_finds 43 = .ok (.dup, 1) := by decide +kernel
theorem dX10_finds_44 : decode cX10_finds 44 = .ok (.getfield 221, 3) := by decide +kernel
theorem dX10_finds_47 : decode cX10_finds 47 = .ok (.iconst 1, 1) := by decide +kernel
theorem dX10_finds_48 : decode cX10_finds 48 = .ok (.iadd, 1) := by decide +kernel
theorem dX10_finds_49 : decode cX10_finds 49 = .ok (.putfield 221, 3) := by decide +kernel
theorem dX10_finds_52 : decode cX10_finds 52 = .ok (.aload_n 0, 1) := by decide +kernel
theorem dX10_finds_53 : decode cX10_finds 53 = .ok (.dup, 1) := by decide +kernel
theorem dX10_finds_54 : decode cX10_finds 54 = .ok (.getfield 224, 3) := by decide +kernel
theorem dX10_finds_57 : decode cX10_finds 57 = .ok (.aload_n 0, 1) := by decide +kernel
theorem dX10_finds_58 : decode cX10_finds 58 = .ok (.getfield 32, 3) := by decide +kernel
theorem dX10_finds_61 : decode cX10_finds 61 = .ok (.bipush 16, 2) := by decide +kernel
theorem dX10_finds_63 : decode cX10_finds 63 = .ok (.iload_n 2, 1) := by decide +kernel
theorem dX10_finds_64 : decode cX10_finds 64 = .ok (.iadd, 1) := by decide +kernel
theorem dX10_finds_65 : decode cX10_finds 65 = .ok (.iaload, 1) := by decide +kernel
theorem dX10_finds_66 : decode cX10_finds 66 = .ok (.iadd, 1) := by decide +kernel
theorem dX10_finds_67 : decode cX10_finds 67 = .ok (.putfield 224, 3) := by decide +kernel
theorem dX10_finds_70 : decode cX10_finds 70 = .ok (.bipush 16, 2) := by decide +kernel
theorem dX10_finds_72 : decode cX10_finds 72 = .ok (.iload_n 2, 1) := by decide +kernel
theorem dX10_finds_73 : decode cX10_finds 73 = .ok (.iadd, 1) := by decide +kernel
theorem dX10_finds_74 : decode cX10_finds 74 = .ok (.istore_n 3, 1) := by decide +kernel
theorem dX10_finds_75 : decode cX10_finds 75 = .ok (.aload_n 0, 1) := by decide +kernel
theorem dX10_finds_76 : decode cX10_finds 76 = .ok (.getfield 35, 3) := by decide +kernel
theorem dX10_finds_79 : decode cX10_finds 79 = .ok (.iload_n 3, 1) := by decide +kernel
theorem dX10_finds_80 : decode cX10_finds 80 = .ok (.iaload, 1) := by decide +kernel
theorem dX10_finds_81 : decode cX10_finds 81 = .ok (.iconst (-1), 1) := by decide +kernel
theorem dX10_finds_82 : decode cX10_finds 82 = .ok (.if_icmp .eq 54, 3) := by decide +kernel
theorem dX10_finds_85 : decode cX10_finds 85 = .ok (.aload_n 0, 1) := by decide +kernel
theorem dX10_finds_86 : decode cX10_finds 86 = .ok (.getfield 35, 3) := by decide +kernel
theorem dX10_finds_89 : decode cX10_finds 89 = .ok (.iload_n 3, 1) := by decide +kernel
theorem dX10_finds_90 : decode cX10_finds 90 = .ok (.iaload, 1) := by decide +kernel
theorem dX10_finds_91 : decode cX10_finds 91 = .ok (.istore 4, 2) := by decide +kernel
theorem dX10_finds_93 : decode cX10_finds 93 = .ok (.aload_n 0, 1) := by decide +kernel
theorem dX10_finds_94 : decode cX10_finds 94 = .ok (.getfield 29, 3) := by decide +kernel
theorem dX10_finds_97 : decode cX10_finds 97 = .ok (.iload_n 3, 1) := by decide +kernel
theorem dX10_finds_98 : decode cX10_finds 98 = .ok (.bipush 16, 2) := by decide +kernel
theorem dX10_finds_100 : decode cX10_finds 100 = .ok (.if_icmp .ge 8, 3) := by decide +kernel
theorem dX10_finds_103 : decode cX10_finds 103 = .ok (.iload 4, 2) := by decide +kernel
theorem dX10_finds_105 : decode cX10_finds 105 = .ok (.goto 4, 3) := by decide +kernel
theorem dX10_finds_108 : decode cX10_finds 108 = .ok (.iload_n 3, 1) := by decide +kernel
theorem dX10_finds_109 : decode cX10_finds 109 = .ok (.bipush 16, 2) := by decide +kernel
theorem dX10_finds_111 : decode cX10_finds 111 = .ok (.isub, 1) := by decide +kernel
theorem dX10_finds_112 : decode cX10_finds 112 = .ok (.dup2, 1) := by decide +kernel
theorem dX10_finds_113 : decode cX10_finds 113 = .ok (.iaload, 1) := by decide +kernel
theorem dX10_finds_114 : decode cX10_finds 114 = .ok (.iconst 1, 1) := by decide +kernel
theorem dX10_finds_115 : decode cX10_finds 115 = .ok (.iload_n 3, 1) := by decide +kernel
theorem dX10_finds_116 : decode cX10_finds 116 = .ok (.bipush 16, 2) := by decide +kernel
theorem dX10_finds_118 : decode cX10_finds 118 = .ok (.if_icmp .ge 7, 3) := by decide +kernel
theorem dX10_finds_121 : decode cX10_finds 121 = .ok (.iload_n 3, 1) := by decide +kernel
theorem dX10_finds_122 : decode cX10_finds 122 = .ok (.goto 5, 3) := by decide +kernel
theorem dX10_finds_125 : decode cX10_finds 125 = .ok (.iload 4, 2) := by decide +kernel
theorem dX10_finds_127 : decode cX10_finds 127 = .ok (.ishl, 1) := by decide +kernel
theorem dX10_finds_128 : decode cX10_finds 128 = .ok (.ixor, 1) := by decide +kernel
theorem dX10_finds_129 : decode cX10_finds 129 = .ok (.iastore, 1) := by decide +kernel
theorem dX10_finds_130 : decode cX10_finds 130 = .ok (.iload 4, 2) := by decide +kernel
theorem dX10_finds_132 : decode cX10_finds 132 = .ok (.istore_n 3, 1) := by decide +kernel
theorem dX10_finds_133 : decode cX10_finds 133 = .ok (.goto (-58), 3) := by decide +kernel
theorem dX10_finds_136 : decode cX10_finds 136 = .ok (.aload_n 0, 1) := by decide +kernel
theorem dX10_finds_137 : decode cX10_finds 137 = .ok (.iload_n 1, 1) := by decide +kernel
theorem dX10_finds_138 : decode cX10_finds 138 = .ok (.invokevirtual 227, 3) := by decide +kernel
theorem dX10_finds_141 : decode cX10_finds 141 = .ok (.istore_n 2, 1) := by decide +kernel
theorem dX10_finds_142 : decode cX10_finds 142 = .ok (.goto (-105), 3) := by decide +kernel
theorem dX10_finds_145 : decode cX10_finds 145 = .ok (.return_, 1) := by decide +kernel
theorem dX10_mostReviews_0 : decode cX10_mostReviews 0 = .ok (.aload_n 0, 1) := by decide +kernel
theorem dX10_mostReviews_1 : decode cX10_mostReviews 1 = .ok (.aload_n 0, 1) := by decide +kernel
theorem dX10_mostReviews_2 : decode cX10_mostReviews 2 = .ok (.iload_n 1, 1) := by decide +kernel
theorem dX10_mostReviews_3 : decode cX10_mostReviews 3 = .ok (.invokevirtual 205, 3) := by decide +kernel
theorem dX10_mostReviews_6 : decode cX10_mostReviews 6 = .ok (.ifCond .eq 7, 3) := by decide +kernel
theorem dX10_mostReviews_9 : decode cX10_mostReviews 9 = .ok (.iconst 0, 1) := by decide +kernel
theorem dX10_mostReviews_10 : decode cX10_mostReviews 10 = .ok (.goto 4, 3) := by decide +kernel
theorem dX10_mostReviews_13 : decode cX10_mostReviews 13 = .ok (.iconst 1, 1) := by decide +kernel
theorem dX10_mostReviews_14 : decode cX10_mostReviews 14 = .ok (.putfield 50, 3) := by decide +kernel
theorem dX10_mostReviews_17 : decode cX10_mostReviews 17 = .ok (.aload_n 0, 1) := by decide +kernel
theorem dX10_mostReviews_18 : decode cX10_mostReviews 18 = .ok (.getfield 50, 3) := by decide +kernel
theorem dX10_mostReviews_21 : decode cX10_mostReviews 21 = .ok (.ifCond .le 5, 3) := by decide +kernel
theorem dX10_mostReviews_24 : decode cX10_mostReviews 24 = .ok (.iconst 0, 1) := by decide +kernel
theorem dX10_mostReviews_25 : decode cX10_mostReviews 25 = .ok (.ireturn, 1) := by decide +kernel
theorem dX10_mostReviews_26 : decode cX10_mostReviews 26 = .ok (.aload_n 0, 1) := by decide +kernel
theorem dX10_mostReviews_27 : decode cX10_mostReviews 27 = .ok (.iload_n 1, 1) := by decide +kernel
theorem dX10_mostReviews_28 : decode cX10_mostReviews 28 = .ok (.invokevirtual 230, 3) := by decide +kernel
theorem dX10_mostReviews_31 : decode cX10_mostReviews 31 = .ok (.aload_n 0, 1) := by decide +kernel
theorem dX10_mostReviews_32 : decode cX10_mostReviews 32 = .ok (.getfield 221, 3) := by decide +kernel
theorem dX10_mostReviews_35 : decode cX10_mostReviews 35 = .ok (.ireturn, 1) := by decide +kernel
theorem dX10_bestMatchSum_0 : decode cX10_bestMatchSum 0 = .ok (.aload_n 0, 1) := by decide +kernel
theorem dX10_bestMatchSum_1 : decode cX10_bestMatchSum 1 = .ok (.aload_n 0, 1) := by decide +kernel
theorem dX10_bestMatchSum_2 : decode cX10_bestMatchSum 2 = .ok (.iload_n 1, 1) := by decide +kernel
theorem dX10_bestMatchSum_3 : decode cX10_bestMatchSum 3 = .ok (.invokevirtual 205, 3) := by decide +kernel
theorem dX10_bestMatchSum_6 : decode cX10_bestMatchSum 6 = .ok (.ifCond .eq 7, 3) := by decide +kernel
theorem dX10_bestMatchSum_9 : decode cX10_bestMatchSum 9 = .ok (.iconst 0, 1) := by decide +kernel
theorem dX10_bestMatchSum_10 : decode cX10_bestMatchSum 10 = .ok (.goto 4, 3) := by decide +kernel
theorem dX10_bestMatchSum_13 : decode cX10_bestMatchSum 13 = .ok (.iconst 1, 1) := by decide +kernel
theorem dX10_bestMatchSum_14 : decode cX10_bestMatchSum 14 = .ok (.putfield 50, 3) := by decide +kernel
theorem dX10_bestMatchSum_17 : decode cX10_bestMatchSum 17 = .ok (.aload_n 0, 1) := by decide +kernel
theorem dX10_bestMatchSum_18 : decode cX10_bestMatchSum 18 = .ok (.getfield 50, 3) := by decide +kernel
theorem dX10_bestMatchSum_21 : decode cX10_bestMatchSum 21 = .ok (.ifCond .le 5, 3) := by decide +kernel
theorem dX10_bestMatchSum_24 : decode cX10_bestMatchSum 24 = .ok (.iconst 0, 1) := by decide +kernel
theorem dX10_bestMatchSum_25 : decode cX10_bestMatchSum 25 = .ok (.ireturn, 1) := by decide +kernel
theorem dX10_bestMatchSum_26 : decode cX10_bestMatchSum 26 = .ok (.aload_n 0, 1) := by decide +kernel
theorem dX10_bestMatchSum_27 : decode cX10_bestMatchSum 27 = .ok (.iload_n 1, 1) := by decide +kernel
theorem dX10_bestMatchSum_28 : decode cX10_bestMatchSum 28 = .ok (.invokevirtual 230, 3) := by decide +kernel
theorem dX10_bestMatchSum_31 : decode cX10_bestMatchSum 31 = .ok (.aload_n 0, 1) := by decide +kernel
theorem dX10_bestMatchSum_32 : decode cX10_bestMatchSum 32 = .ok (.getfield 224, 3) := by decide +kernel
theorem dX10_bestMatchSum_35 : decode cX10_bestMatchSum 35 = .ok (.ireturn, 1) := by decide +kernel
theorem dX10_setScore_0 : decode cX10_setScore 0 = .ok (.aload_n 0, 1) := by decide +kernel
theorem dX10_setScore_1 : decode cX10_setScore 1 = .ok (.iload_n 1, 1) := by decide +kernel
theorem dX10_setScore_2 : decode cX10_setScore 2 = .ok (.iload_n 2, 1) := by decide +kernel
theorem dX10_setScore_3 : decode cX10_setScore 3 = .ok (.invokevirtual 184, 3) := by decide +kernel
theorem dX10_setScore_6 : decode cX10_setScore 6 = .ok (.ifCond .ne 5, 3) := by decide +kernel
theorem dX10_setScore_9 : decode cX10_setScore 9 = .ok (.iconst 0, 1) := by decide +kernel
theorem dX10_setScore_10 : decode cX10_setScore 10 = .ok (.ireturn, 1) := by decide +kernel
theorem dX10_setScore_11 : decode cX10_setScore 11 = .ok (.iload_n 3, 1) := by decide +kernel
theorem dX10_setScore_12 : decode cX10_setScore 12 = .ok (.iconst (-1), 1) := by decide +kernel
theorem dX10_setScore_13 : decode cX10_setScore 13 = .ok (.if_icmp .eq 19, 3) := by decide +kernel
theorem dX10_setScore_16 : decode cX10_setScore 16 = .ok (.iload_n 3, 1) := by decide +kernel
theorem dX10_setScore_17 : decode cX10_setScore 17 = .ok (.iconst 1, 1) := by decide +kernel
theorem dX10_setScore_18 : decode cX10_setScore 18 = .ok (.bipush 100, 2) := by decide +kernel
theorem dX10_setScore_20 : decode cX10_setScore 20 = .ok (.invokestatic 53, 3) := by decide +kernel
theorem dX10_setScore_23 : decode cX10_setScore 23 = .ok (.ifCond .ne 9, 3) := by decide +kernel
theorem dX10_setScore_26 : decode cX10_setScore 26 = .ok (.aload_n 0, 1) := by decide +kernel
theorem dX10_setScore_27 : decode cX10_setScore 27 = .ok (.iconst 2, 1) := by decide +kernel
theorem dX10_setScore_28 : decode cX10_setScore 28 = .ok (.invokevirtual 60, 3) := by decide +kernel
theorem dX10_setScore_31 : decode cX10_setScore 31 = .ok (.ireturn, 1) := by decide +kernel
theorem dX10_setScore_32 : decode cX10_setScore 32 = .ok (.aload_n 0, 1) := by decide +kernel
theorem dX10_setScore_33 : decode cX10_setScore 33 = .ok (.iload_n 1, 1) := by decide +kernel
theorem dX10_setScore_34 : decode cX10_setScore 34 = .ok (.iload_n 2, 1) := by decide +kernel
theorem dX10_setScore_35 : decode cX10_setScore 35 = .ok (.invokevirtual 153, 3) := by decide +kernel
theorem dX10_setScore_38 : decode cX10_setScore 38 = .ok (.ifCond .ne 9, 3) := by decide +kernel
theorem dX10_setScore_41 : decode cX10_setScore 41 = .ok (.aload_n 0, 1) := by decide +kernel
theorem dX10_setScore_42 : decode cX10_setScore 42 = .ok (.iconst 3, 1) := by decide +kernel
theorem dX10_setScore_43 : decode cX10_setScore 43 = .ok (.invokevirtual 60, 3) := by decide +kernel
theorem dX10_setScore_46 : decode cX10_setScore 46 = .ok (.ireturn, 1) := by decide +kernel
theorem dX10_setScore_47 : decode cX10_setScore 47 = .ok (.aload_n 0, 1) := by decide +kernel
theorem dX10_setScore_48 : decode cX10_setScore 48 = .ok (.invokevirtual 190, 3) := by decide +kernel
theorem dX10_setScore_51 : decode cX10_setScore 51 = .ok (.aload_n 0, 1) := by decide +kernel
theorem dX10_setScore_52 : decode cX10_setScore 52 = .ok (.iload_n 1, 1) := by decide +kernel
theorem dX10_setScore_53 : decode cX10_setScore 53 = .ok (.iload_n 2, 1) := by decide +kernel
theorem dX10_setScore_54 : decode cX10_setScore 54 = .ok (.invokevirtual 159, 3) := by decide +kernel
theorem dX10_setScore_57 : decode cX10_setScore 57 = .ok (.istore 4, 2) := by decide +kernel
theorem dX10_setScore_59 : decode cX10_setScore 59 = .ok (.aload_n 0, 1) := by decide +kernel
theorem dX10_setScore_60 : decode cX10_setScore 60 = .ok (.getfield 16, 3) := by decide +kernel
theorem dX10_setScore_63 : decode cX10_setScore 63 = .ok (.bipush 26, 2) := by decide +kernel
theorem dX10_setScore_65 : decode cX10_setScore 65 = .ok (.bipush 16, 2) := by decide +kernel
theorem dX10_setScore_67 : decode cX10_setScore 67 = .ok (.iload_n 1, 1) := by decide +kernel
theorem dX10_setScore_68 : decode cX10_setScore 68 = .ok (.imul, 1) := by decide +kernel
theorem dX10_setScore_69 : decode cX10_setScore 69 = .ok (.iadd, 1) := by decide +kernel
theorem dX10_setScore_70 : decode cX10_setScore 70 = .ok (.iload_n 2, 1) := by decide +kernel
theorem dX10_setScore_71 : decode cX10_setScore 71 = .ok (.iadd, 1) := by decide +kernel
theorem dX10_setScore_72 : decode cX10_setScore 72 = .ok (.iload_n 3, 1) := by decide +kernel
theorem dX10_setScore_73 : decode cX10_setScore 73 = .ok (.iconst (-1), 1) := by decide +kernel
theorem dX10_setScore_74 : decode cX10_setScore 74 = .ok (.if_icmp .ne 7, 3) := by decide +kernel
theorem dX10_setScore_77 : decode cX10_setScore 77 = .ok (.iconst 0, 1) := by decide +kernel
theorem dX10_setScore_78 : decode cX10_setScore 78 = .ok (.goto 4, 3) := by decide +kernel
theorem dX10_setScore_81 : decode cX10_setScore 81 = .ok (.iload_n 3, 1) := by decide +kernel
theorem dX10_setScore_82 : decode cX10_setScore 82 = .ok (.iastore, 1) := by decide +kernel
theorem dX10_setScore_83 : decode cX10_setScore 83 = .ok (.iload 4, 2) := by decide +kernel
theorem dX10_setScore_85 : decode cX10_setScore 85 = .ok (.invokestatic 202, 3) := by decide +kernel
theorem dX10_setScore_88 : decode cX10_setScore 88 = .ok (.ireturn, 1) := by decide +kernel
theorem dX10_down_0 : decode cX10_down 0 = .ok (.lload_n 0, 1) := by decide +kernel
theorem dX10_down_1 : decode cX10_down 1 = .ok (.lload_n 2, 1) := by decide +kernel
theorem dX10_down_2 : decode cX10_down 2 = .ok (.ldiv, 1) := by decide +kernel
theorem dX10_down_3 : decode cX10_down 3 = .ok (.lstore 4, 2) := by decide +kernel
theorem dX10_down_5 : decode cX10_down 5 = .ok (.lload_n 0, 1) := by decide +kernel
theorem dX10_down_6 : decode cX10_down 6 = .ok (.lload_n 2, 1) := by decide +kernel
theorem dX10_down_7 : decode cX10_down 7 = .ok (.lrem, 1) := by decide +kernel
theorem dX10_down_8 : decode cX10_down 8 = .ok (.lconst 0, 1) := by decide +kernel
theorem dX10_down_9 : decode cX10_down 9 = .ok (.lcmp, 1) := by decide +kernel
theorem dX10_down_10 : decode cX10_down 10 = .ok (.ifCond .ge 10, 3) := by decide +kernel
theorem dX10_down_13 : decode cX10_down 13 = .ok (.lload 4, 2) := by decide +kernel
theorem dX10_down_15 : decode cX10_down 15 = .ok (.lconst 1, 1) := by decide +kernel
theorem dX10_down_16 : decode cX10_down 16 = .ok (.lsub, 1) := by decide +kernel
theorem dX10_down_17 : decode cX10_down 17 = .ok (.goto 5, 3) := by decide +kernel
theorem dX10_down_20 : decode cX10_down 20 = .ok (.lload 4, 2) := by decide +kernel
theorem dX10_down_22 : decode cX10_down 22 = .ok (.l2i, 1) := by decide +kernel
theorem dX10_down_23 : decode cX10_down 23 = .ok (.ireturn, 1) := by decide +kernel
theorem dX10_adjust_0 : decode cX10_adjust 0 = .ok (.iconst 0, 1) := by decide +kernel
theorem dX10_adjust_1 : decode cX10_adjust 1 = .ok (.istore_n 3, 1) := by decide +kernel
theorem dX10_adjust_2 : decode cX10_adjust 2 = .ok (.iconst 0, 1) := by decide +kernel
theorem dX10_adjust_3 : decode cX10_adjust 3 = .ok (.istore 4, 2) := by decide +kernel
theorem dX10_adjust_5 : decode cX10_adjust 5 = .ok (.iconst 0, 1) := by decide +kernel
theorem dX10_adjust_6 : decode cX10_adjust 6 = .ok (.istore 5, 2) := by decide +kernel
theorem dX10_adjust_8 : decode cX10_adjust 8 = .ok (.iload 5, 2) := by decide +kernel
theorem dX10_adjust_10 : decode cX10_adjust 10 = .ok (.bipush 16, 2) := by decide +kernel
theorem dX10_adjust_12 : decode cX10_adjust 12 = .ok (.if_icmp .ge 39, 3) := by decide +kernel
theorem dX10_adjust_15 : decode cX10_adjust 15 = .ok (.iload_n 3, 1) := by decide +kernel
theorem dX10_adjust_16 : decode cX10_adjust 16 = .ok (.aload_n 0, 1) := by decide +kernel
theorem dX10_adjust_17 : decode cX10_adjust 17 = .ok (.iload_n 1, 1) := by decide +kernel
theorem dX10_adjust_18 : decode cX10_adjust 18 = .ok (.iload 5, 2) := by decide +kernel
theorem dX10_adjust_20 : decode cX10_adjust 20 = .ok (.invokevirtual 159, 3) := by decide +kernel
theorem dX10_adjust_23 : decode cX10_adjust 23 = .ok (.ifCond .le 7, 3) := by decide +kernel
theorem dX10_adjust_26 : decode cX10_adjust 26 = .ok (.iconst 1, 1) := by decide +kernel
theorem dX10_adjust_27 : decode cX10_adjust 27 = .ok (.goto 4, 3) := by decide +kernel
theorem dX10_adjust_30 : decode cX10_adjust 30 = .ok (.iconst 0, 1) := by decide +kernel
theorem dX10_adjust_31 : decode cX10_adjust 31 = .ok (.iadd, 1) := by decide +kernel
theorem dX10_adjust_32 : decode cX10_adjust 32 = .ok (.istore_n 3, 1) := by decide +kernel
theorem dX10_adjust_33 : decode cX10_adjust 33 = .ok (.iload 4, 2) := by decide +kernel
theorem dX10_adjust_35 : decode cX10_adjust 35 = .ok (.aload_n 0, 1) := by decide +kernel
theorem dX10_adjust_36 : decode cX10_adjust 36 = .ok (.iload_n 1, 1) := by decide +kernel
theorem dX10_adjust_37 : decode cX10_adjust 37 = .ok (.iload 5, 2) := by decide +kernel
theorem dX10_adjust_39 : decode cX10_adjust 39 = .ok (.invokevirtual 159, 3) := by decide +kernel
theorem dX10_adjust_42 : decode cX10_adjust 42 = .ok (.iadd, 1) := by decide +kernel
theorem dX10_adjust_43 : decode cX10_adjust 43 = .ok (.istore 4, 2) := by decide +kernel
theorem dX10_adjust_45 : decode cX10_adjust 45 = .ok (.iinc 5 1, 3) := by decide +kernel
theorem dX10_adjust_48 : decode cX10_adjust 48 = .ok (.goto (-40), 3) := by decide +kernel
theorem dX10_adjust_51 : decode cX10_adjust 51 = .ok (.iconst 0, 1) := by decide +kernel
theorem dX10_adjust_52 : decode cX10_adjust 52 = .ok (.istore 5, 2) := by decide +kernel
theorem dX10_adjust_54 : decode cX10_adjust 54 = .ok (.iconst 0, 1) := by decide +kernel
theorem dX10_adjust_55 : decode cX10_adjust 55 = .ok (.istore 6, 2) := by decide +kernel
theorem dX10_adjust_57 : decode cX10_adjust 57 = .ok (.iload 6, 2) := by decide +kernel
theorem dX10_adjust_59 : decode cX10_adjust 59 = .ok (.bipush 16, 2) := by decide +kernel
theorem dX10_adjust_61 : decode cX10_adjust 61 = .ok (.if_icmp .ge 55, 3) := by decide +kernel
theorem dX10_adjust_64 : decode cX10_adjust 64 = .ok (.aload_n 0, 1) := by decide +kernel
theorem dX10_adjust_65 : decode cX10_adjust 65 = .ok (.iload_n 1, 1) := by decide +kernel
theorem dX10_adjust_66 : decode cX10_adjust 66 = .ok (.iload 6, 2) := by decide +kernel
theorem dX10_adjust_68 : decode cX10_adjust 68 = .ok (.invokevirtual 159, 3) := by decide +kernel
theorem dX10_adjust_71 : decode cX10_adjust 71 = .ok (.ifCond .le 18, 3) := by decide +kernel
theorem dX10_adjust_74 : decode cX10_adjust 74 = .ok (.iload_n 3, 1) := by decide +kernel
theorem dX10_adjust_75 : decode cX10_adjust 75 = .ok (.aload_n 0, 1) := by decide +kernel
theorem dX10_adjust_76 : decode cX10_adjust 76 = .ok (.iload_n 1, 1) := by decide +kernel
theorem dX10_adjust_77 : decode cX10_adjust 77 = .ok (.iload 6, 2) := by decide +kernel
theorem dX10_adjust_79 : decode cX10_adjust 79 = .ok (.invokevirtual 159, 3) := by decide +kernel
theorem dX10_adjust_82 : decode cX10_adjust 82 = .ok (.imul, 1) := by decide +kernel
theorem dX10_adjust_83 : decode cX10_adjust 83 = .ok (.iload 4, 2) := by decide +kernel
theorem dX10_adjust_85 : decode cX10_adjust 85 = .ok (.isub, 1) := by decide +kernel
theorem dX10_adjust_86 : decode cX10_adjust 86 = .ok (.goto 4, 3) := by decide +kernel
theorem dX10_adjust_89 : decode cX10_adjust 89 = .ok (.iconst 0, 1) := by decide +kernel
theorem dX10_adjust_90 : decode cX10_adjust 90 = .ok (.istore 7, 2) := by decide +kernel
theorem dX10_adjust_92 : decode cX10_adjust 92 = .ok (.iload 5, 2) := by decide +kernel
theorem dX10_adjust_94 : decode cX10_adjust 94 = .ok (.iload 7, 2) := by decide +kernel
theorem dX10_adjust_96 : decode cX10_adjust 96 = .ok (.ifCond .ge 9, 3) := by decide +kernel
theorem dX10_adjust_99 : decode cX10_adjust 99 = .ok (.iload 7, 2) := by decide +kernel
theorem dX10_adjust_101 : decode cX10_adjust 101 = .ok (.ineg, 1) := by decide +kernel
theorem dX10_adjust_102 : decode cX10_adjust 102 = .ok (.goto 5, 3) := by decide +kernel
theorem dX10_adjust_105 : decode cX10_adjust 105 = .ok (.iload 7, 2) := by decide +kernel
theorem dX10_adjust_107 : decode cX10_adjust 107 = .ok (.iadd, 1) := by decide +kernel
theorem dX10_adjust_108 : decode cX10_adjust 108 = .ok (.istore 5, 2) := by decide +kernel
theorem dX10_adjust_110 : decode cX10_adjust 110 = .ok (.iinc 6 1, 3) := by decide +kernel
theorem dX10_adjust_113 : decode cX10_adjust 113 = .ok (.goto (-56), 3) := by decide +kernel
theorem dX10_adjust_116 : decode cX10_adjust 116 = .ok (.iload 5, 2) := by decide +kernel
theorem dX10_adjust_118 : decode cX10_adjust 118 = .ok (.ifCond .ne 8, 3) := by decide +kernel
theorem dX10_adjust_121 : decode cX10_adjust 121 = .ok (.ldc 233, 2) := by decide +kernel
theorem dX10_adjust_123 : decode cX10_adjust 123 = .ok (.goto 31, 3) := by decide +kernel
theorem dX10_adjust_126 : decode cX10_adjust 126 = .ok (.ldc 233, 2) := by decide +kernel
theorem dX10_adjust_128 : decode cX10_adjust 128 = .ok (.ldc2_w 234, 3) := by decide +kernel
theorem dX10_adjust_131 : decode cX10_adjust 131 = .ok (.iload_n 3, 1) := by decide +kernel
theorem dX10_adjust_132 : decode cX10_adjust 132 = .ok (.i2l, 1) := by decide +kernel
theorem dX10_adjust_133 : decode cX10_adjust 133 = .ok (.lmul, 1) := by decide +kernel
theorem dX10_adjust_134 : decode cX10_adjust 134 = .ok (.iload_n 3, 1) := by decide +kernel
theorem dX10_adjust_135 : decode cX10_adjust 135 = .ok (.aload_n 0, 1) := by decide +kernel
theorem dX10_adjust_136 : decode cX10_adjust 136 = .ok (.iload_n 1, 1) := by decide +kernel
theorem dX10_adjust_137 : decode cX10_adjust 137 = .ok (.iload_n 2, 1) := by decide +kernel
theorem dX10_adjust_138 : decode cX10_adjust 138 = .ok (.invokevirtual 159, 3) := by decide +kernel
theorem dX10_adjust_141 : decode cX10_adjust 141 = .ok (.imul, 1) := by decide +kernel
theorem dX10_adjust_142 : decode cX10_adjust 142 = .ok (.iload 4, 2) := by decide +kernel
theorem dX10_adjust_144 : decode cX10_adjust 144 = .ok (.isub, 1) := by decide +kernel
theorem dX10_adjust_145 : decode cX10_adjust 145 = .ok (.i2l, 1) := by decide +kernel
theorem dX10_adjust_146 : decode cX10_adjust 146 = .ok (.lmul, 1) := by decide +kernel
theorem dX10_adjust_147 : decode cX10_adjust 147 = .ok (.iload 5, 2) := by decide +kernel
theorem dX10_adjust_149 : decode cX10_adjust 149 = .ok (.i2l, 1) := by decide +kernel
theorem dX10_adjust_150 : decode cX10_adjust 150 = .ok (.invokestatic 236, 3) := by decide +kernel
theorem dX10_adjust_153 : decode cX10_adjust 153 = .ok (.iadd, 1) := by decide +kernel
theorem dX10_adjust_154 : decode cX10_adjust 154 = .ok (.ireturn, 1) := by decide +kernel
theorem dX10_isScored_0 : decode cX10_isScored 0 = .ok (.aload_n 0, 1) := by decide +kernel
theorem dX10_isScored_1 : decode cX10_isScored 1 = .ok (.iload_n 1, 1) := by decide +kernel
theorem dX10_isScored_2 : decode cX10_isScored 2 = .ok (.iload_n 2, 1) := by decide +kernel
theorem dX10_isScored_3 : decode cX10_isScored 3 = .ok (.invokevirtual 159, 3) := by decide +kernel
theorem dX10_isScored_6 : decode cX10_isScored 6 = .ok (.ifCond .le 7, 3) := by decide +kernel
theorem dX10_isScored_9 : decode cX10_isScored 9 = .ok (.iconst 1, 1) := by decide +kernel
theorem dX10_isScored_10 : decode cX10_isScored 10 = .ok (.goto 4, 3) := by decide +kernel
theorem dX10_isScored_13 : decode cX10_isScored 13 = .ok (.iconst 0, 1) := by decide +kernel
theorem dX10_isScored_14 : decode cX10_isScored 14 = .ok (.ireturn, 1) := by decide +kernel
theorem dX10_adjusted_0 : decode cX10_adjusted 0 = .ok (.aload_n 0, 1) := by decide +kernel
theorem dX10_adjusted_1 : decode cX10_adjusted 1 = .ok (.iload_n 1, 1) := by decide +kernel
theorem dX10_adjusted_2 : decode cX10_adjusted 2 = .ok (.iload_n 2, 1) := by decide +kernel
theorem dX10_adjusted_3 : decode cX10_adjusted 3 = .ok (.invokevirtual 184, 3) := by decide +kernel
theorem dX10_adjusted_6 : decode cX10_adjusted 6 = .ok (.ifCond .ne 5, 3) := by decide +kernel
theorem dX10_adjusted_9 : decode cX10_adjusted 9 = .ok (.iconst 0, 1) := by decide +kernel
theorem dX10_adjusted_10 : decode cX10_adjusted 10 = .ok (.ireturn, 1) := by decide +kernel
theorem dX10_adjusted_11 : decode cX10_adjusted 11 = .ok (.aload_n 0, 1) := by decide +kernel
theorem dX10_adjusted_12 : decode cX10_adjusted 12 = .ok (.iload_n 1, 1) := by decide +kernel
theorem dX10_adjusted_13 : decode cX10_adjusted 13 = .ok (.iload_n 2, 1) := by decide +kernel
theorem dX10_adjusted_14 : decode cX10_adjusted 14 = .ok (.invokevirtual 240, 3) := by decide +kernel
theorem dX10_adjusted_17 : decode cX10_adjusted 17 = .ok (.ifCond .eq 12, 3) := by decide +kernel
theorem dX10_adjusted_20 : decode cX10_adjusted 20 = .ok (.aload_n 0, 1) := by decide +kernel
theorem dX10_adjusted_21 : decode cX10_adjusted 21 = .ok (.iload_n 1, 1) := by decide +kernel
theorem dX10_adjusted_22 : decode cX10_adjusted 22 = .ok (.iload_n 2, 1) := by decide +kernel
theorem dX10_adjusted_23 : decode cX10_adjusted 23 = .ok (.invokevirtual 243, 3) := by decide +kernel
theorem dX10_adjusted_26 : decode cX10_adjusted 26 = .ok (.goto 8, 3) := by decide +kernel
theorem dX10_adjusted_29 : decode cX10_adjusted 29 = .ok (.aload_n 0, 1) := by decide +kernel
theorem dX10_adjusted_30 : decode cX10_adjusted 30 = .ok (.iconst 2, 1) := by decide +kernel
theorem dX10_adjusted_31 : decode cX10_adjusted 31 = .ok (.invokevirtual 60, 3) := by decide +kernel
theorem dX10_adjusted_34 : decode cX10_adjusted 34 = .ok (.ireturn, 1) := by decide +kernel
theorem dX10_scoresOf_0 : decode cX10_scoresOf 0 = .ok (.iconst 0, 1) := by decide +kernel
theorem dX10_scoresOf_1 : decode cX10_scoresOf 1 = .ok (.istore_n 2, 1) := by decide +kernel
theorem dX10_scoresOf_2 : decode cX10_scoresOf 2 = .ok (.iconst 0, 1) := by decide +kernel
theorem dX10_scoresOf_3 : decode cX10_scoresOf 3 = .ok (.istore_n 3, 1) := by decide +kernel
theorem dX10_scoresOf_4 : decode cX10_scoresOf 4 = .ok (.iload_n 3, 1) := by decide +kernel
theorem dX10_scoresOf_5 : decode cX10_scoresOf 5 = .ok (.aload_n 0, 1) := by decide +kernel
theorem dX10_scoresOf_6 : decode cX10_scoresOf 6 = .ok (.getfield 7, 3) := by decide +kernel
theorem dX10_scoresOf_9 : decode cX10_scoresOf 9 = .ok (.iconst 1, 1) := by decide +kernel
theorem dX10_scoresOf_10 : decode cX10_scoresOf 10 = .ok (.iaload, 1) := by decide +kernel
theorem dX10_scoresOf_11 : decode cX10_scoresOf 11 = .ok (.if_icmp .ge 26, 3) := by decide +kernel
theorem dX10_scoresOf_14 : decode cX10_scoresOf 14 = .ok (.iload_n 2, 1) := by decide +kernel
theorem dX10_scoresOf_15 : decode cX10_scoresOf 15 = .ok (.aload_n 0, 1) := by decide +kernel
theorem dX10_scoresOf_16 : decode cX10_scoresOf 16 = .ok (.iload_n 3, 1) := by decide +kernel
theorem dX10_scoresOf_17 : decode cX10_scoresOf 17 = .ok (.iload_n 1, 1) := by decide +kernel
theorem dX10_scoresOf_18 : decode cX10_scoresOf 18 = .ok (.invokevirtual 240, 3) := by decide +kernel
theorem dX10_scoresOf_21 : decode cX10_scoresOf 21 = .ok (.ifCond .eq 7, 3) := by decide +kernel
theorem dX10_scoresOf_24 : decode cX10_scoresOf 24 = .ok (.iconst 1, 1) := by decide +kernel
theorem dX10_scoresOf_25 : decode cX10_scoresOf 25 = .ok (.goto 4, 3) := by decide +kernel
theorem dX10_scoresOf_28 : decode cX10_scoresOf 28 = .ok (.iconst 0, 1) := by decide +kernel
theorem dX10_scoresOf_29 : decode cX10_scoresOf 29 = .ok (.iadd, 1) := by decide +kernel
theorem dX10_scoresOf_30 : decode cX10_scoresOf 30 = .ok (.istore_n 2, 1) := by decide +kernel
theorem dX10_scoresOf_31 : decode cX10_scoresOf 31 = .ok (.iinc 3 1, 3) := by decide +kernel
theorem dX10_scoresOf_34 : decode cX10_scoresOf 34 = .ok (.goto (-30), 3) := by decide +kernel
theorem dX10_scoresOf_37 : decode cX10_scoresOf 37 = .ok (.iload_n 2, 1) := by decide +kernel
theorem dX10_scoresOf_38 : decode cX10_scoresOf 38 = .ok (.ireturn, 1) := by decide +kernel
theorem dX10_normal_0 : decode cX10_normal 0 = .ok (.iconst 0, 1) := by decide +kernel
theorem dX10_normal_1 : decode cX10_normal 1 = .ok (.istore_n 2, 1) := by decide +kernel
theorem dX10_normal_2 : decode cX10_normal 2 = .ok (.iconst 0, 1) := by decide +kernel
theorem dX10_normal_3 : decode cX10_normal 3 = .ok (.istore_n 3, 1) := by decide +kernel
theorem dX10_normal_4 : decode cX10_normal 4 = .ok (.iload_n 3, 1) := by decide +kernel
theorem dX10_normal_5 : decode cX10_normal 5 = .ok (.aload_n 0, 1) := by decide +kernel
theorem dX10_normal_6 : decode cX10_normal 6 = .ok (.getfield 7, 3) := by decide +kernel
theorem dX10_normal_9 : decode cX10_normal 9 = .ok (.iconst 1, 1) := by decide +kernel
theorem dX10_normal_10 : decode cX10_normal 10 = .ok (.iaload, 1) := by decide +kernel
theorem dX10_normal_11 : decode cX10_normal 11 = .ok (.if_icmp .ge 31, 3) := by decide +kernel
theorem dX10_normal_14 : decode cX10_normal 14 = .ok (.iload_n 2, 1) := by decide +kernel
theorem dX10_normal_15 : decode cX10_normal 15 = .ok (.aload_n 0, 1) := by decide +kernel
theorem dX10_normal_16 : decode cX10_normal 16 = .ok (.iload_n 3, 1) := by decide +kernel
theorem dX10_normal_17 : decode cX10_normal 17 = .ok (.iload_n 1, 1) := by decide +kernel
theorem dX10_normal_18 : decode cX10_normal 18 = .ok (.invokevirtual 240, 3) := by decide +kernel
theorem dX10_normal_21 : decode cX10_normal 21 = .ok (.ifCond .eq 12, 3) := by decide +kernel
theorem dX10_normal_24 : decode cX10_normal 24 = .ok (.aload_n 0, 1) := by decide +kernel
theorem dX10_normal_25 : decode cX10_normal 25 = .ok (.iload_n 3, 1) := by decide +kernel
theorem dX10_normal_26 : decode cX10_normal 26 = .ok (.iload_n 1, 1) := by decide +kernel
theorem dX10_normal_27 : decode cX10_normal 27 = .ok (.invokevirtual 243, 3) := by decide +kernel
theorem dX10_normal_30 : decode cX10_normal 30 = .ok (.goto 4, 3) := by decide +kernel
theorem dX10_normal_33 : decode cX10_normal 33 = .ok (.iconst 0, 1) := by decide +kernel
theorem dX10_normal_34 : decode cX10_normal 34 = .ok (.iadd, 1) := by decide +kernel
theorem dX10_normal_35 : decode cX10_normal 35 = .ok (.istore_n 2, 1) := by decide +kernel
theorem dX10_normal_36 : decode cX10_normal 36 = .ok (.iinc 3 1, 3) := by decide +kernel
theorem dX10_normal_39 : decode cX10_normal 39 = .ok (.goto (-35), 3) := by decide +kernel
theorem dX10_normal_42 : decode cX10_normal 42 = .ok (.iload_n 2, 1) := by decide +kernel
theorem dX10_normal_43 : decode cX10_normal 43 = .ok (.i2l, 1) := by decide +kernel
theorem dX10_normal_44 : decode cX10_normal 44 = .ok (.aload_n 0, 1) := by decide +kernel
theorem dX10_normal_45 : decode cX10_normal 45 = .ok (.iload_n 1, 1) := by decide +kernel
theorem dX10_normal_46 : decode cX10_normal 46 = .ok (.invokevirtual 246, 3) := by decide +kernel
theorem dX10_normal_49 : decode cX10_normal 49 = .ok (.i2l, 1) := by decide +kernel
theorem dX10_normal_50 : decode cX10_normal 50 = .ok (.invokestatic 236, 3) := by decide +kernel
theorem dX10_normal_53 : decode cX10_normal 53 = .ok (.ireturn, 1) := by decide +kernel
theorem dX10_normalized_0 : decode cX10_normalized 0 = .ok (.aload_n 0, 1) := by decide +kernel
theorem dX10_normalized_1 : decode cX10_normalized 1 = .ok (.aload_n 0, 1) := by decide +kernel
theorem dX10_normalized_2 : decode cX10_normalized 2 = .ok (.iload_n 1, 1) := by decide +kernel
theorem dX10_normalized_3 : decode cX10_normalized 3 = .ok (.invokevirtual 181, 3) := by decide +kernel
theorem dX10_normalized_6 : decode cX10_normalized 6 = .ok (.ifCond .ne 7, 3) := by decide +kernel
theorem dX10_normalized_9 : decode cX10_normalized 9 = .ok (.iconst 1, 1) := by decide +kernel
theorem dX10_normalized_10 : decode cX10_normalized 10 = .ok (.goto 16, 3) := by decide +kernel
theorem dX10_normalized_13 : decode cX10_normalized 13 = .ok (.aload_n 0, 1) := by decide +kernel
theorem dX10_normalized_14 : decode cX10_normalized 14 = .ok (.iload_n 1, 1) := by decide +kernel
theorem dX10_normalized_15 : decode cX10_normalized 15 = .ok (.invokevirtual 246, 3) := by decide +kernel
theorem dX10_normalized_18 : decode cX10_normalized 18 = .ok (.ifCond .le 7, 3) := by decide +kernel
theorem dX10_normalized_21 : decode cX10_normalized 21 = .ok (.iconst 0, 1) := by decide +kernel
theorem dX10_normalized_22 : decode cX10_normalized 22 = .ok (.goto 4, 3) := by decide +kernel
theorem dX10_normalized_25 : decode cX10_normalized 25 = .ok (.iconst 2, 1) := by decide +kernel
theorem dX10_normalized_26 : decode cX10_normalized 26 = .ok (.putfield 50, 3) := by decide +kernel
theorem dX10_normalized_29 : decode cX10_normalized 29 = .ok (.aload_n 0, 1) := by decide +kernel
theorem dX10_normalized_30 : decode cX10_normalized 30 = .ok (.getfield 50, 3) := by decide +kernel
theorem dX10_normalized_33 : decode cX10_normalized 33 = .ok (.ifCond .le 7, 3) := by decide +kernel
theorem dX10_normalized_36 : decode cX10_normalized 36 = .ok (.iconst 0, 1) := by decide +kernel
theorem dX10_normalized_37 : decode cX10_normalized 37 = .ok (.goto 8, 3) := by decide +kernel
theorem dX10_normalized_40 : decode cX10_normalized 40 = .ok (.aload_n 0, 1) := by decide +kernel
theorem dX10_normalized_41 : decode cX10_normalized 41 = .ok (.iload_n 1, 1) := by decide +kernel
theorem dX10_normalized_42 : decode cX10_normalized 42 = .ok (.invokevirtual 249, 3) := by decide +kernel
theorem dX10_normalized_45 : decode cX10_normalized 45 = .ok (.ireturn, 1) := by decide +kernel
theorem dX10_leniency_0 : decode cX10_leniency 0 = .ok (.aload_n 0, 1) := by decide +kernel
theorem dX10_leniency_1 : decode cX10_leniency 1 = .ok (.aload_n 0, 1) := by decide +kernel
theorem dX10_leniency_2 : decode cX10_leniency 2 = .ok (.iload_n 1, 1) := by decide +kernel
theorem dX10_leniency_3 : decode cX10_leniency 3 = .ok (.invokevirtual 177, 3) := by decide +kernel
theorem dX10_leniency_6 : decode cX10_leniency 6 = .ok (.ifCond .ne 7, 3) := by decide +kernel
theorem dX10_leniency_9 : decode cX10_leniency 9 = .ok (.iconst 1, 1) := by decide +kernel
theorem dX10_leniency_10 : decode cX10_leniency 10 = .ok (.goto 16, 3) := by decide +kernel
theorem dX10_leniency_13 : decode cX10_leniency 13 = .ok (.aload_n 0, 1) := by decide +kernel
theorem dX10_leniency_14 : decode cX10_leniency 14 = .ok (.iload_n 1, 1) := by decide +kernel
theorem dX10_leniency_15 : decode cX10_leniency 15 = .ok (.invokevirtual 174, 3) := by decide +kernel
theorem dX10_leniency_18 : decode cX10_leniency 18 = .ok (.ifCond .le 7, 3) := by decide +kernel
theorem dX10_leniency_21 : decode cX10_leniency 21 = .ok (.iconst 0, 1) := by decide +kernel
theorem dX10_leniency_22 : decode cX10_leniency 22 = .ok (.goto 4, 3) := by decide +kernel
theorem dX10_leniency_25 : decode cX10_leniency 25 = .ok (.iconst 2, 1) := by decide +kernel
theorem dX10_leniency_26 : decode cX10_leniency 26 = .ok (.putfield 50, 3) := by decide +kernel
theorem dX10_leniency_29 : decode cX10_leniency 29 = .ok (.aload_n 0, 1) := by decide +kernel
theorem dX10_leniency_30 : decode cX10_leniency 30 = .ok (.getfield 50, 3) := by decide +kernel
theorem dX10_leniency_33 : decode cX10_leniency 33 = .ok (.ifCond .le 5, 3) := by decide +kernel
theorem dX10_leniency_36 : decode cX10_leniency 36 = .ok (.dconst 0, 1) := by decide +kernel
theorem dX10_leniency_37 : decode cX10_leniency 37 = .ok (.dreturn, 1) := by decide +kernel
theorem dX10_leniency_38 : decode cX10_leniency 38 = .ok (.iconst 0, 1) := by decide +kernel
theorem dX10_leniency_39 : decode cX10_leniency 39 = .ok (.istore_n 2, 1) := by decide +kernel
theorem dX10_leniency_40 : decode cX10_leniency 40 = .ok (.iconst 0, 1) := by decide +kernel
theorem dX10_leniency_41 : decode cX10_leniency 41 = .ok (.istore_n 3, 1) := by decide +kernel
theorem dX10_leniency_42 : decode cX10_leniency 42 = .ok (.iconst 0, 1) := by decide +kernel
theorem dX10_leniency_43 : decode cX10_leniency 43 = .ok (.istore 4, 2) := by decide +kernel
theorem dX10_leniency_45 : decode cX10_leniency 45 = .ok (.iconst 0, 1) := by decide +kernel
theorem dX10_leniency_46 : decode cX10_leniency 46 = .ok (.istore 5, 2) := by decide +kernel
theorem dX10_leniency_48 : decode cX10_leniency 48 = .ok (.iload 5, 2) := by decide +kernel
theorem dX10_leniency_50 : decode cX10_leniency 50 = .ok (.aload_n 0, 1) := by decide +kernel
theorem dX10_leniency_51 : decode cX10_leniency 51 = .ok (.getfield 7, 3) := by decide +kernel
theorem dX10_leniency_54 : decode cX10_leniency 54 = .ok (.iconst 1, 1) := by decide +kernel
theorem dX10_leniency_55 : decode cX10_leniency 55 = .ok (.iaload, 1) := by decide +kernel
theorem dX10_leniency_56 : decode cX10_leniency 56 = .ok (.if_icmp .ge 106, 3) := by decide +kernel
theorem dX10_leniency_59 : decode cX10_leniency 59 = .ok (.aload_n 0, 1) := by decide +kernel
theorem dX10_leniency_60 : decode cX10_leniency 60 = .ok (.iload 5, 2) := by decide +kernel
theorem dX10_leniency_62 : decode cX10_leniency 62 = .ok (.iconst 0, 1) := by decide +kernel
theorem dX10_leniency_63 : decode cX10_leniency 63 = .ok (.invokevirtual 162, 3) := by decide +kernel
theorem dX10_leniency_66 : decode cX10_leniency 66 = .ok (.aload_n 0, 1) := by decide +kernel
theorem dX10_leniency_67 : decode cX10_leniency 67 = .ok (.iload_n 1, 1) := by decide +kernel
theorem dX10_leniency_68 : decode cX10_leniency 68 = .ok (.iconst 0, 1) := by decide +kernel
theorem dX10_leniency_69 : decode cX10_leniency 69 = .ok (.invokevirtual 162, 3) := by decide +kernel
theorem dX10_leniency_72 : decode cX10_leniency 72 = .ok (.if_icmp .ne 7, 3) := by decide +kernel
theorem dX10_leniency_75 : decode cX10_leniency 75 = .ok (.iconst 1, 1) := by decide +kernel
theorem dX10_leniency_76 : decode cX10_leniency 76 = .ok (.goto 4, 3) := by decide +kernel
theorem dX10_leniency_79 : decode cX10_leniency 79 = .ok (.iconst 0, 1) := by decide +kernel
theorem dX10_leniency_80 : decode cX10_leniency 80 = .ok (.istore 6, 2) := by decide +kernel
theorem dX10_leniency_82 : decode cX10_leniency 82 = .ok (.iconst 0, 1) := by decide +kernel
theorem dX10_leniency_83 : decode cX10_leniency 83 = .ok (.istore 7, 2) := by decide +kernel
theorem dX10_leniency_85 : decode cX10_leniency 85 = .ok (.iload 7, 2) := by decide +kernel
theorem dX10_leniency_87 : decode cX10_leniency 87 = .ok (.bipush 16, 2) := by decide +kernel
theorem dX10_leniency_89 : decode cX10_leniency 89 = .ok (.if_icmp .ge 67, 3) := by decide +kernel
theorem dX10_leniency_92 : decode cX10_leniency 92 = .ok (.iload 6, 2) := by decide +kernel
theorem dX10_leniency_94 : decode cX10_leniency 94 = .ok (.ifCond .eq 62, 3) := by decide +kernel
theorem dX10_leniency_97 : decode cX10_leniency 97 = .ok (.iload_n 2, 1) := by decide +kernel
theorem dX10_leniency_98 : decode cX10_leniency 98 = .ok (.iload 5, 2) := by decide +kernel
theorem dX10_leniency_100 : decode cX10_leniency 100 = .ok (.iload_n 1, 1) := by decide +kernel
theorem dX10_leniency_101 : decode cX10_leniency 101 = .ok (.if_icmp .ne 14, 3) := by decide +kernel
theorem dX10_leniency_104 : decode cX10_leniency 104 = .ok (.aload_n 0, 1) := by decide +kernel
theorem dX10_leniency_105 : decode cX10_leniency 105 = .ok (.iload 5, 2) := by decide +kernel
theorem dX10_leniency_107 : decode cX10_leniency 107 = .ok (.iload 7, 2) := by decide +kernel
theorem dX10_leniency_109 : decode cX10_leniency 109 = .ok (.invokevirtual 159, 3) := by decide +kernel
theorem dX10_leniency_112 : decode cX10_leniency 112 = .ok (.goto 4, 3) := by decide +kernel
theorem dX10_leniency_115 : decode cX10_leniency 115 = .ok (.iconst 0, 1) := by decide +kernel
theorem dX10_leniency_116 : decode cX10_leniency 116 = .ok (.iadd, 1) := by decide +kernel
theorem dX10_leniency_117 : decode cX10_leniency 117 = .ok (.istore_n 2, 1) := by decide +kernel
theorem dX10_leniency_118 : decode cX10_leniency 118 = .ok (.iload_n 3, 1) := by decide +kernel
theorem dX10_leniency_119 : decode cX10_leniency 119 = .ok (.aload_n 0, 1) := by decide +kernel
theorem dX10_leniency_120 : decode cX10_leniency 120 = .ok (.iload 5, 2) := by decide +kernel
theorem dX10_leniency_122 : decode cX10_leniency 122 = .ok (.iload 7, 2) := by decide +kernel
theorem dX10_leniency_124 : decode cX10_leniency 124 = .ok (.invokevirtual 159, 3) := by decide +kernel
theorem dX10_leniency_127 : decode cX10_leniency 127 = .ok (.iadd, 1) := by decide +kernel
theorem dX10_leniency_128 : decode cX10_leniency 128 = .ok (.istore_n 3, 1) := by decide +kernel
theorem dX10_leniency_129 : decode cX10_leniency 129 = .ok (.iload 4, 2) := by decide +kernel
theorem dX10_leniency_131 : decode cX10_leniency 131 = .ok (.aload_n 0, 1) := by decide +kernel
theorem dX10_leniency_132 : decode cX10_leniency 132 = .ok (.iload 5, 2) := by decide +kernel
theorem dX10_leniency_134 : decode cX10_leniency 134 = .ok (.iload 7, 2) := by decide +kernel
theorem dX10_leniency_136 : decode cX10_leniency 136 = .ok (.invokevirtual 240, 3) := by decide +kernel
theorem dX10_leniency_139 : decode cX10_leniency 139 = .ok (.ifCond .eq 7, 3) := by decide +kernel
theorem dX10_leniency_142 : decode cX10_leniency 142 = .ok (.iconst 1, 1) := by decide +kernel
theorem dX10_leniency_143 : decode cX10_leniency 143 = .ok (.goto 4, 3) := by decide +kernel
theorem dX10_leniency_146 : decode cX10_leniency 146 = .ok (.iconst 0, 1) := by decide +kernel
theorem dX10_leniency_147 : decode cX10_leniency 147 = .ok (.iadd, 1) := by decide +kernel
theorem dX10_leniency_148 : decode cX10_leniency 148 = .ok (.istore 4, 2) := by decide +kernel
theorem dX10_leniency_150 : decode cX10_leniency 150 = .ok (.iinc 7 1, 3) := by decide +kernel
theorem dX10_leniency_153 : decode cX10_leniency 153 = .ok (.goto (-68), 3) := by decide +kernel
theorem dX10_leniency_156 : decode cX10_leniency 156 = .ok (.iinc 5 1, 3) := by decide +kernel
theorem dX10_leniency_159 : decode cX10_leniency 159 = .ok (.goto (-111), 3) := by decide +kernel
theorem dX10_leniency_162 : decode cX10_leniency 162 = .ok (.iload_n 2, 1) := by decide +kernel
theorem dX10_leniency_163 : decode cX10_leniency 163 = .ok (.i2d, 1) := by decide +kernel
theorem dX10_leniency_164 : decode cX10_leniency 164 = .ok (.aload_n 0, 1) := by decide +kernel
theorem dX10_leniency_165 : decode cX10_leniency 165 = .ok (.iload_n 1, 1) := by decide +kernel
theorem dX10_leniency_166 : decode cX10_leniency 166 = .ok (.invokevirtual 174, 3) := by decide +kernel
theorem dX10_leniency_169 : decode cX10_leniency 169 = .ok (.i2d, 1) := by decide +kernel
theorem dX10_leniency_170 : decode cX10_leniency 170 = .ok (.ddiv, 1) := by decide +kernel
theorem dX10_leniency_171 : decode cX10_leniency 171 = .ok (.iload_n 3, 1) := by decide +kernel
theorem dX10_leniency_172 : decode cX10_leniency 172 = .ok (.i2d, 1) := by decide +kernel
theorem dX10_leniency_173 : decode cX10_leniency 173 = .ok (.iload 4, 2) := by decide +kernel
theorem dX10_leniency_175 : decode cX10_leniency 175 = .ok (.i2d, 1) := by decide +kernel
theorem dX10_leniency_176 : decode cX10_leniency 176 = .ok (.ddiv, 1) := by decide +kernel
theorem dX10_leniency_177 : decode cX10_leniency 177 = .ok (.dsub, 1) := by decide +kernel
theorem dX10_leniency_178 : decode cX10_leniency 178 = .ok (.dreturn, 1) := by decide +kernel
theorem dX10_disagreement_0 : decode cX10_disagreement 0 = .ok (.aload_n 0, 1) := by decide +kernel
theorem dX10_disagreement_1 : decode cX10_disagreement 1 = .ok (.aload_n 0, 1) := by decide +kernel
theorem dX10_disagreement_2 : decode cX10_disagreement 2 = .ok (.iload_n 1, 1) := by decide +kernel
theorem dX10_disagreement_3 : decode cX10_disagreement 3 = .ok (.invokevirtual 181, 3) := by decide +kernel
theorem dX10_disagreement_6 : decode cX10_disagreement 6 = .ok (.ifCond .ne 7, 3) := by decide +kernel
theorem dX10_disagreement_9 : decode cX10_disagreement 9 = .ok (.iconst 1, 1) := by decide +kernel
theorem dX10_disagreement_10 : decode cX10_disagreement 10 = .ok (.goto 17, 3) := by decide +kernel
theorem dX10_disagreement_13 : decode cX10_disagreement 13 = .ok (.aload_n 0, 1) := by decide +kernel
theorem dX10_disagreement_14 : decode cX10_disagreement 14 = .ok (.iload_n 1, 1) := by decide +kernel
theorem dX10_disagreement_15 : decode cX10_disagreement 15 = .ok (.invokevirtual 246, 3) := by decide +kernel
theorem dX10_disagreement_18 : decode cX10_disagreement 18 = .ok (.iconst 1, 1) := by decide +kernel
theorem dX10_disagreement_19 : decode cX10_disagreement 19 = .ok (.if_icmp .le 7, 3) := by decide +kernel
theorem dX10_disagreement_22 : decode cX10_disagreement 22 = .ok (.iconst 0, 1) := by decide +kernel
theorem dX10_disagreement_23 : decode cX10_disagreement 23 = .ok (.goto 4, 3) := by decide +kernel
theorem dX10_disagreement_26 : decode cX10_disagreement 26 = .ok (.iconst 2, 1) := by decide +kernel
theorem dX10_disagreement_27 : decode cX10_disagreement 27 = .ok (.putfield 50, 3) := by decide +kernel
theorem dX10_disagreement_30 : decode cX10_disagreement 30 = .ok (.aload_n 0, 1) := by decide +kernel
theorem dX10_disagreement_31 : decode cX10_disagreement 31 = .ok (.getfield 50, 3) := by decide +kernel
theorem dX10_disagreement_34 : decode cX10_disagreement 34 = .ok (.ifCond .le 5, 3) := by decide +kernel
theorem dX10_disagreement_37 : decode cX10_disagreement 37 = .ok (.dconst 0, 1) := by decide +kernel
theorem dX10_disagreement_38 : decode cX10_disagreement 38 = .ok (.dreturn, 1) := by decide +kernel
theorem dX10_disagreement_39 : decode cX10_disagreement 39 = .ok (.iconst 0, 1) := by decide +kernel
theorem dX10_disagreement_40 : decode cX10_disagreement 40 = .ok (.istore_n 2, 1) := by decide +kernel
theorem dX10_disagreement_41 : decode cX10_disagreement 41 = .ok (.iconst 0, 1) := by decide +kernel
theorem dX10_disagreement_42 : decode cX10_disagreement 42 = .ok (.istore_n 3, 1) := by decide +kernel
theorem dX10_disagreement_43 : decode cX10_disagreement 43 = .ok (.iconst 0, 1) := by decide +kernel
theorem dX10_disagreement_44 : decode cX10_disagreement 44 = .ok (.istore 4, 2) := by decide +kernel
theorem dX10_disagreement_46 : decode cX10_disagreement 46 = .ok (.iload 4, 2) := by decide +kernel
theorem dX10_disagreement_48 : decode cX10_disagreement 48 = .ok (.aload_n 0, 1) := by decide +kernel
theorem dX10_disagreement_49 : decode cX10_disagreement 49 = .ok (.getfield 7, 3) := by decide +kernel
theorem dX10_disagreement_52 : decode cX10_disagreement 52 = .ok (.iconst 1, 1) := by decide +kernel
theorem dX10_disagreement_53 : decode cX10_disagreement 53 = .ok (.iaload, 1) := by decide +kernel
theorem dX10_disagreement_54 : decode cX10_disagreement 54 = .ok (.if_icmp .ge 81, 3) := by decide +kernel
theorem dX10_disagreement_57 : decode cX10_disagreement 57 = .ok (.iconst 0, 1) := by decide +kernel
theorem dX10_disagreement_58 : decode cX10_disagreement 58 = .ok (.istore 5, 2) := by decide +kernel
theorem dX10_disagreement_60 : decode cX10_disagreement 60 = .ok (.iload 5, 2) := by decide +kernel
theorem dX10_disagreement_62 : decode cX10_disagreement 62 = .ok (.iload 4, 2) := by decide +kernel
theorem dX10_disagreement_64 : decode cX10_disagreement 64 = .ok (.if_icmp .ge 65, 3) := by decide +kernel
theorem dX10_disagreement_67 : decode cX10_disagreement 67 = .ok (.aload_n 0, 1) := by decide +kernel
theorem dX10_disagreement_68 : decode cX10_disagreement 68 = .ok (.iload 4, 2) := by decide +kernel
theorem dX10_disagreement_70 : decode cX10_disagreement 70 = .ok (.iload_n 1, 1) := by decide +kernel
theorem dX10_disagreement_71 : decode cX10_disagreement 71 = .ok (.invokevirtual 240, 3) := by decide +kernel
theorem dX10_disagreement_74 : decode cX10_disagreement 74 = .ok (.ifCond .eq 49, 3) := by decide +kernel
theorem dX10_disagreement_77 : decode cX10_disagreement 77 = .ok (.aload_n 0, 1) := by decide +kernel
theorem dX10_disagreement_78 : decode cX10_disagreement 78 = .ok (.iload 5, 2) := by decide +kernel
theorem dX10_disagreement_80 : decode cX10_disagreement 80 = .ok (.iload_n 1, 1) := by decide +kernel
theorem dX10_disagreement_81 : decode cX10_disagreement 81 = .ok (.invokevirtual 240, 3) := by decide +kernel
theorem dX10_disagreement_84 : decode cX10_disagreement 84 = .ok (.ifCond .eq 39, 3) := by decide +kernel
theorem dX10_disagreement_87 : decode cX10_disagreement 87 = .ok (.aload_n 0, 1) := by decide +kernel
theorem dX10_disagreement_88 : decode cX10_disagreement 88 = .ok (.iload 4, 2) := by decide +kernel
theorem dX10_disagreement_90 : decode cX10_disagreement 90 = .ok (.iload_n 1, 1) := by decide +kernel
theorem dX10_disagreement_91 : decode cX10_disagreement 91 = .ok (.invokevirtual 159, 3) := by decide +kernel
theorem dX10_disagreement_94 : decode cX10_disagreement 94 = .ok (.aload_n 0, 1) := by decide +kernel
theorem dX10_disagreement_95 : decode cX10_disagreement 95 = .ok (.iload 5, 2) := by decide +kernel
theorem dX10_disagreement_97 : decode cX10_disagreement 97 = .ok (.iload_n 1, 1) := by decide +kernel
theorem dX10_disagreement_98 : decode cX10_disagreement 98 = .ok (.invokevirtual 159, 3) := by decide +kernel
theorem dX10_disagreement_101 : decode cX10_disagreement 101 = .ok (.isub, 1) := by decide +kernel
theorem dX10_disagreement_102 : decode cX10_disagreement 102 = .ok (.istore 6, 2) := by decide +kernel
theorem dX10_disagreement_104 : decode cX10_disagreement 104 = .ok (.iload_n 2, 1) := by decide +kernel
theorem dX10_disagreement_105 : decode cX10_disagreement 105 = .ok (.iload 6, 2) := by decide +kernel
theorem dX10_disagreement_107 : decode cX10_disagreement 107 = .ok (.ifCond .ge 9, 3) := by decide +kernel
theorem dX10_disagreement_110 : decode cX10_disagreement 110 = .ok (.iload 6, 2) := by decide +kernel
theorem dX10_disagreement_112 : decode cX10_disagreement 112 = .ok (.ineg, 1) := by decide +kernel
theorem dX10_disagreement_113 : decode cX10_disagreement 113 = .ok (.goto 5, 3) := by decide +kernel
theorem dX10_disagreement_116 : decode cX10_disagreement 116 = .ok (.iload 6, 2) := by decide +kernel
theorem dX10_disagreement_118 : decode cX10_disagreement 118 = .ok (.iadd, 1) := by decide +kernel
theorem dX10_disagreement_119 : decode cX10_disagreement 119 = .ok (.istore_n 2, 1) := by decide +kernel
theorem dX10_disagreement_120 : decode cX10_disagreement 120 = .ok (.iinc 3 1, 3) := by decide +kernel
theorem dX10_disagreement_123 : decode cX10_disagreement 123 = .ok (.iinc 5 1, 3) := by decide +kernel
theorem dX10_disagreement_126 : decode cX10_disagreement 126 = .ok (.goto (-66), 3) := by decide +kernel
theorem dX10_disagreement_129 : decode cX10_disagreement 129 = .ok (.iinc 4 1, 3) := by decide +kernel
theorem dX10_disagreement_132 : decode cX10_disagreement 132 = .ok (.goto (-86), 3) := by decide +kernel
theorem dX10_disagreement_135 : decode cX10_disagreement 135 = .ok (.iload_n 2, 1) := by decide +kernel
theorem dX10_disagreement_136 : decode cX10_disagreement 136 = .ok (.i2d, 1) := by decide +kernel
theorem dX10_disagreement_137 : decode cX10_disagreement 137 = .ok (.iload_n 3, 1) := by decide +kernel
theorem dX10_disagreement_138 : decode cX10_disagreement 138 = .ok (.i2d, 1) := by decide +kernel
theorem dX10_disagreement_139 : decode cX10_disagreement 139 = .ok (.ddiv, 1) := by decide +kernel
theorem dX10_disagreement_140 : decode cX10_disagreement 140 = .ok (.dreturn, 1) := by decide +kernel
theorem dX10_leastOf_0 : decode cX10_leastOf 0 = .ok (.bipush 101, 2) := by decide +kernel
theorem dX10_leastOf_2 : decode cX10_leastOf 2 = .ok (.istore_n 2, 1) := by decide +kernel
theorem dX10_leastOf_3 : decode cX10_leastOf 3 = .ok (.iconst 0, 1) := by decide +kernel
theorem dX10_leastOf_4 : decode cX10_leastOf 4 = .ok (.istore_n 3, 1) := by decide +kernel
theorem dX10_leastOf_5 : decode cX10_leastOf 5 = .ok (.iload_n 3, 1) := by decide +kernel
theorem dX10_leastOf_6 : decode cX10_leastOf 6 = .ok (.aload_n 0, 1) := by decide +kernel
theorem dX10_leastOf_7 : decode cX10_leastOf 7 = .ok (.getfield 7, 3) := by decide +kernel
theorem dX10_leastOf_10 : decode cX10_leastOf 10 = .ok (.iconst 1, 1) := by decide +kernel
theorem dX10_leastOf_11 : decode cX10_leastOf 11 = .ok (.iaload, 1) := by decide +kernel
theorem dX10_leastOf_12 : decode cX10_leastOf 12 = .ok (.if_icmp .ge 39, 3) := by decide +kernel
theorem dX10_leastOf_15 : decode cX10_leastOf 15 = .ok (.aload_n 0, 1) := by decide +kernel
theorem dX10_leastOf_16 : decode cX10_leastOf 16 = .ok (.iload_n 3, 1) := by decide +kernel
theorem dX10_leastOf_17 : decode cX10_leastOf 17 = .ok (.iload_n 1, 1) := by decide +kernel
theorem dX10_leastOf_18 : decode cX10_leastOf 18 = .ok (.invokevirtual 240, 3) := by decide +kernel
theorem dX10_leastOf_21 : decode cX10_leastOf 21 = .ok (.ifCond .eq 22, 3) := by decide +kernel
theorem dX10_leastOf_24 : decode cX10_leastOf 24 = .ok (.aload_n 0, 1) := by decide +kernel
theorem dX10_leastOf_25 : decode cX10_leastOf 25 = .ok (.iload_n 3, 1) := by decide +kernel
theorem dX10_leastOf_26 : decode cX10_leastOf 26 = .ok (.iload_n 1, 1) := by decide +kernel
theorem dX10_leastOf_27 : decode cX10_leastOf 27 = .ok (.invokevirtual 159, 3) := by decide +kernel
theorem dX10_leastOf_30 : decode cX10_leastOf 30 = .ok (.iload_n 2, 1) := by decide +kernel
theorem dX10_leastOf_31 : decode cX10_leastOf 31 = .ok (.if_icmp .ge 12, 3) := by decide +kernel
theorem dX10_leastOf_34 : decode cX10_leastOf 34 = .ok (.aload_n 0, 1) := by decide +kernel
theorem dX10_leastOf_35 : decode cX10_leastOf 35 = .ok (.iload_n 3, 1) := by decide +kernel
theorem dX10_leastOf_36 : decode cX10_leastOf 36 = .ok (.iload_n 1, 1) := by decide +kernel
theorem dX10_leastOf_37 : decode cX10_leastOf 37 = .ok (.invokevirtual 159, 3) := by decide +kernel
theorem dX10_leastOf_40 : decode cX10_leastOf 40 = .ok (.goto 4, 3) := by decide +kernel
theorem dX10_leastOf_43 : decode cX10_leastOf 43 = .ok (.iload_n 2, 1) := by decide +kernel
theorem dX10_leastOf_44 : decode cX10_leastOf 44 = .ok (.istore_n 2, 1) := by decide +kernel
theorem dX10_leastOf_45 : decode cX10_leastOf 45 = .ok (.iinc 3 1, 3) := by decide +kernel
theorem dX10_leastOf_48 : decode cX10_leastOf 48 = .ok (.goto (-43), 3) := by decide +kernel
theorem dX10_leastOf_51 : decode cX10_leastOf 51 = .ok (.iload_n 2, 1) := by decide +kernel
theorem dX10_leastOf_52 : decode cX10_leastOf 52 = .ok (.ireturn, 1) := by decide +kernel
theorem dX10_highOf_0 : decode cX10_highOf 0 = .ok (.iconst 0, 1) := by decide +kernel
theorem dX10_highOf_1 : decode cX10_highOf 1 = .ok (.istore_n 2, 1) := by decide +kernel
theorem dX10_highOf_2 : decode cX10_highOf 2 = .ok (.iconst 0, 1) := by decide +kernel
theorem dX10_highOf_3 : decode cX10_highOf 3 = .ok (.istore_n 3, 1) := by decide +kernel
theorem dX10_highOf_4 : decode cX10_highOf 4 = .ok (.iload_n 3, 1) := by decide +kernel
theorem dX10_highOf_5 : decode cX10_highOf 5 = .ok (.aload_n 0, 1) := by decide +kernel
theorem dX10_highOf_6 : decode cX10_highOf 6 = .ok (.getfield 7, 3) := by decide +kernel
theorem dX10_highOf_9 : decode cX10_highOf 9 = .ok (.iconst 1, 1) := by decide +kernel
theorem dX10_highOf_10 : decode cX10_highOf 10 = .ok (.iaload, 1) := by decide +kernel
theorem dX10_highOf_11 : decode cX10_highOf 11 = .ok (.if_icmp .ge 28, 3) := by decide +kernel
theorem dX10_highOf_14 : decode cX10_highOf 14 = .ok (.iload_n 2, 1) := by decide +kernel
theorem dX10_highOf_15 : decode cX10_highOf 15 = .ok (.aload_n 0, 1) := by decide +kernel
theorem dX10_highOf_16 : decode cX10_highOf 16 = .ok (.iload_n 3, 1) := by decide +kernel
theorem dX10_highOf_17 : decode cX10_highOf 17 = .ok (.iload_n 1, 1) := by decide +kernel
theorem dX10_highOf_18 : decode cX10_highOf 18 = .ok (.invokevirtual 159, 3) := by decide +kernel
theorem dX10_highOf_21 : decode cX10_highOf 21 = .ok (.bipush 80, 2) := by decide +kernel
theorem dX10_highOf_23 : decode cX10_highOf 23 = .ok (.if_icmp .lt 7, 3) := by decide +kernel
theorem dX10_highOf_26 : decode cX10_highOf 26 = .ok (.iconst 1, 1) := by decide +kernel
theorem dX10_highOf_27 : decode cX10_highOf 27 = .ok (.goto 4, 3) := by decide +kernel
theorem dX10_highOf_30 : decode cX10_highOf 30 = .ok (.iconst 0, 1) := by decide +kernel
theorem dX10_highOf_31 : decode cX10_highOf 31 = .ok (.iadd, 1) := by decide +kernel
theorem dX10_highOf_32 : decode cX10_highOf 32 = .ok (.istore_n 2, 1) := by decide +kernel
theorem dX10_highOf_33 : decode cX10_highOf 33 = .ok (.iinc 3 1, 3) := by decide +kernel
theorem dX10_highOf_36 : decode cX10_highOf 36 = .ok (.goto (-32), 3) := by decide +kernel
theorem dX10_highOf_39 : decode cX10_highOf 39 = .ok (.iload_n 2, 1) := by decide +kernel
theorem dX10_highOf_40 : decode cX10_highOf 40 = .ok (.ireturn, 1) := by decide +kernel
theorem dX10_ahead_0 : decode cX10_ahead 0 = .ok (.iload_n 3, 1) := by decide +kernel
theorem dX10_ahead_1 : decode cX10_ahead 1 = .ok (.tableswitch 81 0 3 #[31, 43, 55, 67], 31) := by decide +kernel
theorem dX10_ahead_32 : decode cX10_ahead 32 = .ok (.aload_n 0, 1) := by decide +kernel
theorem dX10_ahead_33 : decode cX10_ahead 33 = .ok (.iload_n 1, 1) := by decide +kernel
theorem dX10_ahead_34 : decode cX10_ahead 34 = .ok (.invokevirtual 249, 3) := by decide +kernel
theorem dX10_ahead_37 : decode cX10_ahead 37 = .ok (.aload_n 0, 1) := by decide +kernel
theorem dX10_ahead_38 : decode cX10_ahead 38 = .ok (.iload_n 2, 1) := by decide +kernel
theorem dX10_ahead_39 : decode cX10_ahead 39 = .ok (.invokevirtual 249, 3) := by decide +kernel
theorem dX10_ahead_42 : decode cX10_ahead 42 = .ok (.isub, 1) := by decide +kernel
theorem dX10_ahead_43 : decode cX10_ahead 43 = .ok (.ireturn, 1) := by decide +kernel
theorem dX10_ahead_44 : decode cX10_ahead 44 = .ok (.aload_n 0, 1) := by decide +kernel
theorem dX10_ahead_45 : decode cX10_ahead 45 = .ok (.iload_n 1, 1) := by decide +kernel
theorem dX10_ahead_46 : decode cX10_ahead 46 = .ok (.invokevirtual 252, 3) := by decide +kernel
theorem dX10_ahead_49 : decode cX10_ahead 49 = .ok (.aload_n 0, 1) := by decide +kernel
theorem dX10_ahead_50 : decode cX10_ahead 50 = .ok (.iload_n 2, 1) := by decide +kernel
theorem dX10_ahead_51 : decode cX10_ahead 51 = .ok (.invokevirtual 252, 3) := by decide +kernel
theorem dX10_ahead_54 : decode cX10_ahead 54 = .ok (.isub, 1) := by decide +kernel
theorem dX10_ahead_55 : decode cX10_ahead 55 = .ok (.ireturn, 1) := by decide +kernel
theorem dX10_ahead_56 : decode cX10_ahead 56 = .ok (.aload_n 0, 1) := by decide +kernel
theorem dX10_ahead_57 : decode cX10_ahead 57 = .ok (.iload_n 1, 1) := by decide +kernel
theorem dX10_ahead_58 : decode cX10_ahead 58 = .ok (.invokevirtual 255, 3) := by decide +kernel
theorem dX10_ahead_61 : decode cX10_ahead 61 = .ok (.aload_n 0, 1) := by decide +kernel
theorem dX10_ahead_62 : decode cX10_ahead 62 = .ok (.iload_n 2, 1) := by decide +kernel
theorem dX10_ahead_63 : decode cX10_ahead 63 = .ok (.invokevirtual 255, 3) := by decide +kernel
theorem dX10_ahead_66 : decode cX10_ahead 66 = .ok (.isub, 1) := by decide +kernel
theorem dX10_ahead_67 : decode cX10_ahead 67 = .ok (.ireturn, 1) := by decide +kernel
theorem dX10_ahead_68 : decode cX10_ahead 68 = .ok (.aload_n 0, 1) := by decide +kernel
theorem dX10_ahead_69 : decode cX10_ahead 69 = .ok (.iload_n 2, 1) := by decide +kernel
theorem dX10_ahead_70 : decode cX10_ahead 70 = .ok (.iconst 3, 1) := by decide +kernel
theorem dX10_ahead_71 : decode cX10_ahead 71 = .ok (.invokevirtual 165, 3) := by decide +kernel
theorem dX10_ahead_74 : decode cX10_ahead 74 = .ok (.aload_n 0, 1) := by decide +kernel
theorem dX10_ahead_75 : decode cX10_ahead 75 = .ok (.iload_n 1, 1) := by decide +kernel
theorem dX10_ahead_76 : decode cX10_ahead 76 = .ok (.iconst 3, 1) := by decide +kernel
theorem dX10_ahead_77 : decode cX10_ahead 77 = .ok (.invokevirtual 165, 3) := by decide +kernel
theorem dX10_ahead_80 : decode cX10_ahead 80 = .ok (.isub, 1) := by decide +kernel
theorem dX10_ahead_81 : decode cX10_ahead 81 = .ok (.ireturn, 1) := by decide +kernel
theorem dX10_ahead_82 : decode cX10_ahead 82 = .ok (.iload_n 2, 1) := by decide +kernel
theorem dX10_ahead_83 : decode cX10_ahead 83 = .ok (.iload_n 1, 1) := by decide +kernel
theorem dX10_ahead_84 : decode cX10_ahead 84 = .ok (.isub, 1) := by decide +kernel
theorem dX10_ahead_85 : decode cX10_ahead 85 = .ok (.ireturn, 1) := by decide +kernel
theorem dX10_roundOf_0 : decode cX10_roundOf 0 = .ok (.iconst 0, 1) := by decide +kernel
theorem dX10_roundOf_1 : decode cX10_roundOf 1 = .ok (.istore_n 3, 1) := by decide +kernel
theorem dX10_roundOf_2 : decode cX10_roundOf 2 = .ok (.aload_n 0, 1) := by decide +kernel
theorem dX10_roundOf_3 : decode cX10_roundOf 3 = .ok (.iload_n 1, 1) := by decide +kernel
theorem dX10_roundOf_4 : decode cX10_roundOf 4 = .ok (.iload_n 2, 1) := by decide +kernel
theorem dX10_roundOf_5 : decode cX10_roundOf 5 = .ok (.iload_n 3, 1) := by decide +kernel
theorem dX10_roundOf_6 : decode cX10_roundOf 6 = .ok (.invokevirtual 258, 3) := by decide +kernel
theorem dX10_roundOf_9 : decode cX10_roundOf 9 = .ok (.ifCond .ne 9, 3) := by decide +kernel
theorem dX10_roundOf_12 : decode cX10_roundOf 12 = .ok (.iinc 3 1, 3) := by decide +kernel
theorem dX10_roundOf_15 : decode cX10_roundOf 15 = .ok (.goto (-13), 3) := by decide +kernel
theorem dX10_roundOf_18 : decode cX10_roundOf 18 = .ok (.iload_n 3, 1) := by decide +kernel
theorem dX10_roundOf_19 : decode cX10_roundOf 19 = .ok (.ireturn, 1) := by decide +kernel
theorem dX10_isRanked_0 : decode cX10_isRanked 0 = .ok (.aload_n 0, 1) := by decide +kernel
theorem dX10_isRanked_1 : decode cX10_isRanked 1 = .ok (.iload_n 1, 1) := by decide +kernel
theorem dX10_isRanked_2 : decode cX10_isRanked 2 = .ok (.invokevirtual 246, 3) := by decide +kernel
theorem dX10_isRanked_5 : decode cX10_isRanked 5 = .ok (.ifCond .le 7, 3) := by decide +kernel
theorem dX10_isRanked_8 : decode cX10_isRanked 8 = .ok (.iconst 1, 1) := by decide +kernel
theorem dX10_isRanked_9 : decode cX10_isRanked 9 = .ok (.goto 4, 3) := by decide +kernel
theorem dX10_isRanked_12 : decode cX10_isRanked 12 = .ok (.iconst 0, 1) := by decide +kernel
theorem dX10_isRanked_13 : decode cX10_isRanked 13 = .ok (.ireturn, 1) := by decide +kernel
theorem dX10_rankIn_0 : decode cX10_rankIn 0 = .ok (.iconst 0, 1) := by decide +kernel
theorem dX10_rankIn_1 : decode cX10_rankIn 1 = .ok (.istore_n 3, 1) := by decide +kernel
theorem dX10_rankIn_2 : decode cX10_rankIn 2 = .ok (.iconst 0, 1) := by decide +kernel
theorem dX10_rankIn_3 : decode cX10_rankIn 3 = .ok (.istore 4, 2) := by decide +kernel
theorem dX10_rankIn_5 : decode cX10_rankIn 5 = .ok (.iload 4, 2) := by decide +kernel
theorem dX10_rankIn_7 : decode cX10_rankIn 7 = .ok (.aload_n 0, 1) := by decide +kernel
theorem dX10_rankIn_8 : decode cX10_rankIn 8 = .ok (.getfield 7, 3) := by decide +kernel
theorem dX10_rankIn_11 : decode cX10_rankIn 11 = .ok (.iconst 2, 1) := by decide +kernel
theorem dX10_rankIn_12 : decode cX10_rankIn 12 = .ok (.iaload, 1) := by decide +kernel
theorem dX10_rankIn_13 : decode cX10_rankIn 13 = .ok (.if_icmp .ge 77, 3) := by decide +kernel
theorem dX10_rankIn_16 : decode cX10_rankIn 16 = .ok (.iload 4, 2) := by decide +kernel
theorem dX10_rankIn_18 : decode cX10_rankIn 18 = .ok (.iload_n 2, 1) := by decide +kernel
theorem dX10_rankIn_19 : decode cX10_rankIn 19 = .ok (.if_icmp .eq 32, 3) := by decide +kernel
theorem dX10_rankIn_22 : decode cX10_rankIn 22 = .ok (.aload_n 0, 1) := by decide +kernel
theorem dX10_rankIn_23 : decode cX10_rankIn 23 = .ok (.iload 4, 2) := by decide +kernel
theorem dX10_rankIn_25 : decode cX10_rankIn 25 = .ok (.invokevirtual 262, 3) := by decide +kernel
theorem dX10_rankIn_28 : decode cX10_rankIn 28 = .ok (.ifCond .eq 23, 3) := by decide +kernel
theorem dX10_rankIn_31 : decode cX10_rankIn 31 = .ok (.iload_n 1, 1) := by decide +kernel
theorem dX10_rankIn_32 : decode cX10_rankIn 32 = .ok (.iconst (-1), 1) := by decide +kernel
theorem dX10_rankIn_33 : decode cX10_rankIn 33 = .ok (.if_icmp .eq 14, 3) := by decide +kernel
theorem dX10_rankIn_36 : decode cX10_rankIn 36 = .ok (.aload_n 0, 1) := by decide +kernel
theorem dX10_rankIn_37 : decode cX10_rankIn 37 = .ok (.iload 4, 2) := by decide +kernel
theorem dX10_rankIn_39 : decode cX10_rankIn 39 = .ok (.iconst 0, 1) := by decide +kernel
theorem dX10_rankIn_40 : decode cX10_rankIn 40 = .ok (.invokevirtual 165, 3) := by decide +kernel
theorem dX10_rankIn_43 : decode cX10_rankIn 43 = .ok (.iload_n 1, 1) := by decide +kernel
theorem dX10_rankIn_44 : decode cX10_rankIn 44 = .ok (.if_icmp .ne 7, 3) := by decide +kernel
theorem dX10_rankIn_47 : decode cX10_rankIn 47 = .ok (.iconst 1, 1) := by decide +kernel
theorem dX10_rankIn_48 : decode cX10_rankIn 48 = .ok (.goto 4, 3) := by decide +kernel
theorem dX10_rankIn_51 : decode cX10_rankIn 51 = .ok (.iconst 0, 1) := by decide +kernel
theorem dX10_rankIn_52 : decode cX10_rankIn 52 = .ok (.istore 5, 2) := by decide +kernel
theorem dX10_rankIn_54 : decode cX10_rankIn 54 = .ok (.iload_n 3, 1) := by decide +kernel
theorem dX10_rankIn_55 : decode cX10_rankIn 55 = .ok (.iload 5, 2) := by decide +kernel
theorem dX10_rankIn_57 : decode cX10_rankIn 57 = .ok (.ifCond .eq 24, 3) := by decide +kernel
theorem dX10_rankIn_60 : decode cX10_rankIn 60 = .ok (.aload_n 0, 1) := by decide +kernel
theorem dX10_rankIn_61 : decode cX10_rankIn 61 = .ok (.iload 4, 2) := by decide +kernel
theorem dX10_rankIn_63 : decode cX10_rankIn 63 = .ok (.iload_n 2, 1) := by decide +kernel
theorem dX10_rankIn_64 : decode cX10_rankIn 64 = .ok (.aload_n 0, 1) := by decide +kernel
theorem dX10_rankIn_65 : decode cX10_rankIn 65 = .ok (.iload 4, 2) := by decide +kernel
theorem dX10_rankIn_67 : decode cX10_rankIn 67 = .ok (.iload_n 2, 1) := by decide +kernel
theorem dX10_rankIn_68 : decode cX10_rankIn 68 = .ok (.invokevirtual 265, 3) := by decide +kernel
theorem dX10_rankIn_71 : decode cX10_rankIn 71 = .ok (.invokevirtual 258, 3) := by decide +kernel
theorem dX10_rankIn_74 : decode cX10_rankIn 74 = .ok (.ifCond .le 7, 3) := by decide +kernel
theorem dX10_rankIn_77 : decode cX10_rankIn 77 = .ok (.iconst 1, 1) := by decide +kernel
theorem dX10_rankIn_78 : decode cX10_rankIn 78 = .ok (.goto 4, 3) := by decide +kernel
theorem dX10_rankIn_81 : decode cX10_rankIn 81 = .ok (.iconst 0, 1) := by decide +kernel
theorem dX10_rankIn_82 : decode cX10_rankIn 82 = .ok (.iadd, 1) := by decide +kernel
theorem dX10_rankIn_83 : decode cX10_rankIn 83 = .ok (.istore_n 3, 1) := by decide +kernel
theorem dX10_rankIn_84 : decode cX10_rankIn 84 = .ok (.iinc 4 1, 3) := by decide +kernel
theorem dX10_rankIn_87 : decode cX10_rankIn 87 = .ok (.goto (-82), 3) := by decide +kernel
theorem dX10_rankIn_90 : decode cX10_rankIn 90 = .ok (.iload_n 3, 1) := by decide +kernel
theorem dX10_rankIn_91 : decode cX10_rankIn 91 = .ok (.ireturn, 1) := by decide +kernel
theorem dX10_rank_0 : decode cX10_rank 0 = .ok (.aload_n 0, 1) := by decide +kernel
theorem dX10_rank_1 : decode cX10_rank 1 = .ok (.aload_n 0, 1) := by decide +kernel
theorem dX10_rank_2 : decode cX10_rank 2 = .ok (.iload_n 1, 1) := by decide +kernel
theorem dX10_rank_3 : decode cX10_rank 3 = .ok (.invokevirtual 181, 3) := by decide +kernel
theorem dX10_rank_6 : decode cX10_rank 6 = .ok (.ifCond .ne 7, 3) := by decide +kernel
theorem dX10_rank_9 : decode cX10_rank 9 = .ok (.iconst 1, 1) := by decide +kernel
theorem dX10_rank_10 : decode cX10_rank 10 = .ok (.goto 16, 3) := by decide +kernel
theorem dX10_rank_13 : decode cX10_rank 13 = .ok (.aload_n 0, 1) := by decide +kernel
theorem dX10_rank_14 : decode cX10_rank 14 = .ok (.iload_n 1, 1) := by decide +kernel
theorem dX10_rank_15 : decode cX10_rank 15 = .ok (.invokevirtual 262, 3) := by decide +kernel
theorem dX10_rank_18 : decode cX10_rank 18 = .ok (.ifCond .eq 7, 3) := by decide +kernel
theorem dX10_rank_21 : decode cX10_rank 21 = .ok (.iconst 0, 1) := by decide +kernel
theorem dX10_rank_22 : decode cX10_rank 22 = .ok (.goto 4, 3) := by decide +kernel
theorem dX10_rank_25 : decode cX10_rank 25 = .ok (.iconst 2, 1) := by decide +kernel
theorem dX10_rank_26 : decode cX10_rank 26 = .ok (.putfield 50, 3) := by decide +kernel
theorem dX10_rank_29 : decode cX10_rank 29 = .ok (.aload_n 0, 1) := by decide +kernel
theorem dX10_rank_30 : decode cX10_rank 30 = .ok (.getfield 50, 3) := by decide +kernel
theorem dX10_rank_33 : decode cX10_rank 33 = .ok (.ifCond .le 7, 3) := by decide +kernel
theorem dX10_rank_36 : decode cX10_rank 36 = .ok (.iconst 0, 1) := by decide +kernel
theorem dX10_rank_37 : decode cX10_rank 37 = .ok (.goto 14, 3) := by decide +kernel
theorem dX10_rank_40 : decode cX10_rank 40 = .ok (.aload_n 0, 1) := by decide +kernel
theorem dX10_rank_41 : decode cX10_rank 41 = .ok (.aload_n 0, 1) := by decide +kernel
theorem dX10_rank_42 : decode cX10_rank 42 = .ok (.iload_n 1, 1) := by decide +kernel
theorem dX10_rank_43 : decode cX10_rank 43 = .ok (.iconst 0, 1) := by decide +kernel
theorem dX10_rank_44 : decode cX10_rank 44 = .ok (.invokevirtual 165, 3) := by decide +kernel
theorem dX10_rank_47 : decode cX10_rank 47 = .ok (.iload_n 1, 1) := by decide +kernel
theorem dX10_rank_48 : decode cX10_rank 48 = .ok (.invokevirtual 268, 3) := by decide +kernel
theorem dX10_rank_51 : decode cX10_rank 51 = .ok (.ireturn, 1) := by decide +kernel
theorem dX10_rankedIn_0 : decode cX10_rankedIn 0 = .ok (.iconst 0, 1) := by decide +kernel
theorem dX10_rankedIn_1 : decode cX10_rankedIn 1 = .ok (.istore_n 3, 1) := by decide +kernel
theorem dX10_rankedIn_2 : decode cX10_rankedIn 2 = .ok (.iload_n 3, 1) := by decide +kernel
theorem dX10_rankedIn_3 : decode cX10_rankedIn 3 = .ok (.aload_n 0, 1) := by decide +kernel
theorem dX10_rankedIn_4 : decode cX10_rankedIn 4 = .ok (.getfield 7, 3) := by decide +kernel
theorem dX10_rankedIn_7 : decode cX10_rankedIn 7 = .ok (.iconst 2, 1) := by decide +kernel
theorem dX10_rankedIn_8 : decode cX10_rankedIn 8 = .ok (.iaload, 1) := by decide +kernel
theorem dX10_rankedIn_9 : decode cX10_rankedIn 9 = .ok (.if_icmp .ge 56, 3) := by decide +kernel
theorem dX10_rankedIn_12 : decode cX10_rankedIn 12 = .ok (.aload_n 0, 1) := by decide +kernel
theorem dX10_rankedIn_13 : decode cX10_rankedIn 13 = .ok (.iload_n 3, 1) := by decide +kernel
theorem dX10_rankedIn_14 : decode cX10_rankedIn 14 = .ok (.invokevirtual 262, 3) := by decide +kernel
theorem dX10_rankedIn_17 : decode cX10_rankedIn 17 = .ok (.ifCond .eq 22, 3) := by decide +kernel
theorem dX10_rankedIn_20 : decode cX10_rankedIn 20 = .ok (.iload_n 1, 1) := by decide +kernel
theorem dX10_rankedIn_21 : decode cX10_rankedIn 21 = .ok (.iconst (-1), 1) := by decide +kernel
theorem dX10_rankedIn_22 : decode cX10_rankedIn 22 = .ok (.if_icmp .eq 13, 3) := by decide +kernel
theorem dX10_rankedIn_25 : decode cX10_rankedIn 25 = .ok (.aload_n 0, 1) := by decide +kernel
theorem dX10_rankedIn_26 : decode cX10_rankedIn 26 = .ok (.iload_n 3, 1) := by decide +kernel
theorem dX10_rankedIn_27 : decode cX10_rankedIn 27 = .ok (.iconst 0, 1) := by decide +kernel
theorem dX10_rankedIn_28 : decode cX10_rankedIn 28 = .ok (.invokevirtual 165, 3) := by decide +kernel
theorem dX10_rankedIn_31 : decode cX10_rankedIn 31 = .ok (.iload_n 1, 1) := by decide +kernel
theorem dX10_rankedIn_32 : decode cX10_rankedIn 32 = .ok (.if_icmp .ne 7, 3) := by decide +kernel
theorem dX10_rankedIn_35 : decode cX10_rankedIn 35 = .ok (.iconst 1, 1) := by decide +kernel
theorem dX10_rankedIn_36 : decode cX10_rankedIn 36 = .ok (.goto 4, 3) := by decide +kernel
theorem dX10_rankedIn_39 : decode cX10_rankedIn 39 = .ok (.iconst 0, 1) := by decide +kernel
theorem dX10_rankedIn_40 : decode cX10_rankedIn 40 = .ok (.istore 4, 2) := by decide +kernel
theorem dX10_rankedIn_42 : decode cX10_rankedIn 42 = .ok (.iload 4, 2) := by decide +kernel
theorem dX10_rankedIn_44 : decode cX10_rankedIn 44 = .ok (.ifCond .eq 15, 3) := by decide +kernel
theorem dX10_rankedIn_47 : decode cX10_rankedIn 47 = .ok (.aload_n 0, 1) := by decide +kernel
theorem dX10_rankedIn_48 : decode cX10_rankedIn 48 = .ok (.iload_n 1, 1) := by decide +kernel
theorem dX10_rankedIn_49 : decode cX10_rankedIn 49 = .ok (.iload_n 3, 1) := by decide +kernel
theorem dX10_rankedIn_50 : decode cX10_rankedIn 50 = .ok (.invokevirtual 268, 3) := by decide +kernel
theorem dX10_rankedIn_53 : decode cX10_rankedIn 53 = .ok (.iload_n 2, 1) := by decide +kernel
theorem dX10_rankedIn_54 : decode cX10_rankedIn 54 = .ok (.if_icmp .ne 5, 3) := by decide +kernel
theorem dX10_rankedIn_57 : decode cX10_rankedIn 57 = .ok (.iload_n 3, 1) := by decide +kernel
theorem dX10_rankedIn_58 : decode cX10_rankedIn 58 = .ok (.ireturn, 1) := by decide +kernel
theorem dX10_rankedIn_59 : decode cX10_rankedIn 59 = .ok (.iinc 3 1, 3) := by decide +kernel
theorem dX10_rankedIn_62 : decode cX10_rankedIn 62 = .ok (.goto (-60), 3) := by decide +kernel
theorem dX10_rankedIn_65 : decode cX10_rankedIn 65 = .ok (.iconst (-1), 1) := by decide +kernel
theorem dX10_rankedIn_66 : decode cX10_rankedIn 66 = .ok (.ireturn, 1) := by decide +kernel
theorem dX10_ranked_0 : decode cX10_ranked 0 = .ok (.aload_n 0, 1) := by decide +kernel
theorem dX10_ranked_1 : decode cX10_ranked 1 = .ok (.iload_n 1, 1) := by decide +kernel
theorem dX10_ranked_2 : decode cX10_ranked 2 = .ok (.iconst (-1), 1) := by decide +kernel
theorem dX10_ranked_3 : decode cX10_ranked 3 = .ok (.if_icmp .eq 15, 3) := by decide +kernel
theorem dX10_ranked_6 : decode cX10_ranked 6 = .ok (.aload_n 0, 1) := by decide +kernel
theorem dX10_ranked_7 : decode cX10_ranked 7 = .ok (.iload_n 1, 1) := by decide +kernel
theorem dX10_ranked_8 : decode cX10_ranked 8 = .ok (.invokevirtual 205, 3) := by decide +kernel
theorem dX10_ranked_11 : decode cX10_ranked 11 = .ok (.ifCond .ne 7, 3) := by decide +kernel
theorem dX10_ranked_14 : decode cX10_ranked 14 = .ok (.iconst 1, 1) := by decide +kernel
theorem dX10_ranked_15 : decode cX10_ranked 15 = .ok (.goto 4, 3) := by decide +kernel
theorem dX10_ranked_18 : decode cX10_ranked 18 = .ok (.iconst 0, 1) := by decide +kernel
theorem dX10_ranked_19 : decode cX10_ranked 19 = .ok (.putfield 50, 3) := by decide +kernel
theorem dX10_ranked_22 : decode cX10_ranked 22 = .ok (.aload_n 0, 1) := by decide +kernel
theorem dX10_ranked_23 : decode cX10_ranked 23 = .ok (.getfield 50, 3) := by decide +kernel
theorem dX10_ranked_26 : decode cX10_ranked 26 = .ok (.ifCond .le 7, 3) := by decide +kernel
theorem dX10_ranked_29 : decode cX10_ranked 29 = .ok (.iconst 0, 1) := by decide +kernel
theorem dX10_ranked_30 : decode cX10_ranked 30 = .ok (.goto 9, 3) := by decide +kernel
theorem dX10_ranked_33 : decode cX10_ranked 33 = .ok (.aload_n 0, 1) := by decide +kernel
theorem dX10_ranked_34 : decode cX10_ranked 34 = .ok (.iload_n 1, 1) := by decide +kernel
theorem dX10_ranked_35 : decode cX10_ranked 35 = .ok (.iload_n 2, 1) := by decide +kernel
theorem dX10_ranked_36 : decode cX10_ranked 36 = .ok (.invokevirtual 271, 3) := by decide +kernel
theorem dX10_ranked_39 : decode cX10_ranked 39 = .ok (.istore_n 3, 1) := by decide +kernel
theorem dX10_ranked_40 : decode cX10_ranked 40 = .ok (.iload_n 3, 1) := by decide +kernel
theorem dX10_ranked_41 : decode cX10_ranked 41 = .ok (.iconst (-1), 1) := by decide +kernel
theorem dX10_ranked_42 : decode cX10_ranked 42 = .ok (.if_icmp .ne 11, 3) := by decide +kernel
theorem dX10_ranked_45 : decode cX10_ranked 45 = .ok (.aload_n 0, 1) := by decide +kernel
theorem dX10_ranked_46 : decode cX10_ranked 46 = .ok (.iconst 1, 1) := by decide +kernel
theorem dX10_ranked_47 : decode cX10_ranked 47 = .ok (.invokevirtual 60, 3) := by decide +kernel
theorem dX10_ranked_50 : decode cX10_ranked 50 = .ok (.goto 4, 3) := by decide +kernel
theorem dX10_ranked_53 : decode cX10_ranked 53 = .ok (.iload_n 3, 1) := by decide +kernel
theorem dX10_ranked_54 : decode cX10_ranked 54 = .ok (.ireturn, 1) := by decide +kernel
theorem dX10_tieRound_0 : decode cX10_tieRound 0 = .ok (.aload_n 0, 1) := by decide +kernel
theorem dX10_tieRound_1 : decode cX10_tieRound 1 = .ok (.aload_n 0, 1) := by decide +kernel
theorem dX10_tieRound_2 : decode cX10_tieRound 2 = .ok (.iload_n 1, 1) := by decide +kernel
theorem dX10_tieRound_3 : decode cX10_tieRound 3 = .ok (.invokevirtual 181, 3) := by decide +kernel
theorem dX10_tieRound_6 : decode cX10_tieRound 6 = .ok (.ifCond .eq 11, 3) := by decide +kernel
theorem dX10_tieRound_9 : decode cX10_tieRound 9 = .ok (.aload_n 0, 1) := by decide +kernel
theorem dX10_tieRound_10 : decode cX10_tieRound 10 = .ok (.iload_n 2, 1) := by decide +kernel
theorem dX10_tieRound_11 : decode cX10_tieRound 11 = .ok (.invokevirtual 181, 3) := by decide +kernel
theorem dX10_tieRound_14 : decode cX10_tieRound 14 = .ok (.ifCond .ne 7, 3) := by decide +kernel
theorem dX10_tieRound_17 : decode cX10_tieRound 17 = .ok (.iconst 1, 1) := by decide +kernel
theorem dX10_tieRound_18 : decode cX10_tieRound 18 = .ok (.goto 33, 3) := by decide +kernel
theorem dX10_tieRound_21 : decode cX10_tieRound 21 = .ok (.iload_n 1, 1) := by decide +kernel
theorem dX10_tieRound_22 : decode cX10_tieRound 22 = .ok (.iload_n 2, 1) := by decide +kernel
theorem dX10_tieRound_23 : decode cX10_tieRound 23 = .ok (.if_icmp .ne 7, 3) := by decide +kernel
theorem dX10_tieRound_26 : decode cX10_tieRound 26 = .ok (.iconst 2, 1) := by decide +kernel
theorem dX10_tieRound_27 : decode cX10_tieRound 27 = .ok (.goto 24, 3) := by decide +kernel
theorem dX10_tieRound_30 : decode cX10_tieRound 30 = .ok (.aload_n 0, 1) := by decide +kernel
theorem dX10_tieRound_31 : decode cX10_tieRound 31 = .ok (.iload_n 1, 1) := by decide +kernel
theorem dX10_tieRound_32 : decode cX10_tieRound 32 = .ok (.invokevirtual 262, 3) := by decide +kernel
theorem dX10_tieRound_35 : decode cX10_tieRound 35 = .ok (.ifCond .eq 15, 3) := by decide +kernel
theorem dX10_tieRound_38 : decode cX10_tieRound 38 = .ok (.aload_n 0, 1) := by decide +kernel
theorem dX10_tieRound_39 : decode cX10_tieRound 39 = .ok (.iload_n 2, 1) := by decide +kernel
theorem dX10_tieRound_40 : decode cX10_tieRound 40 = .ok (.invokevirtual 262, 3) := by decide +kernel
theorem dX10_tieRound_43 : decode cX10_tieRound 43 = .ok (.ifCond .eq 7, 3) := by decide +kernel
theorem dX10_tieRound_46 : decode cX10_tieRound 46 = .ok (.iconst 0, 1) := by decide +kernel
theorem dX10_tieRound_47 : decode cX10_tieRound 47 = .ok (.goto 4, 3) := by decide +kernel
theorem dX10_tieRound_50 : decode cX10_tieRound 50 = .ok (.iconst 3, 1) := by decide +kernel
theorem dX10_tieRound_51 : decode cX10_tieRound 51 = .ok (.putfield 50, 3) := by decide +kernel
theorem dX10_tieRound_54 : decode cX10_tieRound 54 = .ok (.aload_n 0, 1) := by decide +kernel
theorem dX10_tieRound_55 : decode cX10_tieRound 55 = .ok (.getfield 50, 3) := by decide +kernel
theorem dX10_tieRound_58 : decode cX10_tieRound 58 = .ok (.ifCond .le 7, 3) := by decide +kernel
theorem dX10_tieRound_61 : decode cX10_tieRound 61 = .ok (.iconst 0, 1) := by decide +kernel
theorem dX10_tieRound_62 : decode cX10_tieRound 62 = .ok (.goto 9, 3) := by decide +kernel
theorem dX10_tieRound_65 : decode cX10_tieRound 65 = .ok (.aload_n 0, 1) := by decide +kernel
theorem dX10_tieRound_66 : decode cX10_tieRound 66 = .ok (.iload_n 1, 1) := by decide +kernel
theorem dX10_tieRound_67 : decode cX10_tieRound 67 = .ok (.iload_n 2, 1) := by decide +kernel
theorem dX10_tieRound_68 : decode cX10_tieRound 68 = .ok (.invokevirtual 265, 3) := by decide +kernel
theorem dX10_tieRound_71 : decode cX10_tieRound 71 = .ok (.ireturn, 1) := by decide +kernel
theorem dX10_laysOrder_0 : decode cX10_laysOrder 0 = .ok (.aload_n 0, 1) := by decide +kernel
theorem dX10_laysOrder_1 : decode cX10_laysOrder 1 = .ok (.iconst 0, 1) := by decide +kernel
theorem dX10_laysOrder_2 : decode cX10_laysOrder 2 = .ok (.putfield 274, 3) := by decide +kernel
theorem dX10_laysOrder_5 : decode cX10_laysOrder 5 = .ok (.iconst 0, 1) := by decide +kernel
theorem dX10_laysOrder_6 : decode cX10_laysOrder 6 = .ok (.istore_n 1, 1) := by decide +kernel
theorem dX10_laysOrder_7 : decode cX10_laysOrder 7 = .ok (.iload_n 1, 1) := by decide +kernel
theorem dX10_laysOrder_8 : decode cX10_laysOrder 8 = .ok (.aload_n 0, 1) := by decide +kernel
theorem dX10_laysOrder_9 : decode cX10_laysOrder 9 = .ok (.getfield 7, 3) := by decide +kernel
theorem dX10_laysOrder_12 : decode cX10_laysOrder 12 = .ok (.iconst 2, 1) := by decide +kernel
theorem dX10_laysOrder_13 : decode cX10_laysOrder 13 = .ok (.iaload, 1) := by decide +kernel
theorem dX10_laysOrder_14 : decode cX10_laysOrder 14 = .ok (.if_icmp .ge 54, 3) := by decide +kernel
theorem dX10_laysOrder_17 : decode cX10_laysOrder 17 = .ok (.aload_n 0, 1) := by decide +kernel
theorem dX10_laysOrder_18 : decode cX10_laysOrder 18 = .ok (.getfield 41, 3) := by decide +kernel
theorem dX10_laysOrder_21 : decode cX10_laysOrder 21 = .ok (.iload_n 1, 1) := by decide +kernel
theorem dX10_laysOrder_22 : decode cX10_laysOrder 22 = .ok (.aload_n 0, 1) := by decide +kernel
theorem dX10_laysOrder_23 : decode cX10_laysOrder 23 = .ok (.iload_n 1, 1) := by decide +kernel
theorem dX10_laysOrder_24 : decode cX10_laysOrder 24 = .ok (.invokevirtual 262, 3) := by decide +kernel
theorem dX10_laysOrder_27 : decode cX10_laysOrder 27 = .ok (.ifCond .eq 11, 3) := by decide +kernel
theorem dX10_laysOrder_30 : decode cX10_laysOrder 30 = .ok (.aload_n 0, 1) := by decide +kernel
theorem dX10_laysOrder_31 : decode cX10_laysOrder 31 = .ok (.iload_n 1, 1) := by decide +kernel
theorem dX10_laysOrder_32 : decode cX10_laysOrder 32 = .ok (.invokevirtual 249, 3) := by decide +kernel
theorem dX10_laysOrder_35 : decode cX10_laysOrder 35 = .ok (.goto 4, 3) := by decide +kernel
theorem dX10_laysOrder_38 : decode cX10_laysOrder 38 = .ok (.iconst 0, 1) := by decide +kernel
theorem dX10_laysOrder_39 : decode cX10_laysOrder 39 = .ok (.iastore, 1) := by decide +kernel
theorem dX10_laysOrder_40 : decode cX10_laysOrder 40 = .ok (.aload_n 0, 1) := by decide +kernel
theorem dX10_laysOrder_41 : decode cX10_laysOrder 41 = .ok (.dup, 1) := by decide +kernel
theorem dX10_laysOrder_42 : decode cX10_laysOrder 42 = .ok (.getfield 274, 3) := by decide +kernel
theorem dX10_laysOrder_45 : decode cX10_laysOrder 45 = .ok (.aload_n 0, 1) := by decide +kernel
theorem dX10_laysOrder_46 : decode cX10_laysOrder 46 = .ok (.iload_n 1, 1) := by decide +kernel
theorem dX10_laysOrder_47 : decode cX10_laysOrder 47 = .ok (.invokevirtual 262, 3) := by decide +kernel
theorem dX10_laysOrder_50 : decode cX10_laysOrder 50 = .ok (.ifCond .eq 7, 3) := by decide +kernel
theorem dX10_laysOrder_53 : decode cX10_laysOrder 53 = .ok (.iconst 1, 1) := by decide +kernel
theorem dX10_laysOrder_54 : decode cX10_laysOrder 54 = .ok (.goto 4, 3) := by decide +kernel
theorem dX10_laysOrder_57 : decode cX10_laysOrder 57 = .ok (.iconst 0, 1) := by decide +kernel
theorem dX10_laysOrder_58 : decode cX10_laysOrder 58 = .ok (.iadd, 1) := by decide +kernel
theorem dX10_laysOrder_59 : decode cX10_laysOrder 59 = .ok (.putfield 274, 3) := by decide +kernel
theorem dX10_laysOrder_62 : decode cX10_laysOrder 62 = .ok (.iinc 1 1, 3) := by decide +kernel
theorem dX10_laysOrder_65 : decode cX10_laysOrder 65 = .ok (.goto (-58), 3) := by decide +kernel
theorem dX10_laysOrder_68 : decode cX10_laysOrder 68 = .ok (.iconst 0, 1) := by decide +kernel
theorem dX10_laysOrder_69 : decode cX10_laysOrder 69 = .ok (.istore_n 1, 1) := by decide +kernel
theorem dX10_laysOrder_70 : decode cX10_laysOrder 70 = .ok (.iload_n 1, 1) := by decide +kernel
theorem dX10_laysOrder_71 : decode cX10_laysOrder 71 = .ok (.aload_n 0, 1) := by decide +kernel
theorem dX10_laysOrder_72 : decode cX10_laysOrder 72 = .ok (.getfield 7, 3) := by decide +kernel
theorem dX10_laysOrder_75 : decode cX10_laysOrder 75 = .ok (.iconst 2, 1) := by decide +kernel
theorem dX10_laysOrder_76 : decode cX10_laysOrder 76 = .ok (.iaload, 1) := by decide +kernel
theorem dX10_laysOrder_77 : decode cX10_laysOrder 77 = .ok (.if_icmp .ge 29, 3) := by decide +kernel
theorem dX10_laysOrder_80 : decode cX10_laysOrder 80 = .ok (.aload_n 0, 1) := by decide +kernel
theorem dX10_laysOrder_81 : decode cX10_laysOrder 81 = .ok (.iload_n 1, 1) := by decide +kernel
theorem dX10_laysOrder_82 : decode cX10_laysOrder 82 = .ok (.invokevirtual 262, 3) := by decide +kernel
theorem dX10_laysOrder_85 : decode cX10_laysOrder 85 = .ok (.ifCond .eq 15, 3) := by decide +kernel
theorem dX10_laysOrder_88 : decode cX10_laysOrder 88 = .ok (.aload_n 0, 1) := by decide +kernel
theorem dX10_laysOrder_89 : decode cX10_laysOrder 89 = .ok (.getfield 38, 3) := by decide +kernel
theorem dX10_laysOrder_92 : decode cX10_laysOrder 92 = .ok (.aload_n 0, 1) := by decide +kernel
theorem dX10_laysOrder_93 : decode cX10_laysOrder 93 = .ok (.iconst (-1), 1) := by decide +kernel
theorem dX10_laysOrder_94 : decode cX10_laysOrder 94 = .ok (.iload_n 1, 1) := by decide +kernel
theorem dX10_laysOrder_95 : decode cX10_laysOrder 95 = .ok (.invokevirtual 268, 3) := by decide +kernel
theorem dX10_laysOrder_98 : decode cX10_laysOrder 98 = .ok (.iload_n 1, 1) := by decide +kernel
theorem dX10_laysOrder_99 : decode cX10_laysOrder 99 = .ok (.iastore, 1) := by decide +kernel
theorem dX10_laysOrder_100 : decode cX10_laysOrder 100 = .ok (.iinc 1 1, 3) := by decide +kernel
theorem dX10_laysOrder_103 : decode cX10_laysOrder 103 = .ok (.goto (-33), 3) := by decide +kernel
theorem dX10_laysOrder_106 : decode cX10_laysOrder 106 = .ok (.return_, 1) := by decide +kernel
theorem dX10_funds_0 : decode cX10_funds 0 = .ok (.aload_n 0, 1) := by decide +kernel
theorem dX10_funds_1 : decode cX10_funds 1 = .ok (.getfield 7, 3) := by decide +kernel
theorem dX10_funds_4 : decode cX10_funds 4 = .ok (.bipush 7, 2) := by decide +kernel
theorem dX10_funds_6 : decode cX10_funds 6 = .ok (.iload_n 2, 1) := by decide +kernel
theorem dX10_funds_7 : decode cX10_funds 7 = .ok (.iadd, 1) := by decide +kernel
theorem dX10_funds_8 : decode cX10_funds 8 = .ok (.iaload, 1) := by decide +kernel
theorem dX10_funds_9 : decode cX10_funds 9 = .ok (.istore 4, 2) := by decide +kernel
theorem dX10_funds_11 : decode cX10_funds 11 = .ok (.iconst 0, 1) := by decide +kernel
theorem dX10_funds_12 : decode cX10_funds 12 = .ok (.istore 5, 2) := by decide +kernel
theorem dX10_funds_14 : decode cX10_funds 14 = .ok (.iconst 0, 1) := by decide +kernel
theorem dX10_funds_15 : decode cX10_funds 15 = .ok (.istore 6, 2) := by decide +kernel
theorem dX10_funds_17 : decode cX10_funds 17 = .ok (.iload 6, 2) := by decide +kernel
theorem dX10_funds_19 : decode cX10_funds 19 = .ok (.aload_n 0, 1) := by decide +kernel
theorem dX10_funds_20 : decode cX10_funds 20 = .ok (.getfield 274, 3) := by decide +kernel
theorem dX10_funds_23 : decode cX10_funds 23 = .ok (.if_icmp .ge 158, 3) := by decide +kernel
theorem dX10_funds_26 : decode cX10_funds 26 = .ok (.iload 5, 2) := by decide +kernel
theorem dX10_funds_28 : decode cX10_funds 28 = .ok (.ifCond .ne 153, 3) := by decide +kernel
theorem dX10_funds_31 : decode cX10_funds 31 = .ok (.aload_n 0, 1) := by decide +kernel
theorem dX10_funds_32 : decode cX10_funds 32 = .ok (.getfield 38, 3) := by decide +kernel
theorem dX10_funds_35 : decode cX10_funds 35 = .ok (.iload 6, 2) := by decide +kernel
theorem dX10_funds_37 : decode cX10_funds 37 = .ok (.iaload, 1) := by decide +kernel
theorem dX10_funds_38 : decode cX10_funds 38 = .ok (.istore 7, 2) := by decide +kernel
theorem dX10_funds_40 : decode cX10_funds 40 = .ok (.aload_n 0, 1) := by decide +kernel
theorem dX10_funds_41 : decode cX10_funds 41 = .ok (.iload 7, 2) := by decide +kernel
theorem dX10_funds_43 : decode cX10_funds 43 = .ok (.iconst 0, 1) := by decide +kernel
theorem dX10_funds_44 : decode cX10_funds 44 = .ok (.invokevirtual 165, 3) := by decide +kernel
theorem dX10_funds_47 : decode cX10_funds 47 = .ok (.iload_n 2, 1) := by decide +kernel
theorem dX10_funds_48 : decode cX10_funds 48 = .ok (.if_icmp .ne 127, 3) := by decide +kernel
theorem dX10_funds_51 : decode cX10_funds 51 = .ok (.aload_n 0, 1) := by decide +kernel
theorem dX10_funds_52 : decode cX10_funds 52 = .ok (.getfield 41, 3) := by decide +kernel
theorem dX10_funds_55 : decode cX10_funds 55 = .ok (.iload 7, 2) := by decide +kernel
theorem dX10_funds_57 : decode cX10_funds 57 = .ok (.iaload, 1) := by decide +kernel
theorem dX10_funds_58 : decode cX10_funds 58 = .ok (.iload_n 3, 1) := by decide +kernel
theorem dX10_funds_59 : decode cX10_funds 59 = .ok (.if_icmp .ge 6, 3) := by decide +kernel
theorem dX10_funds_62 : decode cX10_funds 62 = .ok (.goto 113, 3) := by decide +kernel
theorem dX10_funds_65 : decode cX10_funds 65 = .ok (.aload_n 0, 1) := by decide +kernel
theorem dX10_funds_66 : decode cX10_funds 66 = .ok (.iload 7, 2) := by decide +kernel
theorem dX10_funds_68 : decode cX10_funds 68 = .ok (.iconst 3, 1) := by decide +kernel
theorem dX10_funds_69 : decode cX10_funds 69 = .ok (.invokevirtual 165, 3) := by decide +kernel
theorem dX10_funds_72 : decode cX10_funds 72 = .ok (.iload 4, 2) := by decide +kernel
theorem dX10_funds_74 : decode cX10_funds 74 = .ok (.if_icmp .gt 7, 3) := by decide +kernel
theorem dX10_funds_77 : decode cX10_funds 77 = .ok (.iconst 1, 1) := by decide +kernel
theorem dX10_funds_78 : decode cX10_funds 78 = .ok (.goto 4, 3) := by decide +kernel
theorem dX10_funds_81 : decode cX10_funds 81 = .ok (.iconst 0, 1) := by decide +kernel
theorem dX10_funds_82 : decode cX10_funds 82 = .ok (.istore 8, 2) := by decide +kernel
theorem dX10_funds_84 : decode cX10_funds 84 = .ok (.iload 8, 2) := by decide +kernel
theorem dX10_funds_86 : decode cX10_funds 86 = .ok (.ifCond .ne 24, 3) := by decide +kernel
theorem dX10_funds_89 : decode cX10_funds 89 = .ok (.iload_n 1, 1) := by decide +kernel
theorem dX10_funds_90 : decode cX10_funds 90 = .ok (.iconst 2, 1) := by decide +kernel
theorem dX10_funds_91 : decode cX10_funds 91 = .ok (.if_icmp .ne 19, 3) := by decide +kernel
theorem dX10_funds_94 : decode cX10_funds 94 = .ok (.iload 4, 2) := by decide +kernel
theorem dX10_funds_96 : decode cX10_funds 96 = .ok (.aload_n 0, 1) := by decide +kernel
theorem dX10_funds_97 : decode cX10_funds 97 = .ok (.iload 7, 2) := by decide +kernel
theorem dX10_funds_99 : decode cX10_funds 99 = .ok (.iconst 4, 1) := by decide +kernel
theorem dX10_funds_100 : decode cX10_funds 100 = .ok (.invokevirtual 165, 3) := by decide +kernel
theorem dX10_funds_103 : decode cX10_funds 103 = .ok (.if_icmp .lt 7, 3) := by decide +kernel
theorem dX10_funds_106 : decode cX10_funds 106 = .ok (.iconst 1, 1) := by decide +kernel
theorem dX10_funds_107 : decode cX10_funds 107 = .ok (.goto 4, 3) := by decide +kernel
theorem dX10_funds_110 : decode cX10_funds 110 = .ok (.iconst 0, 1) := by decide +kernel
theorem dX10_funds_111 : decode cX10_funds 111 = .ok (.istore 9, 2) := by decide +kernel
theorem dX10_funds_113 : decode cX10_funds 113 = .ok (.aload_n 0, 1) := by decide +kernel
theorem dX10_funds_114 : decode cX10_funds 114 = .ok (.getfield 44, 3) := by decide +kernel
theorem dX10_funds_117 : decode cX10_funds 117 = .ok (.iload 7, 2) := by decide +kernel
theorem dX10_funds_119 : decode cX10_funds 119 = .ok (.iload 8, 2) := by decide +kernel
theorem dX10_funds_121 : decode cX10_funds 121 = .ok (.ifCond .eq 13, 3) := by decide +kernel
theorem dX10_funds_124 : decode cX10_funds 124 = .ok (.aload_n 0, 1) := by decide +kernel
theorem dX10_funds_125 : decode cX10_funds 125 = .ok (.iload 7, 2) := by decide +kernel
theorem dX10_funds_127 : decode cX10_funds 127 = .ok (.iconst 3, 1) := by decide +kernel
theorem dX10_funds_128 : decode cX10_funds 128 = .ok (.invokevirtual 165, 3) := by decide +kernel
theorem dX10_funds_131 : decode cX10_funds 131 = .ok (.goto 14, 3) := by decide +kernel
theorem dX10_funds_134 : decode cX10_funds 134 = .ok (.iload 9, 2) := by decide +kernel
theorem dX10_funds_136 : decode cX10_funds 136 = .ok (.ifCond .eq 8, 3) := by decide +kernel
theorem dX10_funds_139 : decode cX10_funds 139 = .ok (.iload 4, 2) := by decide +kernel
theorem dX10_funds_141 : decode cX10_funds 141 = .ok (.goto 4, 3) := by decide +kernel
theorem dX10_funds_144 : decode cX10_funds 144 = .ok (.iconst 0, 1) := by decide +kernel
theorem dX10_funds_145 : decode cX10_funds 145 = .ok (.iastore, 1) := by decide +kernel
theorem dX10_funds_146 : decode cX10_funds 146 = .ok (.iload 4, 2) := by decide +kernel
theorem dX10_funds_148 : decode cX10_funds 148 = .ok (.aload_n 0, 1) := by decide +kernel
theorem dX10_funds_149 : decode cX10_funds 149 = .ok (.getfield 44, 3) := by decide +kernel
theorem dX10_funds_152 : decode cX10_funds 152 = .ok (.iload 7, 2) := by decide +kernel
theorem dX10_funds_154 : decode cX10_funds 154 = .ok (.iaload, 1) := by decide +kernel
theorem dX10_funds_155 : decode cX10_funds 155 = .ok (.isub, 1) := by decide +kernel
theorem dX10_funds_156 : decode cX10_funds 156 = .ok (.istore 4, 2) := by decide +kernel
theorem dX10_funds_158 : decode cX10_funds 158 = .ok (.iload 8, 2) := by decide +kernel
theorem dX10_funds_160 : decode cX10_funds 160 = .ok (.ifCond .ne 12, 3) := by decide +kernel
theorem dX10_funds_163 : decode cX10_funds 163 = .ok (.iload_n 1, 1) := by decide +kernel
theorem dX10_funds_164 : decode cX10_funds 164 = .ok (.iconst 1, 1) := by decide +kernel
theorem dX10_funds_165 : decode cX10_funds 165 = .ok (.if_icmp .eq 7, 3) := by decide +kernel
theorem dX10_funds_168 : decode cX10_funds 168 = .ok (.iconst 1, 1) := by decide +kernel
theorem dX10_funds_169 : decode cX10_funds 169 = .ok (.goto 4, 3) := by decide +kernel
theorem dX10_funds_172 : decode cX10_funds 172 = .ok (.iconst 0, 1) := by decide +kernel
theorem dX10_funds_173 : decode cX10_funds 173 = .ok (.istore 5, 2) := by decide +kernel
theorem dX10_funds_175 : decode cX10_funds 175 = .ok (.iinc 6 1, 3) := by decide +kernel
theorem dX10_funds_178 : decode cX10_funds 178 = .ok (.goto (-161), 3) := by decide +kernel
theorem dX10_funds_181 : decode cX10_funds 181 = .ok (.aload_n 0, 1) := by decide +kernel
theorem dX10_funds_182 : decode cX10_funds 182 = .ok (.getfield 47, 3) := by decide +kernel
theorem dX10_funds_185 : decode cX10_funds 185 = .ok (.iload_n 2, 1) := by decide +kernel
theorem dX10_funds_186 : decode cX10_funds 186 = .ok (.iload 4, 2) := by decide +kernel
theorem dX10_funds_188 : decode cX10_funds 188 = .ok (.iastore, 1) := by decide +kernel
theorem dX10_funds_189 : decode cX10_funds 189 = .ok (.return_, 1) := by decide +kernel
theorem dX10_fundsAll_0 : decode cX10_fundsAll 0 = .ok (.iconst 0, 1) := by decide +kernel
theorem dX10_fundsAll_1 : decode cX10_fundsAll 1 = .ok (.istore_n 3, 1) := by decide +kernel
theorem dX10_fundsAll_2 : decode cX10_fundsAll 2 = .ok (.iload_n 3, 1) := by decide +kernel
theorem dX10_fundsAll_3 : decode cX10_fundsAll 3 = .ok (.bipush 16, 2) := by decide +kernel
theorem dX10_fundsAll_5 : decode cX10_fundsAll 5 = .ok (.if_icmp .ge 16, 3) := by decide +kernel
theorem dX10_fundsAll_8 : decode cX10_fundsAll 8 = .ok (.aload_n 0, 1) := by decide +kernel
theorem dX10_fundsAll_9 : decode cX10_fundsAll 9 = .ok (.getfield 44, 3) := by decide +kernel
theorem dX10_fundsAll_12 : decode cX10_fundsAll 12 = .ok (.iload_n 3, 1) := by decide +kernel
theorem dX10_fundsAll_13 : decode cX10_fundsAll 13 = .ok (.iconst 0, 1) := by decide +kernel
theorem dX10_fundsAll_14 : decode cX10_fundsAll 14 = .ok (.iastore, 1) := by decide +kernel
theorem dX10_fundsAll_15 : decode cX10_fundsAll 15 = .ok (.iinc 3 1, 3) := by decide +kernel
theorem dX10_fundsAll_18 : decode cX10_fundsAll 18 = .ok (.goto (-16), 3) := by decide +kernel
theorem dX10_fundsAll_21 : decode cX10_fundsAll 21 = .ok (.aload_n 0, 1) := by decide +kernel
theorem dX10_fundsAll_22 : decode cX10_fundsAll 22 = .ok (.aload_n 0, 1) := by decide +kernel
theorem dX10_fundsAll_23 : decode cX10_fundsAll 23 = .ok (.getfield 7, 3) := by decide +kernel
theorem dX10_fundsAll_26 : decode cX10_fundsAll 26 = .ok (.iconst 5, 1) := by decide +kernel
theorem dX10_fundsAll_27 : decode cX10_fundsAll 27 = .ok (.iaload, 1) := by decide +kernel
theorem dX10_fundsAll_28 : decode cX10_fundsAll 28 = .ok (.putfield 277, 3) := by decide +kernel
theorem dX10_fundsAll_31 : decode cX10_fundsAll 31 = .ok (.iconst 0, 1) := by decide +kernel
theorem dX10_fundsAll_32 : decode cX10_fundsAll 32 = .ok (.istore_n 3, 1) := by decide +kernel
theorem dX10_fundsAll_33 : decode cX10_fundsAll 33 = .ok (.iload_n 3, 1) := by decide +kernel
theorem dX10_fundsAll_34 : decode cX10_fundsAll 34 = .ok (.aload_n 0, 1) := by decide +kernel
theorem dX10_fundsAll_35 : decode cX10_fundsAll 35 = .ok (.getfield 7, 3) := by decide +kernel
theorem dX10_fundsAll_38 : decode cX10_fundsAll 38 = .ok (.iconst 0, 1) := by decide +kernel
theorem dX10_fundsAll_39 : decode cX10_fundsAll 39 = .ok (.iaload, 1) := by decide +kernel
theorem dX10_fundsAll_40 : decode cX10_fundsAll 40 = .ok (.if_icmp .ge 31, 3) := by decide +kernel
theorem dX10_fundsAll_43 : decode cX10_fundsAll 43 = .ok (.aload_n 0, 1) := by decide +kernel
theorem dX10_fundsAll_44 : decode cX10_fundsAll 44 = .ok (.iload_n 1, 1) := by decide +kernel
theorem dX10_fundsAll_45 : decode cX10_fundsAll 45 = .ok (.iload_n 3, 1) := by decide +kernel
theorem dX10_fundsAll_46 : decode cX10_fundsAll 46 = .ok (.iload_n 2, 1) := by decide +kernel
theorem dX10_fundsAll_47 : decode cX10_fundsAll 47 = .ok (.invokevirtual 280, 3) := by decide +kernel
theorem dX10_fundsAll_50 : decode cX10_fundsAll 50 = .ok (.aload_n 0, 1) := by decide +kernel
theorem dX10_fundsAll_51 : decode cX10_fundsAll 51 = .ok (.dup, 1) := by decide +kernel
theorem dX10_fundsAll_52 : decode cX10_fundsAll 52 = .ok (.getfield 277, 3) := by decide +kernel
theorem dX10_fundsAll_55 : decode cX10_fundsAll 55 = .ok (.aload_n 0, 1) := by decide +kernel
theorem dX10_fundsAll_56 : decode cX10_fundsAll 56 = .ok (.getfield 47, 3) := by decide +kernel
theorem dX10_fundsAll_59 : decode cX10_fundsAll 59 = .ok (.iload_n 3, 1) := by decide +kernel
theorem dX10_fundsAll_60 : decode cX10_fundsAll 60 = .ok (.iaload, 1) := by decide +kernel
theorem dX10_fundsAll_61 : decode cX10_fundsAll 61 = .ok (.iadd, 1) := by decide +kernel
theorem dX10_fundsAll_62 : decode cX10_fundsAll 62 = .ok (.putfield 277, 3) := by decide +kernel
theorem dX10_fundsAll_65 : decode cX10_fundsAll 65 = .ok (.iinc 3 1, 3) := by decide +kernel
theorem dX10_fundsAll_68 : decode cX10_fundsAll 68 = .ok (.goto (-35), 3) := by decide +kernel
theorem dX10_fundsAll_71 : decode cX10_fundsAll 71 = .ok (.iconst 0, 1) := by decide +kernel
theorem dX10_fundsAll_72 : decode cX10_fundsAll 72 = .ok (.istore_n 3, 1) := by decide +kernel
theorem dX10_fundsAll_73 : decode cX10_fundsAll 73 = .ok (.iload_n 3, 1) := by decide +kernel
theorem dX10_fundsAll_74 : decode cX10_fundsAll 74 = .ok (.aload_n 0, 1) := by decide +kernel
theorem dX10_fundsAll_75 : decode cX10_fundsAll 75 = .ok (.getfield 274, 3) := by decide +kernel
theorem dX10_fundsAll_78 : decode cX10_fundsAll 78 = .ok (.if_icmp .ge 82, 3) := by decide +kernel
theorem dX10_fundsAll_81 : decode cX10_fundsAll 81 = .ok (.aload_n 0, 1) := by decide +kernel
theorem dX10_fundsAll_82 : decode cX10_fundsAll 82 = .ok (.getfield 38, 3) := by decide +kernel
theorem dX10_fundsAll_85 : decode cX10_fundsAll 85 = .ok (.iload_n 3, 1) := by decide +kernel
theorem dX10_fundsAll_86 : decode cX10_fundsAll 86 = .ok (.iaload, 1) := by decide +kernel
theorem dX10_fundsAll_87 : decode cX10_fundsAll 87 = .ok (.istore 4, 2) := by decide +kernel
theorem dX10_fundsAll_89 : decode cX10_fundsAll 89 = .ok (.aload_n 0, 1) := by decide +kernel
theorem dX10_fundsAll_90 : decode cX10_fundsAll 90 = .ok (.getfield 44, 3) := by decide +kernel
theorem dX10_fundsAll_93 : decode cX10_fundsAll 93 = .ok (.iload 4, 2) := by decide +kernel
theorem dX10_fundsAll_95 : decode cX10_fundsAll 95 = .ok (.iaload, 1) := by decide +kernel
theorem dX10_fundsAll_96 : decode cX10_fundsAll 96 = .ok (.ifCond .ne 58, 3) := by decide +kernel
theorem dX10_fundsAll_99 : decode cX10_fundsAll 99 = .ok (.aload_n 0, 1) := by decide +kernel
theorem dX10_fundsAll_100 : decode cX10_fundsAll 100 = .ok (.getfield 41, 3) := by decide +kernel
theorem dX10_fundsAll_103 : decode cX10_fundsAll 103 = .ok (.iload 4, 2) := by decide +kernel
theorem dX10_fundsAll_105 : decode cX10_fundsAll 105 = .ok (.iaload, 1) := by decide +kernel
theorem dX10_fundsAll_106 : decode cX10_fundsAll 106 = .ok (.iload_n 2, 1) := by decide +kernel
theorem dX10_fundsAll_107 : decode cX10_fundsAll 107 = .ok (.if_icmp .lt 47, 3) := by decide +kernel
theorem dX10_fundsAll_110 : decode cX10_fundsAll 110 = .ok (.aload_n 0, 1) := by decide +kernel
theorem dX10_fundsAll_111 : decode cX10_fundsAll 111 = .ok (.iload 4, 2) := by decide +kernel
theorem dX10_fundsAll_113 : decode cX10_fundsAll 113 = .ok (.iconst 3, 1) := by decide +kernel
theorem dX10_fundsAll_114 : decode cX10_fundsAll 114 = .ok (.invokevirtual 165, 3) := by decide +kernel
theorem dX10_fundsAll_117 : decode cX10_fundsAll 117 = .ok (.aload_n 0, 1) := by decide +kernel
theorem dX10_fundsAll_118 : decode cX10_fundsAll 118 = .ok (.getfield 277, 3) := by decide +kernel
theorem dX10_fundsAll_121 : decode cX10_fundsAll 121 = .ok (.if_icmp .gt 33, 3) := by decide +kernel
theorem dX10_fundsAll_124 : decode cX10_fundsAll 124 = .ok (.aload_n 0, 1) := by decide +kernel
theorem dX10_fundsAll_125 : decode cX10_fundsAll 125 = .ok (.getfield 44, 3) := by decide +kernel
theorem dX10_fundsAll_128 : decode cX10_fundsAll 128 = .ok (.iload 4, 2) := by decide +kernel
theorem dX10_fundsAll_130 : decode cX10_fundsAll 130 = .ok (.aload_n 0, 1) := by decide +kernel
theorem dX10_fundsAll_131 : decode cX10_fundsAll 131 = .ok (.iload 4, 2) := by decide +kernel
theorem dX10_fundsAll_133 : decode cX10_fundsAll 133 = .ok (.iconst 3, 1) := by decide +kernel
theorem dX10_fundsAll_134 : decode cX10_fundsAll 134 = .ok (.invokevirtual 165, 3) := by decide +kernel
theorem dX10_fundsAll_137 : decode cX10_fundsAll 137 = .ok (.iastore, 1) := by decide +kernel
theorem dX10_fundsAll_138 : decode cX10_fundsAll 138 = .ok (.aload_n 0, 1) := by decide +kernel
theorem dX10_fundsAll_139 : decode cX10_fundsAll 139 = .ok (.dup, 1) := by decide +kernel
theorem dX10_fundsAll_140 : decode cX10_fundsAll 140 = .ok (.getfield 277, 3) := by decide +kernel
theorem dX10_fundsAll_143 : decode cX10_fundsAll 143 = .ok (.aload_n 0, 1) := by decide +kernel
theorem dX10_fundsAll_144 : decode cX10_fundsAll 144 = .ok (.getfield 44, 3) := by decide +kernel
theorem dX10_fundsAll_147 : decode cX10_fundsAll 147 = .ok (.iload 4, 2) := by decide +kernel
theorem dX10_fundsAll_149 : decode cX10_fundsAll 149 = .ok (.iaload, 1) := by decide +kernel
theorem dX10_fundsAll_150 : decode cX10_fundsAll 150 = .ok (.isub, 1) := by decide +kernel
theorem dX10_fundsAll_151 : decode cX10_fundsAll 151 = .ok (.putfield 277, 3) := by decide +kernel
theorem dX10_fundsAll_154 : decode cX10_fundsAll 154 = .ok (.iinc 3 1, 3) := by decide +kernel
theorem dX10_fundsAll_157 : decode cX10_fundsAll 157 = .ok (.goto (-84), 3) := by decide +kernel
theorem dX10_fundsAll_160 : decode cX10_fundsAll 160 = .ok (.return_, 1) := by decide +kernel
theorem dX10_fundedNow_0 : decode cX10_fundedNow 0 = .ok (.iconst 0, 1) := by decide +kernel
theorem dX10_fundedNow_1 : decode cX10_fundedNow 1 = .ok (.istore_n 1, 1) := by decide +kernel
theorem dX10_fundedNow_2 : decode cX10_fundedNow 2 = .ok (.iconst 0, 1) := by decide +kernel
theorem dX10_fundedNow_3 : decode cX10_fundedNow 3 = .ok (.istore_n 2, 1) := by decide +kernel
theorem dX10_fundedNow_4 : decode cX10_fundedNow 4 = .ok (.iload_n 2, 1) := by decide +kernel
theorem dX10_fundedNow_5 : decode cX10_fundedNow 5 = .ok (.bipush 16, 2) := by decide +kernel
theorem dX10_fundedNow_7 : decode cX10_fundedNow 7 = .ok (.if_icmp .ge 28, 3) := by decide +kernel
theorem dX10_fundedNow_10 : decode cX10_fundedNow 10 = .ok (.iload_n 1, 1) := by decide +kernel
theorem dX10_fundedNow_11 : decode cX10_fundedNow 11 = .ok (.aload_n 0, 1) := by decide +kernel
theorem dX10_fundedNow_12 : decode cX10_fundedNow 12 = .ok (.getfield 44, 3) := by decide +kernel
theorem dX10_fundedNow_15 : decode cX10_fundedNow 15 = .ok (.iload_n 2, 1) := by decide +kernel
theorem dX10_fundedNow_16 : decode cX10_fundedNow 16 = .ok (.iaload, 1) := by decide +kernel
theorem dX10_fundedNow_17 : decode cX10_fundedNow 17 = .ok (.ifCond .le 9, 3) := by decide +kernel
theorem dX10_fundedNow_20 : decode cX10_fundedNow 20 = .ok (.iconst 1, 1) := by decide +kernel
theorem dX10_fundedNow_21 : decode cX10_fundedNow 21 = .ok (.iload_n 2, 1) := by decide +kernel
theorem dX10_fundedNow_22 : decode cX10_fundedNow 22 = .ok (.ishl, 1) := by decide +kernel
theorem dX10_fundedNow_23 : decode cX10_fundedNow 23 = .ok (.goto 4, 3) := by decide +kernel
theorem dX10_fundedNow_26 : decode cX10_fundedNow 26 = .ok (.iconst 0, 1) := by decide +kernel
theorem dX10_fundedNow_27 : decode cX10_fundedNow 27 = .ok (.ior, 1) := by decide +kernel
theorem dX10_fundedNow_28 : decode cX10_fundedNow 28 = .ok (.istore_n 1, 1) := by decide +kernel
theorem dX10_fundedNow_29 : decode cX10_fundedNow 29 = .ok (.iinc 2 1, 3) := by decide +kernel
theorem dX10_fundedNow_32 : decode cX10_fundedNow 32 = .ok (.goto (-28), 3) := by decide +kernel
theorem dX10_fundedNow_35 : decode cX10_fundedNow 35 = .ok (.iload_n 1, 1) := by decide +kernel
theorem dX10_fundedNow_36 : decode cX10_fundedNow 36 = .ok (.ireturn, 1) := by decide +kernel
theorem dX10_isMode_0 : decode cX10_isMode 0 = .ok (.aload_n 0, 1) := by decide +kernel
theorem dX10_isMode_1 : decode cX10_isMode 1 = .ok (.iload_n 1, 1) := by decide +kernel
theorem dX10_isMode_2 : decode cX10_isMode 2 = .ok (.iconst 0, 1) := by decide +kernel
theorem dX10_isMode_3 : decode cX10_isMode 3 = .ok (.iconst 2, 1) := by decide +kernel
theorem dX10_isMode_4 : decode cX10_isMode 4 = .ok (.invokestatic 53, 3) := by decide +kernel
theorem dX10_isMode_7 : decode cX10_isMode 7 = .ok (.ifCond .eq 7, 3) := by decide +kernel
theorem dX10_isMode_10 : decode cX10_isMode 10 = .ok (.iconst 0, 1) := by decide +kernel
theorem dX10_isMode_11 : decode cX10_isMode 11 = .ok (.goto 4, 3) := by decide +kernel
theorem dX10_isMode_14 : decode cX10_isMode 14 = .ok (.iconst 1, 1) := by decide +kernel
theorem dX10_isMode_15 : decode cX10_isMode 15 = .ok (.putfield 50, 3) := by decide +kernel
theorem dX10_isMode_18 : decode cX10_isMode 18 = .ok (.aload_n 0, 1) := by decide +kernel
theorem dX10_isMode_19 : decode cX10_isMode 19 = .ok (.getfield 50, 3) := by decide +kernel
theorem dX10_isMode_22 : decode cX10_isMode 22 = .ok (.ifCond .ne 7, 3) := by decide +kernel
theorem dX10_isMode_25 : decode cX10_isMode 25 = .ok (.iconst 1, 1) := by decide +kernel
theorem dX10_isMode_26 : decode cX10_isMode 26 = .ok (.goto 4, 3) := by decide +kernel
theorem dX10_isMode_29 : decode cX10_isMode 29 = .ok (.iconst 0, 1) := by decide +kernel
theorem dX10_isMode_30 : decode cX10_isMode 30 = .ok (.ireturn, 1) := by decide +kernel
theorem dX10_pays_0 : decode cX10_pays 0 = .ok (.aload_n 0, 1) := by decide +kernel
theorem dX10_pays_1 : decode cX10_pays 1 = .ok (.invokevirtual 284, 3) := by decide +kernel
theorem dX10_pays_4 : decode cX10_pays 4 = .ok (.aload_n 0, 1) := by decide +kernel
theorem dX10_pays_5 : decode cX10_pays 5 = .ok (.iload_n 1, 1) := by decide +kernel
theorem dX10_pays_6 : decode cX10_pays 6 = .ok (.aload_n 0, 1) := by decide +kernel
theorem dX10_pays_7 : decode cX10_pays 7 = .ok (.getfield 16, 3) := by decide +kernel
theorem dX10_pays_10 : decode cX10_pays 10 = .ok (.iconst 0, 1) := by decide +kernel
theorem dX10_pays_11 : decode cX10_pays 11 = .ok (.iaload, 1) := by decide +kernel
theorem dX10_pays_12 : decode cX10_pays 12 = .ok (.invokevirtual 287, 3) := by decide +kernel
theorem dX10_pays_15 : decode cX10_pays 15 = .ok (.return_, 1) := by decide +kernel
theorem dX10_setLine_0 : decode cX10_setLine 0 = .ok (.aload_n 0, 1) := by decide +kernel
theorem dX10_setLine_1 : decode cX10_setLine 1 = .ok (.iload_n 1, 1) := by decide +kernel
theorem dX10_setLine_2 : decode cX10_setLine 2 = .ok (.iconst 0, 1) := by decide +kernel
theorem dX10_setLine_3 : decode cX10_setLine 3 = .ok (.ldc 103, 2) := by decide +kernel
theorem dX10_setLine_5 : decode cX10_setLine 5 = .ok (.invokestatic 53, 3) := by decide +kernel
theorem dX10_setLine_8 : decode cX10_setLine 8 = .ok (.ifCond .eq 7, 3) := by decide +kernel
theorem dX10_setLine_11 : decode cX10_setLine 11 = .ok (.iconst 0, 1) := by decide +kernel
theorem dX10_setLine_12 : decode cX10_setLine 12 = .ok (.goto 4, 3) := by decide +kernel
theorem dX10_setLine_15 : decode cX10_setLine 15 = .ok (.iconst 1, 1) := by decide +kernel
theorem dX10_setLine_16 : decode cX10_setLine 16 = .ok (.putfield 50, 3) := by decide +kernel
theorem dX10_setLine_19 : decode cX10_setLine 19 = .ok (.aload_n 0, 1) := by decide +kernel
theorem dX10_setLine_20 : decode cX10_setLine 20 = .ok (.getfield 50, 3) := by decide +kernel
theorem dX10_setLine_23 : decode cX10_setLine 23 = .ok (.ifCond .le 5, 3) := by decide +kernel
theorem dX10_setLine_26 : decode cX10_setLine 26 = .ok (.iconst 0, 1) := by decide +kernel
theorem dX10_setLine_27 : decode cX10_setLine 27 = .ok (.ireturn, 1) := by decide +kernel
theorem dX10_setLine_28 : decode cX10_setLine 28 = .ok (.aload_n 0, 1) := by decide +kernel
theorem dX10_setLine_29 : decode cX10_setLine 29 = .ok (.invokevirtual 190, 3) := by decide +kernel
theorem dX10_setLine_32 : decode cX10_setLine 32 = .ok (.aload_n 0, 1) := by decide +kernel
theorem dX10_setLine_33 : decode cX10_setLine 33 = .ok (.getfield 16, 3) := by decide +kernel
theorem dX10_setLine_36 : decode cX10_setLine 36 = .ok (.iconst 0, 1) := by decide +kernel
theorem dX10_setLine_37 : decode cX10_setLine 37 = .ok (.iaload, 1) := by decide +kernel
theorem dX10_setLine_38 : decode cX10_setLine 38 = .ok (.istore_n 2, 1) := by decide +kernel
theorem dX10_setLine_39 : decode cX10_setLine 39 = .ok (.aload_n 0, 1) := by decide +kernel
theorem dX10_setLine_40 : decode cX10_setLine 40 = .ok (.getfield 16, 3) := by decide +kernel
theorem dX10_setLine_43 : decode cX10_setLine 43 = .ok (.iconst 0, 1) := by decide +kernel
theorem dX10_setLine_44 : decode cX10_setLine 44 = .ok (.iload_n 1, 1) := by decide +kernel
theorem dX10_setLine_45 : decode cX10_setLine 45 = .ok (.iastore, 1) := by decide +kernel
theorem dX10_setLine_46 : decode cX10_setLine 46 = .ok (.iload_n 2, 1) := by decide +kernel
theorem dX10_setLine_47 : decode cX10_setLine 47 = .ok (.ireturn, 1) := by decide +kernel
theorem dX10_amount_0 : decode cX10_amount 0 = .ok (.aload_n 0, 1) := by decide +kernel
theorem dX10_amount_1 : decode cX10_amount 1 = .ok (.iload_n 1, 1) := by decide +kernel
theorem dX10_amount_2 : decode cX10_amount 2 = .ok (.invokevirtual 290, 3) := by decide +kernel
theorem dX10_amount_5 : decode cX10_amount 5 = .ok (.ifCond .ne 5, 3) := by decide +kernel
theorem dX10_amount_8 : decode cX10_amount 8 = .ok (.iconst 0, 1) := by decide +kernel
theorem dX10_amount_9 : decode cX10_amount 9 = .ok (.ireturn, 1) := by decide +kernel
theorem dX10_amount_10 : decode cX10_amount 10 = .ok (.aload_n 0, 1) := by decide +kernel
theorem dX10_amount_11 : decode cX10_amount 11 = .ok (.iload_n 2, 1) := by decide +kernel
theorem dX10_amount_12 : decode cX10_amount 12 = .ok (.invokevirtual 181, 3) := by decide +kernel
theorem dX10_amount_15 : decode cX10_amount 15 = .ok (.ifCond .ne 9, 3) := by decide +kernel
theorem dX10_amount_18 : decode cX10_amount 18 = .ok (.aload_n 0, 1) := by decide +kernel
theorem dX10_amount_19 : decode cX10_amount 19 = .ok (.iconst 2, 1) := by decide +kernel
theorem dX10_amount_20 : decode cX10_amount 20 = .ok (.invokevirtual 60, 3) := by decide +kernel
theorem dX10_amount_23 : decode cX10_amount 23 = .ok (.ireturn, 1) := by decide +kernel
theorem dX10_amount_24 : decode cX10_amount 24 = .ok (.aload_n 0, 1) := by decide +kernel
theorem dX10_amount_25 : decode cX10_amount 25 = .ok (.iload_n 1, 1) := by decide +kernel
theorem dX10_amount_26 : decode cX10_amount 26 = .ok (.invokevirtual 293, 3) := by decide +kernel
theorem dX10_amount_29 : decode cX10_amount 29 = .ok (.aload_n 0, 1) := by decide +kernel
theorem dX10_amount_30 : decode cX10_amount 30 = .ok (.getfield 44, 3) := by decide +kernel
theorem dX10_amount_33 : decode cX10_amount 33 = .ok (.iload_n 2, 1) := by decide +kernel
theorem dX10_amount_34 : decode cX10_amount 34 = .ok (.iaload, 1) := by decide +kernel
theorem dX10_amount_35 : decode cX10_amount 35 = .ok (.ireturn, 1) := by decide +kernel
theorem dX10_left_0 : decode cX10_left 0 = .ok (.aload_n 0, 1) := by decide +kernel
theorem dX10_left_1 : decode cX10_left 1 = .ok (.iload_n 1, 1) := by decide +kernel
theorem dX10_left_2 : decode cX10_left 2 = .ok (.invokevirtual 290, 3) := by decide +kernel
theorem dX10_left_5 : decode cX10_left 5 = .ok (.ifCond .ne 5, 3) := by decide +kernel
theorem dX10_left_8 : decode cX10_left 8 = .ok (.iconst 0, 1) := by decide +kernel
theorem dX10_left_9 : decode cX10_left 9 = .ok (.ireturn, 1) := by decide +kernel
theorem dX10_left_10 : decode cX10_left 10 = .ok (.aload_n 0, 1) := by decide +kernel
theorem dX10_left_11 : decode cX10_left 11 = .ok (.iload_n 2, 1) := by decide +kernel
theorem dX10_left_12 : decode cX10_left 12 = .ok (.invokevirtual 205, 3) := by decide +kernel
theorem dX10_left_15 : decode cX10_left 15 = .ok (.ifCond .ne 9, 3) := by decide +kernel
theorem dX10_left_18 : decode cX10_left 18 = .ok (.aload_n 0, 1) := by decide +kernel
theorem dX10_left_19 : decode cX10_left 19 = .ok (.iconst 2, 1) := by decide +kernel
theorem dX10_left_20 : decode cX10_left 20 = .ok (.invokevirtual 60, 3) := by decide +kernel
theorem dX10_left_23 : decode cX10_left 23 = .ok (.ireturn, 1) := by decide +kernel
theorem dX10_left_24 : decode cX10_left 24 = .ok (.aload_n 0, 1) := by decide +kernel
theorem dX10_left_25 : decode cX10_left 25 = .ok (.iload_n 1, 1) := by decide +kernel
theorem dX10_left_26 : decode cX10_left 26 = .ok (.invokevirtual 293, 3) := by decide +kernel
theorem dX10_left_29 : decode cX10_left 29 = .ok (.aload_n 0, 1) := by decide +kernel
theorem dX10_left_30 : decode cX10_left 30 = .ok (.getfield 47, 3) := by decide +kernel
theorem dX10_left_33 : decode cX10_left 33 = .ok (.iload_n 2, 1) := by decide +kernel
theorem dX10_left_34 : decode cX10_left 34 = .ok (.iaload, 1) := by decide +kernel
theorem dX10_left_35 : decode cX10_left 35 = .ok (.ireturn, 1) := by decide +kernel
theorem dX10_poolLeft_0 : decode cX10_poolLeft 0 = .ok (.aload_n 0, 1) := by decide +kernel
theorem dX10_poolLeft_1 : decode cX10_poolLeft 1 = .ok (.iload_n 1, 1) := by decide +kernel
theorem dX10_poolLeft_2 : decode cX10_poolLeft 2 = .ok (.invokevirtual 290, 3) := by decide +kernel
theorem dX10_poolLeft_5 : decode cX10_poolLeft 5 = .ok (.ifCond .ne 5, 3) := by decide +kernel
theorem dX10_poolLeft_8 : decode cX10_poolLeft 8 = .ok (.iconst 0, 1) := by decide +kernel
theorem dX10_poolLeft_9 : decode cX10_poolLeft 9 = .ok (.ireturn, 1) := by decide +kernel
theorem dX10_poolLeft_10 : decode cX10_poolLeft 10 = .ok (.aload_n 0, 1) := by decide +kernel
theorem dX10_poolLeft_11 : decode cX10_poolLeft 11 = .ok (.iload_n 1, 1) := by decide +kernel
theorem dX10_poolLeft_12 : decode cX10_poolLeft 12 = .ok (.invokevirtual 293, 3) := by decide +kernel
theorem dX10_poolLeft_15 : decode cX10_poolLeft 15 = .ok (.aload_n 0, 1) := by decide +kernel
theorem dX10_poolLeft_16 : decode cX10_poolLeft 16 = .ok (.getfield 277, 3) := by decide +kernel
theorem dX10_poolLeft_19 : decode cX10_poolLeft 19 = .ok (.ireturn, 1) := by decide +kernel
theorem dX10_funded_0 : decode cX10_funded 0 = .ok (.aload_n 0, 1) := by decide +kernel
theorem dX10_funded_1 : decode cX10_funded 1 = .ok (.iload_n 1, 1) := by decide +kernel
theorem dX10_funded_2 : decode cX10_funded 2 = .ok (.invokevirtual 290, 3) := by decide +kernel
theorem dX10_funded_5 : decode cX10_funded 5 = .ok (.ifCond .ne 5, 3) := by decide +kernel
theorem dX10_funded_8 : decode cX10_funded 8 = .ok (.iconst 0, 1) := by decide +kernel
theorem dX10_funded_9 : decode cX10_funded 9 = .ok (.ireturn, 1) := by decide +kernel
theorem dX10_funded_10 : decode cX10_funded 10 = .ok (.aload_n 0, 1) := by decide +kernel
theorem dX10_funded_11 : decode cX10_funded 11 = .ok (.iload_n 1, 1) := by decide +kernel
theorem dX10_funded_12 : decode cX10_funded 12 = .ok (.invokevirtual 293, 3) := by decide +kernel
theorem dX10_funded_15 : decode cX10_funded 15 = .ok (.aload_n 0, 1) := by decide +kernel
theorem dX10_funded_16 : decode cX10_funded 16 = .ok (.invokevirtual 296, 3) := by decide +kernel
theorem dX10_funded_19 : decode cX10_funded 19 = .ok (.ireturn, 1) := by decide +kernel
theorem dX10_bestSum_0 : decode cX10_bestSum 0 = .ok (.aload_n 0, 1) := by decide +kernel
theorem dX10_bestSum_1 : decode cX10_bestSum 1 = .ok (.aload_n 0, 1) := by decide +kernel
theorem dX10_bestSum_2 : decode cX10_bestSum 2 = .ok (.iload_n 1, 1) := by decide +kernel
theorem dX10_bestSum_3 : decode cX10_bestSum 3 = .ok (.invokevirtual 205, 3) := by decide +kernel
theorem dX10_bestSum_6 : decode cX10_bestSum 6 = .ok (.ifCond .eq 7, 3) := by decide +kernel
theorem dX10_bestSum_9 : decode cX10_bestSum 9 = .ok (.iconst 0, 1) := by decide +kernel
theorem dX10_bestSum_10 : decode cX10_bestSum 10 = .ok (.goto 4, 3) := by decide +kernel
theorem dX10_bestSum_13 : decode cX10_bestSum 13 = .ok (.iconst 1, 1) := by decide +kernel
theorem dX10_bestSum_14 : decode cX10_bestSum 14 = .ok (.putfield 50, 3) := by decide +kernel
theorem dX10_bestSum_17 : decode cX10_bestSum 17 = .ok (.aload_n 0, 1) := by decide +kernel
theorem dX10_bestSum_18 : decode cX10_bestSum 18 = .ok (.getfield 50, 3) := by decide +kernel
theorem dX10_bestSum_21 : decode cX10_bestSum 21 = .ok (.ifCond .le 5, 3) := by decide +kernel
theorem dX10_bestSum_24 : decode cX10_bestSum 24 = .ok (.iconst 0, 1) := by decide +kernel
theorem dX10_bestSum_25 : decode cX10_bestSum 25 = .ok (.ireturn, 1) := by decide +kernel
theorem dX10_bestSum_26 : decode cX10_bestSum 26 = .ok (.aload_n 0, 1) := by decide +kernel
theorem dX10_bestSum_27 : decode cX10_bestSum 27 = .ok (.invokevirtual 284, 3) := by decide +kernel
theorem dX10_bestSum_30 : decode cX10_bestSum 30 = .ok (.iconst 0, 1) := by decide +kernel
theorem dX10_bestSum_31 : decode cX10_bestSum 31 = .ok (.istore_n 2, 1) := by decide +kernel
theorem dX10_bestSum_32 : decode cX10_bestSum 32 = .ok (.iconst 0, 1) := by decide +kernel
theorem dX10_bestSum_33 : decode cX10_bestSum 33 = .ok (.istore_n 3, 1) := by decide +kernel
theorem dX10_bestSum_34 : decode cX10_bestSum 34 = .ok (.iload_n 3, 1) := by decide +kernel
theorem dX10_bestSum_35 : decode cX10_bestSum 35 = .ok (.iconst 1, 1) := by decide +kernel
theorem dX10_bestSum_36 : decode cX10_bestSum 36 = .ok (.aload_n 0, 1) := by decide +kernel
theorem dX10_bestSum_37 : decode cX10_bestSum 37 = .ok (.getfield 274, 3) := by decide +kernel
theorem dX10_bestSum_40 : decode cX10_bestSum 40 = .ok (.ishl, 1) := by decide +kernel
theorem dX10_bestSum_41 : decode cX10_bestSum 41 = .ok (.if_icmp .ge 203, 3) := by decide +kernel
theorem dX10_bestSum_44 : decode cX10_bestSum 44 = .ok (.iconst 0, 1) := by decide +kernel
theorem dX10_bestSum_45 : decode cX10_bestSum 45 = .ok (.istore 4, 2) := by decide +kernel
theorem dX10_bestSum_47 : decode cX10_bestSum 47 = .ok (.iconst 0, 1) := by decide +kernel
theorem dX10_bestSum_48 : decode cX10_bestSum 48 = .ok (.istore 5, 2) := by decide +kernel
theorem dX10_bestSum_50 : decode cX10_bestSum 50 = .ok (.iconst 0, 1) := by decide +kernel
theorem dX10_bestSum_51 : decode cX10_bestSum 51 = .ok (.istore 6, 2) := by decide +kernel
theorem dX10_bestSum_53 : decode cX10_bestSum 53 = .ok (.iload 6, 2) := by decide +kernel
theorem dX10_bestSum_55 : decode cX10_bestSum 55 = .ok (.aload_n 0, 1) := by decide +kernel
theorem dX10_bestSum_56 : decode cX10_bestSum 56 = .ok (.getfield 274, 3) := by decide +kernel
theorem dX10_bestSum_59 : decode cX10_bestSum 59 = .ok (.if_icmp .ge 152, 3) := by decide +kernel
theorem dX10_bestSum_62 : decode cX10_bestSum 62 = .ok (.iload 4, 2) := by decide +kernel
theorem dX10_bestSum_64 : decode cX10_bestSum 64 = .ok (.aload_n 0, 1) := by decide +kernel
theorem dX10_bestSum_65 : decode cX10_bestSum 65 = .ok (.getfield 7, 3) := by decide +kernel
theorem dX10_bestSum_68 : decode cX10_bestSum 68 = .ok (.bipush 7, 2) := by decide +kernel
theorem dX10_bestSum_70 : decode cX10_bestSum 70 = .ok (.iload_n 1, 1) := by decide +kernel
theorem dX10_bestSum_71 : decode cX10_bestSum 71 = .ok (.iadd, 1) := by decide +kernel
theorem dX10_bestSum_72 : decode cX10_bestSum 72 = .ok (.iaload, 1) := by decide +kernel
theorem dX10_bestSum_73 : decode cX10_bestSum 73 = .ok (.if_icmp .gt 138, 3) := by decide +kernel
theorem dX10_bestSum_76 : decode cX10_bestSum 76 = .ok (.aload_n 0, 1) := by decide +kernel
theorem dX10_bestSum_77 : decode cX10_bestSum 77 = .ok (.aload_n 0, 1) := by decide +kernel
theorem dX10_bestSum_78 : decode cX10_bestSum 78 = .ok (.getfield 38, 3) := by decide +kernel
theorem dX10_bestSum_81 : decode cX10_bestSum 81 = .ok (.iload 6, 2) := by decide +kernel
theorem dX10_bestSum_83 : decode cX10_bestSum 83 = .ok (.iaload, 1) := by decide +kernel
theorem dX10_bestSum_84 : decode cX10_bestSum 84 = .ok (.iconst 0, 1) := by decide +kernel
theorem dX10_bestSum_85 : decode cX10_bestSum 85 = .ok (.invokevirtual 165, 3) := by decide +kernel
theorem dX10_bestSum_88 : decode cX10_bestSum 88 = .ok (.iload_n 1, 1) := by decide +kernel
theorem dX10_bestSum_89 : decode cX10_bestSum 89 = .ok (.if_icmp .ne 28, 3) := by decide +kernel
theorem dX10_bestSum_92 : decode cX10_bestSum 92 = .ok (.aload_n 0, 1) := by decide +kernel
theorem dX10_bestSum_93 : decode cX10_bestSum 93 = .ok (.getfield 41, 3) := by decide +kernel
theorem dX10_bestSum_96 : decode cX10_bestSum 96 = .ok (.aload_n 0, 1) := by decide +kernel
theorem dX10_bestSum_97 : decode cX10_bestSum 97 = .ok (.getfield 38, 3) := by decide +kernel
theorem dX10_bestSum_100 : decode cX10_bestSum 100 = .ok (.iload 6, 2) := by decide +kernel
theorem dX10_bestSum_102 : decode cX10_bestSum 102 = .ok (.iaload, 1) := by decide +kernel
theorem dX10_bestSum_103 : decode cX10_bestSum 103 = .ok (.iaload, 1) := by decide +kernel
theorem dX10_bestSum_104 : decode cX10_bestSum 104 = .ok (.aload_n 0, 1) := by decide +kernel
theorem dX10_bestSum_105 : decode cX10_bestSum 105 = .ok (.getfield 16, 3) := by decide +kernel
theorem dX10_bestSum_108 : decode cX10_bestSum 108 = .ok (.iconst 0, 1) := by decide +kernel
theorem dX10_bestSum_109 : decode cX10_bestSum 109 = .ok (.iaload, 1) := by decide +kernel
theorem dX10_bestSum_110 : decode cX10_bestSum 110 = .ok (.if_icmp .lt 7, 3) := by decide +kernel
theorem dX10_bestSum_113 : decode cX10_bestSum 113 = .ok (.iconst 1, 1) := by decide +kernel
theorem dX10_bestSum_114 : decode cX10_bestSum 114 = .ok (.goto 4, 3) := by decide +kernel
theorem dX10_bestSum_117 : decode cX10_bestSum 117 = .ok (.iconst 0, 1) := by decide +kernel
theorem dX10_bestSum_118 : decode cX10_bestSum 118 = .ok (.istore 7, 2) := by decide +kernel
theorem dX10_bestSum_120 : decode cX10_bestSum 120 = .ok (.iload_n 3, 1) := by decide +kernel
theorem dX10_bestSum_121 : decode cX10_bestSum 121 = .ok (.iload 6, 2) := by decide +kernel
theorem dX10_bestSum_123 : decode cX10_bestSum 123 = .ok (.invokestatic 150, 3) := by decide +kernel
theorem dX10_bestSum_126 : decode cX10_bestSum 126 = .ok (.ifCond .ne 8, 3) := by decide +kernel
theorem dX10_bestSum_129 : decode cX10_bestSum 129 = .ok (.iload 4, 2) := by decide +kernel
theorem dX10_bestSum_131 : decode cX10_bestSum 131 = .ok (.goto 37, 3) := by decide +kernel
theorem dX10_bestSum_134 : decode cX10_bestSum 134 = .ok (.iload 7, 2) := by decide +kernel
theorem dX10_bestSum_136 : decode cX10_bestSum 136 = .ok (.ifCond .eq 21, 3) := by decide +kernel
theorem dX10_bestSum_139 : decode cX10_bestSum 139 = .ok (.iload 4, 2) := by decide +kernel
theorem dX10_bestSum_141 : decode cX10_bestSum 141 = .ok (.aload_n 0, 1) := by decide +kernel
theorem dX10_bestSum_142 : decode cX10_bestSum 142 = .ok (.aload_n 0, 1) := by decide +kernel
theorem dX10_bestSum_143 : decode cX10_bestSum 143 = .ok (.getfield 38, 3) := by decide +kernel
theorem dX10_bestSum_146 : decode cX10_bestSum 146 = .ok (.iload 6, 2) := by decide +kernel
theorem dX10_bestSum_148 : decode cX10_bestSum 148 = .ok (.iaload, 1) := by decide +kernel
theorem dX10_bestSum_149 : decode cX10_bestSum 149 = .ok (.iconst 3, 1) := by decide +kernel
theorem dX10_bestSum_150 : decode cX10_bestSum 150 = .ok (.invokevirtual 165, 3) := by decide +kernel
theorem dX10_bestSum_153 : decode cX10_bestSum 153 = .ok (.iadd, 1) := by decide +kernel
theorem dX10_bestSum_154 : decode cX10_bestSum 154 = .ok (.goto 14, 3) := by decide +kernel
theorem dX10_bestSum_157 : decode cX10_bestSum 157 = .ok (.aload_n 0, 1) := by decide +kernel
theorem dX10_bestSum_158 : decode cX10_bestSum 158 = .ok (.getfield 7, 3) := by decide +kernel
theorem dX10_bestSum_161 : decode cX10_bestSum 161 = .ok (.bipush 7, 2) := by decide +kernel
theorem dX10_bestSum_163 : decode cX10_bestSum 163 = .ok (.iload_n 1, 1) := by decide +kernel
theorem dX10_bestSum_164 : decode cX10_bestSum 164 = .ok (.iadd, 1) := by decide +kernel
theorem dX10_bestSum_165 : decode cX10_bestSum 165 = .ok (.iaload, 1) := by decide +kernel
theorem dX10_bestSum_166 : decode cX10_bestSum 166 = .ok (.iconst 1, 1) := by decide +kernel
theorem dX10_bestSum_167 : decode cX10_bestSum 167 = .ok (.iadd, 1) := by decide +kernel
theorem dX10_bestSum_168 : decode cX10_bestSum 168 = .ok (.istore 4, 2) := by decide +kernel
theorem dX10_bestSum_170 : decode cX10_bestSum 170 = .ok (.iload 5, 2) := by decide +kernel
theorem dX10_bestSum_172 : decode cX10_bestSum 172 = .ok (.iload_n 3, 1) := by decide +kernel
theorem dX10_bestSum_173 : decode cX10_bestSum 173 = .ok (.iload 6, 2) := by decide +kernel
theorem dX10_bestSum_175 : decode cX10_bestSum 175 = .ok (.invokestatic 150, 3) := by decide +kernel
theorem dX10_bestSum_178 : decode cX10_bestSum 178 = .ok (.ifCond .eq 23, 3) := by decide +kernel
theorem dX10_bestSum_181 : decode cX10_bestSum 181 = .ok (.iload 7, 2) := by decide +kernel
theorem dX10_bestSum_183 : decode cX10_bestSum 183 = .ok (.ifCond .eq 18, 3) := by decide +kernel
theorem dX10_bestSum_186 : decode cX10_bestSum 186 = .ok (.aload_n 0, 1) := by decide +kernel
theorem dX10_bestSum_187 : decode cX10_bestSum 187 = .ok (.getfield 41, 3) := by decide +kernel
theorem dX10_bestSum_190 : decode cX10_bestSum 190 = .ok (.aload_n 0, 1) := by decide +kernel
theorem dX10_bestSum_191 : decode cX10_bestSum 191 = .ok (.getfield 38, 3) := by decide +kernel
theorem dX10_bestSum_194 : decode cX10_bestSum 194 = .ok (.iload 6, 2) := by decide +kernel
theorem dX10_bestSum_196 : decode cX10_bestSum 196 = .ok (.iaload, 1) := by decide +kernel
theorem dX10_bestSum_197 : decode cX10_bestSum 197 = .ok (.iaload, 1) := by decide +kernel
theorem dX10_bestSum_198 : decode cX10_bestSum 198 = .ok (.goto 4, 3) := by decide +kernel
theorem dX10_bestSum_201 : decode cX10_bestSum 201 = .ok (.iconst 0, 1) := by decide +kernel
theorem dX10_bestSum_202 : decode cX10_bestSum 202 = .ok (.iadd, 1) := by decide +kernel
theorem dX10_bestSum_203 : decode cX10_bestSum 203 = .ok (.istore 5, 2) := by decide +kernel
theorem dX10_bestSum_205 : decode cX10_bestSum 205 = .ok (.iinc 6 1, 3) := by decide +kernel
theorem dX10_bestSum_208 : decode cX10_bestSum 208 = .ok (.goto (-155), 3) := by decide +kernel
theorem dX10_bestSum_211 : decode cX10_bestSum 211 = .ok (.iload 4, 2) := by decide +kernel
theorem dX10_bestSum_213 : decode cX10_bestSum 213 = .ok (.aload_n 0, 1) := by decide +kernel
theorem dX10_bestSum_214 : decode cX10_bestSum 214 = .ok (.getfield 7, 3) := by decide +kernel
theorem dX10_bestSum_217 : decode cX10_bestSum 217 = .ok (.bipush 7, 2) := by decide +kernel
theorem dX10_bestSum_219 : decode cX10_bestSum 219 = .ok (.iload_n 1, 1) := by decide +kernel
theorem dX10_bestSum_220 : decode cX10_bestSum 220 = .ok (.iadd, 1) := by decide +kernel
theorem dX10_bestSum_221 : decode cX10_bestSum 221 = .ok (.iaload, 1) := by decide +kernel
theorem dX10_bestSum_222 : decode cX10_bestSum 222 = .ok (.if_icmp .gt 14, 3) := by decide +kernel
theorem dX10_bestSum_225 : decode cX10_bestSum 225 = .ok (.iload 5, 2) := by decide +kernel
theorem dX10_bestSum_227 : decode cX10_bestSum 227 = .ok (.iload_n 2, 1) := by decide +kernel
theorem dX10_bestSum_228 : decode cX10_bestSum 228 = .ok (.if_icmp .le 8, 3) := by decide +kernel
theorem dX10_bestSum_231 : decode cX10_bestSum 231 = .ok (.iload 5, 2) := by decide +kernel
theorem dX10_bestSum_233 : decode cX10_bestSum 233 = .ok (.goto 4, 3) := by decide +kernel
theorem dX10_bestSum_236 : decode cX10_bestSum 236 = .ok (.iload_n 2, 1) := by decide +kernel
theorem dX10_bestSum_237 : decode cX10_bestSum 237 = .ok (.istore_n 2, 1) := by decide +kernel
theorem dX10_bestSum_238 : decode cX10_bestSum 238 = .ok (.iinc 3 1, 3) := by decide +kernel
theorem dX10_bestSum_241 : decode cX10_bestSum 241 = .ok (.goto (-207), 3) := by decide +kernel
theorem dX10_bestSum_244 : decode cX10_bestSum 244 = .ok (.iload_n 2, 1) := by decide +kernel
theorem dX10_bestSum_245 : decode cX10_bestSum 245 = .ok (.ireturn, 1) := by decide +kernel
theorem dX10_lineFor_0 : decode cX10_lineFor 0 = .ok (.aload_n 0, 1) := by decide +kernel
theorem dX10_lineFor_1 : decode cX10_lineFor 1 = .ok (.iload_n 1, 1) := by decide +kernel
theorem dX10_lineFor_2 : decode cX10_lineFor 2 = .ok (.iconst 0, 1) := by decide +kernel
theorem dX10_lineFor_3 : decode cX10_lineFor 3 = .ok (.iconst 2, 1) := by decide +kernel
theorem dX10_lineFor_4 : decode cX10_lineFor 4 = .ok (.invokestatic 53, 3) := by decide +kernel
theorem dX10_lineFor_7 : decode cX10_lineFor 7 = .ok (.ifCond .eq 17, 3) := by decide +kernel
theorem dX10_lineFor_10 : decode cX10_lineFor 10 = .ok (.iload_n 2, 1) := by decide +kernel
theorem dX10_lineFor_11 : decode cX10_lineFor 11 = .ok (.iconst 1, 1) := by decide +kernel
theorem dX10_lineFor_12 : decode cX10_lineFor 12 = .ok (.bipush 16, 2) := by decide +kernel
theorem dX10_lineFor_14 : decode cX10_lineFor 14 = .ok (.invokestatic 53, 3) := by decide +kernel
theorem dX10_lineFor_17 : decode cX10_lineFor 17 = .ok (.ifCond .eq 7, 3) := by decide +kernel
theorem dX10_lineFor_20 : decode cX10_lineFor 20 = .ok (.iconst 0, 1) := by decide +kernel
theorem dX10_lineFor_21 : decode cX10_lineFor 21 = .ok (.goto 4, 3) := by decide +kernel
theorem dX10_lineFor_24 : decode cX10_lineFor 24 = .ok (.iconst 1, 1) := by decide +kernel
theorem dX10_lineFor_25 : decode cX10_lineFor 25 = .ok (.putfield 50, 3) := by decide +kernel
theorem dX10_lineFor_28 : decode cX10_lineFor 28 = .ok (.aload_n 0, 1) := by decide +kernel
theorem dX10_lineFor_29 : decode cX10_lineFor 29 = .ok (.getfield 50, 3) := by decide +kernel
theorem dX10_lineFor_32 : decode cX10_lineFor 32 = .ok (.ifCond .le 5, 3) := by decide +kernel
theorem dX10_lineFor_35 : decode cX10_lineFor 35 = .ok (.iconst 0, 1) := by decide +kernel
theorem dX10_lineFor_36 : decode cX10_lineFor 36 = .ok (.ireturn, 1) := by decide +kernel
theorem dX10_lineFor_37 : decode cX10_lineFor 37 = .ok (.aload_n 0, 1) := by decide +kernel
theorem dX10_lineFor_38 : decode cX10_lineFor 38 = .ok (.invokevirtual 284, 3) := by decide +kernel
theorem dX10_lineFor_41 : decode cX10_lineFor 41 = .ok (.iconst (-1), 1) := by decide +kernel
theorem dX10_lineFor_42 : decode cX10_lineFor 42 = .ok (.istore_n 3, 1) := by decide +kernel
theorem dX10_lineFor_43 : decode cX10_lineFor 43 = .ok (.iconst 0, 1) := by decide +kernel
theorem dX10_lineFor_44 : decode cX10_lineFor 44 = .ok (.istore 4, 2) := by decide +kernel
theorem dX10_lineFor_46 : decode cX10_lineFor 46 = .ok (.iload 4, 2) := by decide +kernel
theorem dX10_lineFor_48 : decode cX10_lineFor 48 = .ok (.aload_n 0, 1) := by decide +kernel
theorem dX10_lineFor_49 : decode cX10_lineFor 49 = .ok (.getfield 274, 3) := by decide +kernel
theorem dX10_lineFor_52 : decode cX10_lineFor 52 = .ok (.if_icmp .ge 76, 3) := by decide +kernel
theorem dX10_lineFor_55 : decode cX10_lineFor 55 = .ok (.aload_n 0, 1) := by decide +kernel
theorem dX10_lineFor_56 : decode cX10_lineFor 56 = .ok (.getfield 41, 3) := by decide +kernel
theorem dX10_lineFor_59 : decode cX10_lineFor 59 = .ok (.aload_n 0, 1) := by decide +kernel
theorem dX10_lineFor_60 : decode cX10_lineFor 60 = .ok (.getfield 38, 3) := by decide +kernel
theorem dX10_lineFor_63 : decode cX10_lineFor 63 = .ok (.iload 4, 2) := by decide +kernel
theorem dX10_lineFor_65 : decode cX10_lineFor 65 = .ok (.iaload, 1) := by decide +kernel
theorem dX10_lineFor_66 : decode cX10_lineFor 66 = .ok (.iaload, 1) := by decide +kernel
theorem dX10_lineFor_67 : decode cX10_lineFor 67 = .ok (.ldc 103, 2) := by decide +kernel
theorem dX10_lineFor_69 : decode cX10_lineFor 69 = .ok (.if_icmp .le 8, 3) := by decide +kernel
theorem dX10_lineFor_72 : decode cX10_lineFor 72 = .ok (.ldc 103, 2) := by decide +kernel
theorem dX10_lineFor_74 : decode cX10_lineFor 74 = .ok (.goto 15, 3) := by decide +kernel
theorem dX10_lineFor_77 : decode cX10_lineFor 77 = .ok (.aload_n 0, 1) := by decide +kernel
theorem dX10_lineFor_78 : decode cX10_lineFor 78 = .ok (.getfield 41, 3) := by decide +kernel
theorem dX10_lineFor_81 : decode cX10_lineFor 81 = .ok (.aload_n 0, 1) := by decide +kernel
theorem dX10_lineFor_82 : decode cX10_lineFor 82 = .ok (.getfield 38, 3) := by decide +kernel
theorem dX10_lineFor_85 : decode cX10_lineFor 85 = .ok (.iload 4, 2) := by decide +kernel
theorem dX10_lineFor_87 : decode cX10_lineFor 87 = .ok (.iaload, 1) := by decide +kernel
theorem dX10_lineFor_88 : decode cX10_lineFor 88 = .ok (.iaload, 1) := by decide +kernel
theorem dX10_lineFor_89 : decode cX10_lineFor 89 = .ok (.istore 5, 2) := by decide +kernel
theorem dX10_lineFor_91 : decode cX10_lineFor 91 = .ok (.iload 5, 2) := by decide +kernel
theorem dX10_lineFor_93 : decode cX10_lineFor 93 = .ok (.iload_n 3, 1) := by decide +kernel
theorem dX10_lineFor_94 : decode cX10_lineFor 94 = .ok (.if_icmp .le 28, 3) := by decide +kernel
theorem dX10_lineFor_97 : decode cX10_lineFor 97 = .ok (.aload_n 0, 1) := by decide +kernel
theorem dX10_lineFor_98 : decode cX10_lineFor 98 = .ok (.iload_n 1, 1) := by decide +kernel
theorem dX10_lineFor_99 : decode cX10_lineFor 99 = .ok (.iload 5, 2) := by decide +kernel
theorem dX10_lineFor_101 : decode cX10_lineFor 101 = .ok (.invokevirtual 287, 3) := by decide +kernel
theorem dX10_lineFor_104 : decode cX10_lineFor 104 = .ok (.aload_n 0, 1) := by decide +kernel
theorem dX10_lineFor_105 : decode cX10_lineFor 105 = .ok (.invokevirtual 296, 3) := by decide +kernel
theorem dX10_lineFor_108 : decode cX10_lineFor 108 = .ok (.invokestatic 156, 3) := by decide +kernel
theorem dX10_lineFor_111 : decode cX10_lineFor 111 = .ok (.iload_n 2, 1) := by decide +kernel
theorem dX10_lineFor_112 : decode cX10_lineFor 112 = .ok (.if_icmp .lt 8, 3) := by decide +kernel
theorem dX10_lineFor_115 : decode cX10_lineFor 115 = .ok (.iload 5, 2) := by decide +kernel
theorem dX10_lineFor_117 : decode cX10_lineFor 117 = .ok (.goto 4, 3) := by decide +kernel
theorem dX10_lineFor_120 : decode cX10_lineFor 120 = .ok (.iload_n 3, 1) := by decide +kernel
theorem dX10_lineFor_121 : decode cX10_lineFor 121 = .ok (.istore_n 3, 1) := by decide +kernel
theorem dX10_lineFor_122 : decode cX10_lineFor 122 = .ok (.iinc 4 1, 3) := by decide +kernel
theorem dX10_lineFor_125 : decode cX10_lineFor 125 = .ok (.goto (-79), 3) := by decide +kernel
theorem dX10_lineFor_128 : decode cX10_lineFor 128 = .ok (.iload_n 3, 1) := by decide +kernel
theorem dX10_lineFor_129 : decode cX10_lineFor 129 = .ok (.ireturn, 1) := by decide +kernel
theorem dX10_appeal_0 : decode cX10_appeal 0 = .ok (.aload_n 0, 1) := by decide +kernel
theorem dX10_appeal_1 : decode cX10_appeal 1 = .ok (.iload_n 1, 1) := by decide +kernel
theorem dX10_appeal_2 : decode cX10_appeal 2 = .ok (.iload_n 2, 1) := by decide +kernel
theorem dX10_appeal_3 : decode cX10_appeal 3 = .ok (.invokevirtual 184, 3) := by decide +kernel
theorem dX10_appeal_6 : decode cX10_appeal 6 = .ok (.ifCond .ne 5, 3) := by decide +kernel
theorem dX10_appeal_9 : decode cX10_appeal 9 = .ok (.iconst 0, 1) := by decide +kernel
theorem dX10_appeal_10 : decode cX10_appeal 10 = .ok (.ireturn, 1) := by decide +kernel
theorem dX10_appeal_11 : decode cX10_appeal 11 = .ok (.aload_n 0, 1) := by decide +kernel
theorem dX10_appeal_12 : decode cX10_appeal 12 = .ok (.iload_n 2, 1) := by decide +kernel
theorem dX10_appeal_13 : decode cX10_appeal 13 = .ok (.invokevirtual 246, 3) := by decide +kernel
theorem dX10_appeal_16 : decode cX10_appeal 16 = .ok (.iconst 1, 1) := by decide +kernel
theorem dX10_appeal_17 : decode cX10_appeal 17 = .ok (.isub, 1) := by decide +kernel
theorem dX10_appeal_18 : decode cX10_appeal 18 = .ok (.istore_n 3, 1) := by decide +kernel
theorem dX10_appeal_19 : decode cX10_appeal 19 = .ok (.aload_n 0, 1) := by decide +kernel
theorem dX10_appeal_20 : decode cX10_appeal 20 = .ok (.aload_n 0, 1) := by decide +kernel
theorem dX10_appeal_21 : decode cX10_appeal 21 = .ok (.iload_n 1, 1) := by decide +kernel
theorem dX10_appeal_22 : decode cX10_appeal 22 = .ok (.iload_n 2, 1) := by decide +kernel
theorem dX10_appeal_23 : decode cX10_appeal 23 = .ok (.invokevirtual 240, 3) := by decide +kernel
theorem dX10_appeal_26 : decode cX10_appeal 26 = .ok (.ifCond .ne 7, 3) := by decide +kernel
theorem dX10_appeal_29 : decode cX10_appeal 29 = .ok (.iconst 2, 1) := by decide +kernel
theorem dX10_appeal_30 : decode cX10_appeal 30 = .ok (.goto 25, 3) := by decide +kernel
theorem dX10_appeal_33 : decode cX10_appeal 33 = .ok (.iload_n 3, 1) := by decide +kernel
theorem dX10_appeal_34 : decode cX10_appeal 34 = .ok (.ifCond .eq 16, 3) := by decide +kernel
theorem dX10_appeal_37 : decode cX10_appeal 37 = .ok (.aload_n 0, 1) := by decide +kernel
theorem dX10_appeal_38 : decode cX10_appeal 38 = .ok (.getfield 16, 3) := by decide +kernel
theorem dX10_appeal_41 : decode cX10_appeal 41 = .ok (.iconst 1, 1) := by decide +kernel
theorem dX10_appeal_42 : decode cX10_appeal 42 = .ok (.iaload, 1) := by decide +kernel
theorem dX10_appeal_43 : decode cX10_appeal 43 = .ok (.iload_n 2, 1) := by decide +kernel
theorem dX10_appeal_44 : decode cX10_appeal 44 = .ok (.invokestatic 150, 3) := by decide +kernel
theorem dX10_appeal_47 : decode cX10_appeal 47 = .ok (.ifCond .eq 7, 3) := by decide +kernel
theorem dX10_appeal_50 : decode cX10_appeal 50 = .ok (.iconst 3, 1) := by decide +kernel
theorem dX10_appeal_51 : decode cX10_appeal 51 = .ok (.goto 4, 3) := by decide +kernel
theorem dX10_appeal_54 : decode cX10_appeal 54 = .ok (.iconst 0, 1) := by decide +kernel
theorem dX10_appeal_55 : decode cX10_appeal 55 = .ok (.putfield 50, 3) := by decide +kernel
theorem dX10_appeal_58 : decode cX10_appeal 58 = .ok (.aload_n 0, 1) := by decide +kernel
theorem dX10_appeal_59 : decode cX10_appeal 59 = .ok (.getfield 50, 3) := by decide +kernel
theorem dX10_appeal_62 : decode cX10_appeal 62 = .ok (.ifCond .le 5, 3) := by decide +kernel
theorem dX10_appeal_65 : decode cX10_appeal 65 = .ok (.iconst 0, 1) := by decide +kernel
theorem dX10_appeal_66 : decode cX10_appeal 66 = .ok (.ireturn, 1) := by decide +kernel
theorem dX10_appeal_67 : decode cX10_appeal 67 = .ok (.iconst 0, 1) := by decide +kernel
theorem dX10_appeal_68 : decode cX10_appeal 68 = .ok (.istore 4, 2) := by decide +kernel
theorem dX10_appeal_70 : decode cX10_appeal 70 = .ok (.iconst 0, 1) := by decide +kernel
theorem dX10_appeal_71 : decode cX10_appeal 71 = .ok (.istore 5, 2) := by decide +kernel
theorem dX10_appeal_73 : decode cX10_appeal 73 = .ok (.iload 5, 2) := by decide +kernel
theorem dX10_appeal_75 : decode cX10_appeal 75 = .ok (.aload_n 0, 1) := by decide +kernel
theorem dX10_appeal_76 : decode cX10_appeal 76 = .ok (.getfield 7, 3) := by decide +kernel
theorem dX10_appeal_79 : decode cX10_appeal 79 = .ok (.iconst 1, 1) := by decide +kernel
theorem dX10_appeal_80 : decode cX10_appeal 80 = .ok (.iaload, 1) := by decide +kernel
theorem dX10_appeal_81 : decode cX10_appeal 81 = .ok (.if_icmp .ge 31, 3) := by decide +kernel
theorem dX10_appeal_84 : decode cX10_appeal 84 = .ok (.iload 4, 2) := by decide +kernel
theorem dX10_appeal_86 : decode cX10_appeal 86 = .ok (.iload 5, 2) := by decide +kernel
theorem dX10_appeal_88 : decode cX10_appeal 88 = .ok (.iload_n 1, 1) := by decide +kernel
theorem dX10_appeal_89 : decode cX10_appeal 89 = .ok (.if_icmp .ne 7, 3) := by decide +kernel
theorem dX10_appeal_92 : decode cX10_appeal 92 = .ok (.iconst 0, 1) := by decide +kernel
theorem dX10_appeal_93 : decode cX10_appeal 93 = .ok (.goto 10, 3) := by decide +kernel
theorem dX10_appeal_96 : decode cX10_appeal 96 = .ok (.aload_n 0, 1) := by decide +kernel
theorem dX10_appeal_97 : decode cX10_appeal 97 = .ok (.iload 5, 2) := by decide +kernel
theorem dX10_appeal_99 : decode cX10_appeal 99 = .ok (.iload_n 2, 1) := by decide +kernel
theorem dX10_appeal_100 : decode cX10_appeal 100 = .ok (.invokevirtual 159, 3) := by decide +kernel
theorem dX10_appeal_103 : decode cX10_appeal 103 = .ok (.iadd, 1) := by decide +kernel
theorem dX10_appeal_104 : decode cX10_appeal 104 = .ok (.istore 4, 2) := by decide +kernel
theorem dX10_appeal_106 : decode cX10_appeal 106 = .ok (.iinc 5 1, 3) := by decide +kernel
theorem dX10_appeal_109 : decode cX10_appeal 109 = .ok (.goto (-36), 3) := by decide +kernel
theorem dX10_appeal_112 : decode cX10_appeal 112 = .ok (.iload_n 3, 1) := by decide +kernel
theorem dX10_appeal_113 : decode cX10_appeal 113 = .ok (.aload_n 0, 1) := by decide +kernel
theorem dX10_appeal_114 : decode cX10_appeal 114 = .ok (.iload_n 1, 1) := by decide +kernel
theorem dX10_appeal_115 : decode cX10_appeal 115 = .ok (.iload_n 2, 1) := by decide +kernel
theorem dX10_appeal_116 : decode cX10_appeal 116 = .ok (.invokevirtual 159, 3) := by decide +kernel
theorem dX10_appeal_119 : decode cX10_appeal 119 = .ok (.imul, 1) := by decide +kernel
theorem dX10_appeal_120 : decode cX10_appeal 120 = .ok (.iload 4, 2) := by decide +kernel
theorem dX10_appeal_122 : decode cX10_appeal 122 = .ok (.isub, 1) := by decide +kernel
theorem dX10_appeal_123 : decode cX10_appeal 123 = .ok (.istore 5, 2) := by decide +kernel
theorem dX10_appeal_125 : decode cX10_appeal 125 = .ok (.iload 5, 2) := by decide +kernel
theorem dX10_appeal_127 : decode cX10_appeal 127 = .ok (.ifCond .ge 9, 3) := by decide +kernel
theorem dX10_appeal_130 : decode cX10_appeal 130 = .ok (.iload 5, 2) := by decide +kernel
theorem dX10_appeal_132 : decode cX10_appeal 132 = .ok (.ineg, 1) := by decide +kernel
theorem dX10_appeal_133 : decode cX10_appeal 133 = .ok (.goto 5, 3) := by decide +kernel
theorem dX10_appeal_136 : decode cX10_appeal 136 = .ok (.iload 5, 2) := by decide +kernel
theorem dX10_appeal_138 : decode cX10_appeal 138 = .ok (.iload_n 3, 1) := by decide +kernel
theorem dX10_appeal_139 : decode cX10_appeal 139 = .ok (.aload_n 0, 1) := by decide +kernel
theorem dX10_appeal_140 : decode cX10_appeal 140 = .ok (.getfield 7, 3) := by decide +kernel
theorem dX10_appeal_143 : decode cX10_appeal 143 = .ok (.bipush 6, 2) := by decide +kernel
theorem dX10_appeal_145 : decode cX10_appeal 145 = .ok (.iaload, 1) := by decide +kernel
theorem dX10_appeal_146 : decode cX10_appeal 146 = .ok (.imul, 1) := by decide +kernel
theorem dX10_appeal_147 : decode cX10_appeal 147 = .ok (.if_icmp .gt 5, 3) := by decide +kernel
theorem dX10_appeal_150 : decode cX10_appeal 150 = .ok (.iconst 0, 1) := by decide +kernel
theorem dX10_appeal_151 : decode cX10_appeal 151 = .ok (.ireturn, 1) := by decide +kernel
theorem dX10_appeal_152 : decode cX10_appeal 152 = .ok (.aload_n 0, 1) := by decide +kernel
theorem dX10_appeal_153 : decode cX10_appeal 153 = .ok (.invokevirtual 190, 3) := by decide +kernel
theorem dX10_appeal_156 : decode cX10_appeal 156 = .ok (.aload_n 0, 1) := by decide +kernel
theorem dX10_appeal_157 : decode cX10_appeal 157 = .ok (.iload_n 1, 1) := by decide +kernel
theorem dX10_appeal_158 : decode cX10_appeal 158 = .ok (.iload_n 2, 1) := by decide +kernel
theorem dX10_appeal_159 : decode cX10_appeal 159 = .ok (.invokevirtual 199, 3) := by decide +kernel
theorem dX10_appeal_162 : decode cX10_appeal 162 = .ok (.aload_n 0, 1) := by decide +kernel
theorem dX10_appeal_163 : decode cX10_appeal 163 = .ok (.getfield 16, 3) := by decide +kernel
theorem dX10_appeal_166 : decode cX10_appeal 166 = .ok (.iconst 2, 1) := by decide +kernel
theorem dX10_appeal_167 : decode cX10_appeal 167 = .ok (.iload_n 1, 1) := by decide +kernel
theorem dX10_appeal_168 : decode cX10_appeal 168 = .ok (.iadd, 1) := by decide +kernel
theorem dX10_appeal_169 : decode cX10_appeal 169 = .ok (.dup2, 1) := by decide +kernel
theorem dX10_appeal_170 : decode cX10_appeal 170 = .ok (.iaload, 1) := by decide +kernel
theorem dX10_appeal_171 : decode cX10_appeal 171 = .ok (.iconst 1, 1) := by decide +kernel
theorem dX10_appeal_172 : decode cX10_appeal 172 = .ok (.iload_n 2, 1) := by decide +kernel
theorem dX10_appeal_173 : decode cX10_appeal 173 = .ok (.ishl, 1) := by decide +kernel
theorem dX10_appeal_174 : decode cX10_appeal 174 = .ok (.ior, 1) := by decide +kernel
theorem dX10_appeal_175 : decode cX10_appeal 175 = .ok (.iastore, 1) := by decide +kernel
theorem dX10_appeal_176 : decode cX10_appeal 176 = .ok (.aload_n 0, 1) := by decide +kernel
theorem dX10_appeal_177 : decode cX10_appeal 177 = .ok (.getfield 16, 3) := by decide +kernel
theorem dX10_appeal_180 : decode cX10_appeal 180 = .ok (.iconst 1, 1) := by decide +kernel
theorem dX10_appeal_181 : decode cX10_appeal 181 = .ok (.dup2, 1) := by decide +kernel
theorem dX10_appeal_182 : decode cX10_appeal 182 = .ok (.iaload, 1) := by decide +kernel
theorem dX10_appeal_183 : decode cX10_appeal 183 = .ok (.iconst 1, 1) := by decide +kernel
theorem dX10_appeal_184 : decode cX10_appeal 184 = .ok (.iload_n 2, 1) := by decide +kernel
theorem dX10_appeal_185 : decode cX10_appeal 185 = .ok (.ishl, 1) := by decide +kernel
theorem dX10_appeal_186 : decode cX10_appeal 186 = .ok (.ior, 1) := by decide +kernel
theorem dX10_appeal_187 : decode cX10_appeal 187 = .ok (.iastore, 1) := by decide +kernel
theorem dX10_appeal_188 : decode cX10_appeal 188 = .ok (.iconst 1, 1) := by decide +kernel
theorem dX10_appeal_189 : decode cX10_appeal 189 = .ok (.ireturn, 1) := by decide +kernel
theorem dJ6_bitCount_0f7a4_0 : decode cJ6_bitCount_0f7a4 0 = .ok (.iload_n 0, 1) := by decide +kernel
theorem dJ6_bitCount_0f7a4_1 : decode cJ6_bitCount_0f7a4 1 = .ok (.iload_n 0, 1) := by decide +kernel
theorem dJ6_bitCount_0f7a4_2 : decode cJ6_bitCount_0f7a4 2 = .ok (.iconst 1, 1) := by decide +kernel
theorem dJ6_bitCount_0f7a4_3 : decode cJ6_bitCount_0f7a4 3 = .ok (.iushr, 1) := by decide +kernel
theorem dJ6_bitCount_0f7a4_4 : decode cJ6_bitCount_0f7a4 4 = .ok (.ldc_w 265, 3) := by decide +kernel
theorem dJ6_bitCount_0f7a4_7 : decode cJ6_bitCount_0f7a4 7 = .ok (.iand, 1) := by decide +kernel
theorem dJ6_bitCount_0f7a4_8 : decode cJ6_bitCount_0f7a4 8 = .ok (.isub, 1) := by decide +kernel
theorem dJ6_bitCount_0f7a4_9 : decode cJ6_bitCount_0f7a4 9 = .ok (.istore_n 0, 1) := by decide +kernel
theorem dJ6_bitCount_0f7a4_10 : decode cJ6_bitCount_0f7a4 10 = .ok (.iload_n 0, 1) := by decide +kernel
theorem dJ6_bitCount_0f7a4_11 : decode cJ6_bitCount_0f7a4 11 = .ok (.ldc_w 266, 3) := by decide +kernel
theorem dJ6_bitCount_0f7a4_14 : decode cJ6_bitCount_0f7a4 14 = .ok (.iand, 1) := by decide +kernel
theorem dJ6_bitCount_0f7a4_15 : decode cJ6_bitCount_0f7a4 15 = .ok (.iload_n 0, 1) := by decide +kernel
theorem dJ6_bitCount_0f7a4_16 : decode cJ6_bitCount_0f7a4 16 = .ok (.iconst 2, 1) := by decide +kernel
theorem dJ6_bitCount_0f7a4_17 : decode cJ6_bitCount_0f7a4 17 = .ok (.iushr, 1) := by decide +kernel
theorem dJ6_bitCount_0f7a4_18 : decode cJ6_bitCount_0f7a4 18 = .ok (.ldc_w 266, 3) := by decide +kernel
theorem dJ6_bitCount_0f7a4_21 : decode cJ6_bitCount_0f7a4 21 = .ok (.iand, 1) := by decide +kernel
theorem dJ6_bitCount_0f7a4_22 : decode cJ6_bitCount_0f7a4 22 = .ok (.iadd, 1) := by decide +kernel
theorem dJ6_bitCount_0f7a4_23 : decode cJ6_bitCount_0f7a4 23 = .ok (.istore_n 0, 1) := by decide +kernel
theorem dJ6_bitCount_0f7a4_24 : decode cJ6_bitCount_0f7a4 24 = .ok (.iload_n 0, 1) := by decide +kernel
theorem dJ6_bitCount_0f7a4_25 : decode cJ6_bitCount_0f7a4 25 = .ok (.iload_n 0, 1) := by decide +kernel
theorem dJ6_bitCount_0f7a4_26 : decode cJ6_bitCount_0f7a4 26 = .ok (.iconst 4, 1) := by decide +kernel
theorem dJ6_bitCount_0f7a4_27 : decode cJ6_bitCount_0f7a4 27 = .ok (.iushr, 1) := by decide +kernel
theorem dJ6_bitCount_0f7a4_28 : decode cJ6_bitCount_0f7a4 28 = .ok (.iadd, 1) := by decide +kernel
theorem dJ6_bitCount_0f7a4_29 : decode cJ6_bitCount_0f7a4 29 = .ok (.ldc_w 267, 3) := by decide +kernel
theorem dJ6_bitCount_0f7a4_32 : decode cJ6_bitCount_0f7a4 32 = .ok (.iand, 1) := by decide +kernel
theorem dJ6_bitCount_0f7a4_33 : decode cJ6_bitCount_0f7a4 33 = .ok (.istore_n 0, 1) := by decide +kernel
theorem dJ6_bitCount_0f7a4_34 : decode cJ6_bitCount_0f7a4 34 = .ok (.iload_n 0, 1) := by decide +kernel
theorem dJ6_bitCount_0f7a4_35 : decode cJ6_bitCount_0f7a4 35 = .ok (.iload_n 0, 1) := by decide +kernel
theorem dJ6_bitCount_0f7a4_36 : decode cJ6_bitCount_0f7a4 36 = .ok (.bipush 8, 2) := by decide +kernel
theorem dJ6_bitCount_0f7a4_38 : decode cJ6_bitCount_0f7a4 38 = .ok (.iushr, 1) := by decide +kernel
theorem dJ6_bitCount_0f7a4_39 : decode cJ6_bitCount_0f7a4 39 = .ok (.iadd, 1) := by decide +kernel
theorem dJ6_bitCount_0f7a4_40 : decode cJ6_bitCount_0f7a4 40 = .ok (.istore_n 0, 1) := by decide +kernel
theorem dJ6_bitCount_0f7a4_41 : decode cJ6_bitCount_0f7a4 41 = .ok (.iload_n 0, 1) := by decide +kernel
theorem dJ6_bitCount_0f7a4_42 : decode cJ6_bitCount_0f7a4 42 = .ok (.iload_n 0, 1) := by decide +kernel
theorem dJ6_bitCount_0f7a4_43 : decode cJ6_bitCount_0f7a4 43 = .ok (.bipush 16, 2) := by decide +kernel
theorem dJ6_bitCount_0f7a4_45 : decode cJ6_bitCount_0f7a4 45 = .ok (.iushr, 1) := by decide +kernel
theorem dJ6_bitCount_0f7a4_46 : decode cJ6_bitCount_0f7a4 46 = .ok (.iadd, 1) := by decide +kernel
theorem dJ6_bitCount_0f7a4_47 : decode cJ6_bitCount_0f7a4 47 = .ok (.istore_n 0, 1) := by decide +kernel
theorem dJ6_bitCount_0f7a4_48 : decode cJ6_bitCount_0f7a4 48 = .ok (.iload_n 0, 1) := by decide +kernel
theorem dJ6_bitCount_0f7a4_49 : decode cJ6_bitCount_0f7a4 49 = .ok (.bipush 63, 2) := by decide +kernel
theorem dJ6_bitCount_0f7a4_51 : decode cJ6_bitCount_0f7a4 51 = .ok (.iand, 1) := by decide +kernel
theorem dJ6_bitCount_0f7a4_52 : decode cJ6_bitCount_0f7a4 52 = .ok (.ireturn, 1) := by decide +kernel
theorem dJ9_floorDiv_7cf53_0 : decode cJ9_floorDiv_7cf53 0 = .ok (.iload_n 0, 1) := by decide +kernel
theorem dJ9_floorDiv_7cf53_1 : decode cJ9_floorDiv_7cf53 1 = .ok (.iload_n 1, 1) := by decide +kernel
theorem dJ9_floorDiv_7cf53_2 : decode cJ9_floorDiv_7cf53 2 = .ok (.idiv, 1) := by decide +kernel
theorem dJ9_floorDiv_7cf53_3 : decode cJ9_floorDiv_7cf53 3 = .ok (.istore_n 2, 1) := by decide +kernel
theorem dJ9_floorDiv_7cf53_4 : decode cJ9_floorDiv_7cf53 4 = .ok (.iload_n 0, 1) := by decide +kernel
theorem dJ9_floorDiv_7cf53_5 : decode cJ9_floorDiv_7cf53 5 = .ok (.iload_n 1, 1) := by decide +kernel
theorem dJ9_floorDiv_7cf53_6 : decode cJ9_floorDiv_7cf53 6 = .ok (.ixor, 1) := by decide +kernel
theorem dJ9_floorDiv_7cf53_7 : decode cJ9_floorDiv_7cf53 7 = .ok (.ifCond .ge 14, 3) := by decide +kernel
theorem dJ9_floorDiv_7cf53_10 : decode cJ9_floorDiv_7cf53 10 = .ok (.iload_n 2, 1) := by decide +kernel
theorem dJ9_floorDiv_7cf53_11 : decode cJ9_floorDiv_7cf53 11 = .ok (.iload_n 1, 1) := by decide +kernel
theorem dJ9_floorDiv_7cf53_12 : decode cJ9_floorDiv_7cf53 12 = .ok (.imul, 1) := by decide +kernel
theorem dJ9_floorDiv_7cf53_13 : decode cJ9_floorDiv_7cf53 13 = .ok (.iload_n 0, 1) := by decide +kernel
theorem dJ9_floorDiv_7cf53_14 : decode cJ9_floorDiv_7cf53 14 = .ok (.if_icmp .eq 7, 3) := by decide +kernel
theorem dJ9_floorDiv_7cf53_17 : decode cJ9_floorDiv_7cf53 17 = .ok (.iload_n 2, 1) := by decide +kernel
theorem dJ9_floorDiv_7cf53_18 : decode cJ9_floorDiv_7cf53 18 = .ok (.iconst 1, 1) := by decide +kernel
theorem dJ9_floorDiv_7cf53_19 : decode cJ9_floorDiv_7cf53 19 = .ok (.isub, 1) := by decide +kernel
theorem dJ9_floorDiv_7cf53_20 : decode cJ9_floorDiv_7cf53 20 = .ok (.ireturn, 1) := by decide +kernel
theorem dJ9_floorDiv_7cf53_21 : decode cJ9_floorDiv_7cf53 21 = .ok (.iload_n 2, 1) := by decide +kernel
theorem dJ9_floorDiv_7cf53_22 : decode cJ9_floorDiv_7cf53 22 = .ok (.ireturn, 1) := by decide +kernel
theorem dJ9_abs_0f7a4_0 : decode cJ9_abs_0f7a4 0 = .ok (.iload_n 0, 1) := by decide +kernel
theorem dJ9_abs_0f7a4_1 : decode cJ9_abs_0f7a4 1 = .ok (.ifCond .ge 8, 3) := by decide +kernel
theorem dJ9_abs_0f7a4_4 : decode cJ9_abs_0f7a4 4 = .ok (.iload_n 0, 1) := by decide +kernel
theorem dJ9_abs_0f7a4_5 : decode cJ9_abs_0f7a4 5 = .ok (.ineg, 1) := by decide +kernel
theorem dJ9_abs_0f7a4_6 : decode cJ9_abs_0f7a4 6 = .ok (.goto 4, 3) := by decide +kernel
theorem dJ9_abs_0f7a4_9 : decode cJ9_abs_0f7a4 9 = .ok (.iload_n 0, 1) := by decide +kernel
theorem dJ9_abs_0f7a4_10 : decode cJ9_abs_0f7a4 10 = .ok (.ireturn, 1) := by decide +kernel
theorem dJ9_max_7cf53_0 : decode cJ9_max_7cf53 0 = .ok (.iload_n 0, 1) := by decide +kernel
theorem dJ9_max_7cf53_1 : decode cJ9_max_7cf53 1 = .ok (.iload_n 1, 1) := by decide +kernel
theorem dJ9_max_7cf53_2 : decode cJ9_max_7cf53 2 = .ok (.if_icmp .lt 7, 3) := by decide +kernel
theorem dJ9_max_7cf53_5 : decode cJ9_max_7cf53 5 = .ok (.iload_n 0, 1) := by decide +kernel
theorem dJ9_max_7cf53_6 : decode cJ9_max_7cf53 6 = .ok (.goto 4, 3) := by decide +kernel
theorem dJ9_max_7cf53_9 : decode cJ9_max_7cf53 9 = .ok (.iload_n 1, 1) := by decide +kernel
theorem dJ9_max_7cf53_10 : decode cJ9_max_7cf53 10 = .ok (.ireturn, 1) := by decide +kernel
theorem dJ9_min_7cf53_0 : decode cJ9_min_7cf53 0 = .ok (.iload_n 0, 1) := by decide +kernel
theorem dJ9_min_7cf53_1 : decode cJ9_min_7cf53 1 = .ok (.iload_n 1, 1) := by decide +kernel
theorem dJ9_min_7cf53_2 : decode cJ9_min_7cf53 2 = .ok (.if_icmp .gt 7, 3) := by decide +kernel
theorem dJ9_min_7cf53_5 : decode cJ9_min_7cf53 5 = .ok (.iload_n 0, 1) := by decide +kernel
theorem dJ9_min_7cf53_6 : decode cJ9_min_7cf53 6 = .ok (.goto 4, 3) := by decide +kernel
theorem dJ9_min_7cf53_9 : decode cJ9_min_7cf53 9 = .ok (.iload_n 1, 1) := by decide +kernel
theorem dJ9_min_7cf53_10 : decode cJ9_min_7cf53 10 = .ok (.ireturn, 1) := by decide +kernel
theorem dJ0_length_8abf5_0 : decode cJ0_length_8abf5 0 = .ok (.aload_n 0, 1) := by decide +kernel
theorem dJ0_length_8abf5_1 : decode cJ0_length_8abf5 1 = .ok (.getfield 9, 3) := by decide +kernel
theorem dJ0_length_8abf5_4 : decode cJ0_length_8abf5 4 = .ok (.arraylength, 1) := by decide +kernel
theorem dJ0_length_8abf5_5 : decode cJ0_length_8abf5 5 = .ok (.aload_n 0, 1) := by decide +kernel
theorem dJ0_length_8abf5_6 : decode cJ0_length_8abf5 6 = .ok (.invokevirtual 335, 3) := by decide +kernel
theorem dJ0_length_8abf5_9 : decode cJ0_length_8abf5 9 = .ok (.ishr, 1) := by decide +kernel
theorem dJ0_length_8abf5_10 : decode cJ0_length_8abf5 10 = .ok (.ireturn, 1) := by decide +kernel
theorem dJ0_charAt_5068e_0 : decode cJ0_charAt_5068e 0 = .ok (.aload_n 0, 1) := by decide +kernel
theorem dJ0_charAt_5068e_1 : decode cJ0_charAt_5068e 1 = .ok (.invokevirtual 492, 3) := by decide +kernel
theorem dJ0_charAt_5068e_4 : decode cJ0_charAt_5068e 4 = .ok (.ifCond .eq 12, 3) := by decide +kernel
theorem dJ0_charAt_5068e_7 : decode cJ0_charAt_5068e 7 = .ok (.aload_n 0, 1) := by decide +kernel
theorem dJ0_charAt_5068e_8 : decode cJ0_charAt_5068e 8 = .ok (.getfield 9, 3) := by decide +kernel
theorem dJ0_charAt_5068e_11 : decode cJ0_charAt_5068e 11 = .ok (.iload_n 1, 1) := by decide +kernel
theorem dJ0_charAt_5068e_12 : decode cJ0_charAt_5068e 12 = .ok (.invokestatic 495, 3) := by decide +kernel
theorem dJ0_charAt_5068e_15 : decode cJ0_charAt_5068e 15 = .ok (.ireturn, 1) := by decide +kernel
theorem dJ0_charAt_5068e_16 : decode cJ0_charAt_5068e 16 = .ok (.aload_n 0, 1) := by decide +kernel
theorem dJ0_charAt_5068e_17 : decode cJ0_charAt_5068e 17 = .ok (.getfield 9, 3) := by decide +kernel
theorem dJ0_charAt_5068e_20 : decode cJ0_charAt_5068e 20 = .ok (.iload_n 1, 1) := by decide +kernel
theorem dJ0_charAt_5068e_21 : decode cJ0_charAt_5068e 21 = .ok (.invokestatic 498, 3) := by decide +kernel
theorem dJ0_charAt_5068e_24 : decode cJ0_charAt_5068e 24 = .ok (.ireturn, 1) := by decide +kernel
theorem dJ0_coder_7d493_0 : decode cJ0_coder_7d493 0 = .ok (.getstatic 38, 3) := by decide +kernel
theorem dJ0_coder_7d493_3 : decode cJ0_coder_7d493 3 = .ok (.ifCond .eq 10, 3) := by decide +kernel
theorem dJ0_coder_7d493_6 : decode cJ0_coder_7d493 6 = .ok (.aload_n 0, 1) := by decide +kernel
theorem dJ0_coder_7d493_7 : decode cJ0_coder_7d493 7 = .ok (.getfield 15, 3) := by decide +kernel
theorem dJ0_coder_7d493_10 : decode cJ0_coder_7d493 10 = .ok (.goto 4, 3) := by decide +kernel
theorem dJ0_coder_7d493_13 : decode cJ0_coder_7d493 13 = .ok (.iconst 1, 1) := by decide +kernel
theorem dJ0_coder_7d493_14 : decode cJ0_coder_7d493 14 = .ok (.ireturn, 1) := by decide +kernel
theorem dJ0_isLatin1_aae02_0 : decode cJ0_isLatin1_aae02 0 = .ok (.getstatic 38, 3) := by decide +kernel
theorem dJ0_isLatin1_aae02_3 : decode cJ0_isLatin1_aae02 3 = .ok (.ifCond .eq 14, 3) := by decide +kernel
theorem dJ0_isLatin1_aae02_6 : decode cJ0_isLatin1_aae02 6 = .ok (.aload_n 0, 1) := by decide +kernel
theorem dJ0_isLatin1_aae02_7 : decode cJ0_isLatin1_aae02 7 = .ok (.getfield 15, 3) := by decide +kernel
theorem dJ0_isLatin1_aae02_10 : decode cJ0_isLatin1_aae02 10 = .ok (.ifCond .ne 7, 3) := by decide +kernel
theorem dJ0_isLatin1_aae02_13 : decode cJ0_isLatin1_aae02 13 = .ok (.iconst 1, 1) := by decide +kernel
theorem dJ0_isLatin1_aae02_14 : decode cJ0_isLatin1_aae02 14 = .ok (.goto 4, 3) := by decide +kernel
theorem dJ0_isLatin1_aae02_17 : decode cJ0_isLatin1_aae02 17 = .ok (.iconst 0, 1) := by decide +kernel
theorem dJ0_isLatin1_aae02_18 : decode cJ0_isLatin1_aae02 18 = .ok (.ireturn, 1) := by decide +kernel
theorem dJ0_checkIndex_df160_0 : decode cJ0_checkIndex_df160 0 = .ok (.iload_n 0, 1) := by decide +kernel
theorem dJ0_checkIndex_df160_1 : decode cJ0_checkIndex_df160 1 = .ok (.iload_n 1, 1) := by decide +kernel
theorem dJ0_checkIndex_df160_2 : decode cJ0_checkIndex_df160 2 = .ok (.getstatic 1053, 3) := by decide +kernel
theorem dJ0_checkIndex_df160_5 : decode cJ0_checkIndex_df160 5 = .ok (.invokestatic 1059, 3) := by decide +kernel
theorem dJ0_checkIndex_df160_8 : decode cJ0_checkIndex_df160 8 = .ok (.pop, 1) := by decide +kernel
theorem dJ0_checkIndex_df160_9 : decode cJ0_checkIndex_df160 9 = .ok (.return_, 1) := by decide +kernel
theorem dJ1_charAt_3b067_0 : decode cJ1_charAt_3b067 0 = .ok (.iload_n 1, 1) := by decide +kernel
theorem dJ1_charAt_3b067_1 : decode cJ1_charAt_3b067 1 = .ok (.aload_n 0, 1) := by decide +kernel
theorem dJ1_charAt_3b067_2 : decode cJ1_charAt_3b067 2 = .ok (.arraylength, 1) := by decide +kernel
theorem dJ1_charAt_3b067_3 : decode cJ1_charAt_3b067 3 = .ok (.invokestatic 9, 3) := by decide +kernel
theorem dJ1_charAt_3b067_6 : decode cJ1_charAt_3b067 6 = .ok (.aload_n 0, 1) := by decide +kernel
theorem dJ1_charAt_3b067_7 : decode cJ1_charAt_3b067 7 = .ok (.iload_n 1, 1) := by decide +kernel
theorem dJ1_charAt_3b067_8 : decode cJ1_charAt_3b067 8 = .ok (.baload, 1) := by decide +kernel
theorem dJ1_charAt_3b067_9 : decode cJ1_charAt_3b067 9 = .ok (.sipush 255, 3) := by decide +kernel
theorem dJ1_charAt_3b067_12 : decode cJ1_charAt_3b067 12 = .ok (.iand, 1) := by decide +kernel
theorem dJ1_charAt_3b067_13 : decode cJ1_charAt_3b067 13 = .ok (.i2c, 1) := by decide +kernel
theorem dJ1_charAt_3b067_14 : decode cJ1_charAt_3b067 14 = .ok (.ireturn, 1) := by decide +kernel
theorem dJ2_getChar_3b067_0 : decode cJ2_getChar_3b067 0 = .ok (.getstatic 44, 3) := by decide +kernel
theorem dJ2_getChar_3b067_3 : decode cJ2_getChar_3b067 3 = .ok (.ifCond .ne 25, 3) := by decide +kernel
theorem dJ2_getChar_3b067_6 : decode cJ2_getChar_3b067 6 = .ok (.iload_n 1, 1) := by decide +kernel
theorem dJ2_getChar_3b067_7 : decode cJ2_getChar_3b067 7 = .ok (.ifCond .lt 11, 3) := by decide +kernel
theorem dJ2_getChar_3b067_10 : decode cJ2_getChar_3b067 10 = .ok (.iload_n 1, 1) := by decide +kernel
theorem dJ2_getChar_3b067_11 : decode cJ2_getChar_3b067 11 = .ok (.aload_n 0, 1) := by decide +kernel
theorem dJ2_getChar_3b067_12 : decode cJ2_getChar_3b067 12 = .ok (.invokestatic 48, 3) := by decide +kernel
theorem dJ2_getChar_3b067_15 : decode cJ2_getChar_3b067 15 = .ok (.if_icmp .lt 13, 3) := by decide +kernel
theorem dJ2_getChar_3b067_18 : decode cJ2_getChar_3b067 18 = .ok (.new 52, 3) := by decide +kernel
theorem dJ2_getChar_3b067_21 : decode cJ2_getChar_3b067 21 = .ok (.dup, 1) := by decide +kernel
theorem dJ2_getChar_3b067_22 : decode cJ2_getChar_3b067 22 = .ok (.ldc 54, 2) := by decide +kernel
theorem dJ2_getChar_3b067_24 : decode cJ2_getChar_3b067 24 = .ok (.invokespecial 56, 3) := by decide +kernel
theorem dJ2_getChar_3b067_27 : decode cJ2_getChar_3b067 27 = .ok (.athrow, 1) := by decide +kernel
theorem dJ2_getChar_3b067_28 : decode cJ2_getChar_3b067 28 = .ok (.iload_n 1, 1) := by decide +kernel
theorem dJ2_getChar_3b067_29 : decode cJ2_getChar_3b067 29 = .ok (.iconst 1, 1) := by decide +kernel
theorem dJ2_getChar_3b067_30 : decode cJ2_getChar_3b067 30 = .ok (.ishl, 1) := by decide +kernel
theorem dJ2_getChar_3b067_31 : decode cJ2_getChar_3b067 31 = .ok (.istore_n 1, 1) := by decide +kernel
theorem dJ2_getChar_3b067_32 : decode cJ2_getChar_3b067 32 = .ok (.aload_n 0, 1) := by decide +kernel
theorem dJ2_getChar_3b067_33 : decode cJ2_getChar_3b067 33 = .ok (.iload_n 1, 1) := by decide +kernel
theorem dJ2_getChar_3b067_34 : decode cJ2_getChar_3b067 34 = .ok (.iinc 1 1, 3) := by decide +kernel
theorem dJ2_getChar_3b067_37 : decode cJ2_getChar_3b067 37 = .ok (.baload, 1) := by decide +kernel
theorem dJ2_getChar_3b067_38 : decode cJ2_getChar_3b067 38 = .ok (.sipush 255, 3) := by decide +kernel
theorem dJ2_getChar_3b067_41 : decode cJ2_getChar_3b067 41 = .ok (.iand, 1) := by decide +kernel
theorem dJ2_getChar_3b067_42 : decode cJ2_getChar_3b067 42 = .ok (.getstatic 59, 3) := by decide +kernel
theorem dJ2_getChar_3b067_45 : decode cJ2_getChar_3b067 45 = .ok (.ishl, 1) := by decide +kernel
theorem dJ2_getChar_3b067_46 : decode cJ2_getChar_3b067 46 = .ok (.aload_n 0, 1) := by decide +kernel
theorem dJ2_getChar_3b067_47 : decode cJ2_getChar_3b067 47 = .ok (.iload_n 1, 1) := by decide +kernel
theorem dJ2_getChar_3b067_48 : decode cJ2_getChar_3b067 48 = .ok (.baload, 1) := by decide +kernel
theorem dJ2_getChar_3b067_49 : decode cJ2_getChar_3b067 49 = .ok (.sipush 255, 3) := by decide +kernel
theorem dJ2_getChar_3b067_52 : decode cJ2_getChar_3b067 52 = .ok (.iand, 1) := by decide +kernel
theorem dJ2_getChar_3b067_53 : decode cJ2_getChar_3b067 53 = .ok (.getstatic 63, 3) := by decide +kernel
theorem dJ2_getChar_3b067_56 : decode cJ2_getChar_3b067 56 = .ok (.ishl, 1) := by decide +kernel
theorem dJ2_getChar_3b067_57 : decode cJ2_getChar_3b067 57 = .ok (.ior, 1) := by decide +kernel
theorem dJ2_getChar_3b067_58 : decode cJ2_getChar_3b067 58 = .ok (.i2c, 1) := by decide +kernel
theorem dJ2_getChar_3b067_59 : decode cJ2_getChar_3b067 59 = .ok (.ireturn, 1) := by decide +kernel
theorem dJ2_length_9d52b_0 : decode cJ2_length_9d52b 0 = .ok (.aload_n 0, 1) := by decide +kernel
theorem dJ2_length_9d52b_1 : decode cJ2_length_9d52b 1 = .ok (.arraylength, 1) := by decide +kernel
theorem dJ2_length_9d52b_2 : decode cJ2_length_9d52b 2 = .ok (.iconst 1, 1) := by decide +kernel
theorem dJ2_length_9d52b_3 : decode cJ2_length_9d52b 3 = .ok (.ishr, 1) := by decide +kernel
theorem dJ2_length_9d52b_4 : decode cJ2_length_9d52b 4 = .ok (.ireturn, 1) := by decide +kernel
theorem dJ2_charAt_3b067_0 : decode cJ2_charAt_3b067 0 = .ok (.iload_n 1, 1) := by decide +kernel
theorem dJ2_charAt_3b067_1 : decode cJ2_charAt_3b067 1 = .ok (.aload_n 0, 1) := by decide +kernel
theorem dJ2_charAt_3b067_2 : decode cJ2_charAt_3b067 2 = .ok (.invokestatic 67, 3) := by decide +kernel
theorem dJ2_charAt_3b067_5 : decode cJ2_charAt_3b067 5 = .ok (.aload_n 0, 1) := by decide +kernel
theorem dJ2_charAt_3b067_6 : decode cJ2_charAt_3b067 6 = .ok (.iload_n 1, 1) := by decide +kernel
theorem dJ2_charAt_3b067_7 : decode cJ2_charAt_3b067 7 = .ok (.invokestatic 71, 3) := by decide +kernel
theorem dJ2_charAt_3b067_10 : decode cJ2_charAt_3b067 10 = .ok (.ireturn, 1) := by decide +kernel
theorem dJ2_checkIndex_2214a_0 : decode cJ2_checkIndex_2214a 0 = .ok (.iload_n 0, 1) := by decide +kernel
theorem dJ2_checkIndex_2214a_1 : decode cJ2_checkIndex_2214a 1 = .ok (.aload_n 1, 1) := by decide +kernel
theorem dJ2_checkIndex_2214a_2 : decode cJ2_checkIndex_2214a 2 = .ok (.invokestatic 48, 3) := by decide +kernel
theorem dJ2_checkIndex_2214a_5 : decode cJ2_checkIndex_2214a 5 = .ok (.invokestatic 414, 3) := by decide +kernel
theorem dJ2_checkIndex_2214a_8 : decode cJ2_checkIndex_2214a 8 = .ok (.return_, 1) := by decide +kernel
theorem dJ7_fill_53178_0 : decode cJ7_fill_53178 0 = .ok (.iconst 0, 1) := by decide +kernel
theorem dJ7_fill_53178_1 : decode cJ7_fill_53178 1 = .ok (.istore_n 2, 1) := by decide +kernel
theorem dJ7_fill_53178_2 : decode cJ7_fill_53178 2 = .ok (.aload_n 0, 1) := by decide +kernel
theorem dJ7_fill_53178_3 : decode cJ7_fill_53178 3 = .ok (.arraylength, 1) := by decide +kernel
theorem dJ7_fill_53178_4 : decode cJ7_fill_53178 4 = .ok (.istore_n 3, 1) := by decide +kernel
theorem dJ7_fill_53178_5 : decode cJ7_fill_53178 5 = .ok (.iload_n 2, 1) := by decide +kernel
theorem dJ7_fill_53178_6 : decode cJ7_fill_53178 6 = .ok (.iload_n 3, 1) := by decide +kernel
theorem dJ7_fill_53178_7 : decode cJ7_fill_53178 7 = .ok (.if_icmp .ge 13, 3) := by decide +kernel
theorem dJ7_fill_53178_10 : decode cJ7_fill_53178 10 = .ok (.aload_n 0, 1) := by decide +kernel
theorem dJ7_fill_53178_11 : decode cJ7_fill_53178 11 = .ok (.iload_n 2, 1) := by decide +kernel
theorem dJ7_fill_53178_12 : decode cJ7_fill_53178 12 = .ok (.iload_n 1, 1) := by decide +kernel
theorem dJ7_fill_53178_13 : decode cJ7_fill_53178 13 = .ok (.iastore, 1) := by decide +kernel
theorem dJ7_fill_53178_14 : decode cJ7_fill_53178 14 = .ok (.iinc 2 1, 3) := by decide +kernel
theorem dJ7_fill_53178_17 : decode cJ7_fill_53178 17 = .ok (.goto (-12), 3) := by decide +kernel
theorem dJ7_fill_53178_20 : decode cJ7_fill_53178 20 = .ok (.return_, 1) := by decide +kernel
theorem dJ3_checkIndex_8e157_0 : decode cJ3_checkIndex_8e157 0 = .ok (.iload_n 0, 1) := by decide +kernel
theorem dJ3_checkIndex_8e157_1 : decode cJ3_checkIndex_8e157 1 = .ok (.ifCond .lt 8, 3) := by decide +kernel
theorem dJ3_checkIndex_8e157_4 : decode cJ3_checkIndex_8e157 4 = .ok (.iload_n 0, 1) := by decide +kernel
theorem dJ3_checkIndex_8e157_5 : decode cJ3_checkIndex_8e157 5 = .ok (.iload_n 1, 1) := by decide +kernel
theorem dJ3_checkIndex_8e157_6 : decode cJ3_checkIndex_8e157 6 = .ok (.if_icmp .lt 10, 3) := by decide +kernel
theorem dJ3_checkIndex_8e157_9 : decode cJ3_checkIndex_8e157 9 = .ok (.aload_n 2, 1) := by decide +kernel
theorem dJ3_checkIndex_8e157_10 : decode cJ3_checkIndex_8e157 10 = .ok (.iload_n 0, 1) := by decide +kernel
theorem dJ3_checkIndex_8e157_11 : decode cJ3_checkIndex_8e157 11 = .ok (.iload_n 1, 1) := by decide +kernel
theorem dJ3_checkIndex_8e157_12 : decode cJ3_checkIndex_8e157 12 = .ok (.invokestatic 95, 3) := by decide +kernel
theorem dJ3_checkIndex_8e157_15 : decode cJ3_checkIndex_8e157 15 = .ok (.athrow, 1) := by decide +kernel
theorem dJ3_checkIndex_8e157_16 : decode cJ3_checkIndex_8e157 16 = .ok (.iload_n 0, 1) := by decide +kernel
theorem dJ3_checkIndex_8e157_17 : decode cJ3_checkIndex_8e157 17 = .ok (.ireturn, 1) := by decide +kernel
theorem dL_append_0 : decode cL_append 0 = .ok (.aload 6, 2) := by decide +kernel
theorem dL_append_2 : decode cL_append 2 = .ok (.iconst 0, 1) := by decide +kernel
theorem dL_append_3 : decode cL_append 3 = .ok (.aload_n 0, 1) := by decide +kernel
theorem dL_append_4 : decode cL_append 4 = .ok (.iload_n 1, 1) := by decide +kernel
theorem dL_append_5 : decode cL_append 5 = .ok (.iload_n 2, 1) := by decide +kernel
theorem dL_append_6 : decode cL_append 6 = .ok (.iload_n 3, 1) := by decide +kernel
theorem dL_append_7 : decode cL_append 7 = .ok (.iload 4, 2) := by decide +kernel
theorem dL_append_9 : decode cL_append 9 = .ok (.iload 5, 2) := by decide +kernel
theorem dL_append_11 : decode cL_append 11 = .ok (.invokevirtual 7, 3) := by decide +kernel
theorem dL_append_14 : decode cL_append 14 = .ok (.i2l, 1) := by decide +kernel
theorem dL_append_15 : decode cL_append 15 = .ok (.lastore, 1) := by decide +kernel
theorem dL_append_16 : decode cL_append 16 = .ok (.goto 7, 3) := by decide +kernel
theorem dL_append_19 : decode cL_append 19 = .ok (.astore 7, 2) := by decide +kernel
theorem dL_append_21 : decode cL_append 21 = .ok (.iconst 1, 1) := by decide +kernel
theorem dL_append_22 : decode cL_append 22 = .ok (.ireturn, 1) := by decide +kernel
theorem dL_append_23 : decode cL_append 23 = .ok (.iconst 0, 1) := by decide +kernel
theorem dL_append_24 : decode cL_append 24 = .ok (.ireturn, 1) := by decide +kernel
theorem dL_truncate_0 : decode cL_truncate 0 = .ok (.aload_n 2, 1) := by decide +kernel
theorem dL_truncate_1 : decode cL_truncate 1 = .ok (.iconst 0, 1) := by decide +kernel
theorem dL_truncate_2 : decode cL_truncate 2 = .ok (.aload_n 0, 1) := by decide +kernel
theorem dL_truncate_3 : decode cL_truncate 3 = .ok (.iload_n 1, 1) := by decide +kernel
theorem dL_truncate_4 : decode cL_truncate 4 = .ok (.invokevirtual 15, 3) := by decide +kernel
theorem dL_truncate_7 : decode cL_truncate 7 = .ok (.i2l, 1) := by decide +kernel
theorem dL_truncate_8 : decode cL_truncate 8 = .ok (.lastore, 1) := by decide +kernel
theorem dL_truncate_9 : decode cL_truncate 9 = .ok (.goto 6, 3) := by decide +kernel
theorem dL_truncate_12 : decode cL_truncate 12 = .ok (.astore_n 3, 1) := by decide +kernel
theorem dL_truncate_13 : decode cL_truncate 13 = .ok (.iconst 1, 1) := by decide +kernel
theorem dL_truncate_14 : decode cL_truncate 14 = .ok (.ireturn, 1) := by decide +kernel
theorem dL_truncate_15 : decode cL_truncate 15 = .ok (.iconst 0, 1) := by decide +kernel
theorem dL_truncate_16 : decode cL_truncate 16 = .ok (.ireturn, 1) := by decide +kernel
theorem dL_load_0 : decode cL_load 0 = .ok (.aload_n 1, 1) := by decide +kernel
theorem dL_load_1 : decode cL_load 1 = .ok (.iconst 0, 1) := by decide +kernel
theorem dL_load_2 : decode cL_load 2 = .ok (.aload_n 0, 1) := by decide +kernel
theorem dL_load_3 : decode cL_load 3 = .ok (.invokevirtual 21, 3) := by decide +kernel
theorem dL_load_6 : decode cL_load 6 = .ok (.i2l, 1) := by decide +kernel
theorem dL_load_7 : decode cL_load 7 = .ok (.lastore, 1) := by decide +kernel
theorem dL_load_8 : decode cL_load 8 = .ok (.goto 6, 3) := by decide +kernel
theorem dL_load_11 : decode cL_load 11 = .ok (.astore_n 2, 1) := by decide +kernel
theorem dL_load_12 : decode cL_load 12 = .ok (.iconst 1, 1) := by decide +kernel
theorem dL_load_13 : decode cL_load 13 = .ok (.ireturn, 1) := by decide +kernel
theorem dL_load_14 : decode cL_load 14 = .ok (.iconst 0, 1) := by decide +kernel
theorem dL_load_15 : decode cL_load 15 = .ok (.ireturn, 1) := by decide +kernel
theorem dL_count_0 : decode cL_count 0 = .ok (.aload_n 2, 1) := by decide +kernel
theorem dL_count_1 : decode cL_count 1 = .ok (.iconst 0, 1) := by decide +kernel
theorem dL_count_2 : decode cL_count 2 = .ok (.aload_n 0, 1) := by decide +kernel
theorem dL_count_3 : decode cL_count 3 = .ok (.iload_n 1, 1) := by decide +kernel
theorem dL_count_4 : decode cL_count 4 = .ok (.invokevirtual 27, 3) := by decide +kernel
theorem dL_count_7 : decode cL_count 7 = .ok (.i2l, 1) := by decide +kernel
theorem dL_count_8 : decode cL_count 8 = .ok (.lastore, 1) := by decide +kernel
theorem dL_count_9 : decode cL_count 9 = .ok (.goto 6, 3) := by decide +kernel
theorem dL_count_12 : decode cL_count 12 = .ok (.astore_n 3, 1) := by decide +kernel
theorem dL_count_13 : decode cL_count 13 = .ok (.iconst 1, 1) := by decide +kernel
theorem dL_count_14 : decode cL_count 14 = .ok (.ireturn, 1) := by decide +kernel
theorem dL_count_15 : decode cL_count 15 = .ok (.iconst 0, 1) := by decide +kernel
theorem dL_count_16 : decode cL_count 16 = .ok (.ireturn, 1) := by decide +kernel
theorem dL_isConflict_0 : decode cL_isConflict 0 = .ok (.aload_n 3, 1) := by decide +kernel
theorem dL_isConflict_1 : decode cL_isConflict 1 = .ok (.iconst 0, 1) := by decide +kernel
theorem dL_isConflict_2 : decode cL_isConflict 2 = .ok (.aload_n 0, 1) := by decide +kernel
theorem dL_isConflict_3 : decode cL_isConflict 3 = .ok (.iload_n 1, 1) := by decide +kernel
theorem dL_isConflict_4 : decode cL_isConflict 4 = .ok (.iload_n 2, 1) := by decide +kernel
theorem dL_isConflict_5 : decode cL_isConflict 5 = .ok (.invokevirtual 30, 3) := by decide +kernel
theorem dL_isConflict_8 : decode cL_isConflict 8 = .ok (.ifCond .eq 7, 3) := by decide +kernel
theorem dL_isConflict_11 : decode cL_isConflict 11 = .ok (.lconst 1, 1) := by decide +kernel
theorem dL_isConflict_12 : decode cL_isConflict 12 = .ok (.goto 4, 3) := by decide +kernel
theorem dL_isConflict_15 : decode cL_isConflict 15 = .ok (.lconst 0, 1) := by decide +kernel
theorem dL_isConflict_16 : decode cL_isConflict 16 = .ok (.lastore, 1) := by decide +kernel
theorem dL_isConflict_17 : decode cL_isConflict 17 = .ok (.goto 7, 3) := by decide +kernel
theorem dL_isConflict_20 : decode cL_isConflict 20 = .ok (.astore 4, 2) := by decide +kernel
theorem dL_isConflict_22 : decode cL_isConflict 22 = .ok (.iconst 1, 1) := by decide +kernel
theorem dL_isConflict_23 : decode cL_isConflict 23 = .ok (.ireturn, 1) := by decide +kernel
theorem dL_isConflict_24 : decode cL_isConflict 24 = .ok (.iconst 0, 1) := by decide +kernel
theorem dL_isConflict_25 : decode cL_isConflict 25 = .ok (.ireturn, 1) := by decide +kernel
theorem dL_match_0 : decode cL_match 0 = .ok (.aload_n 3, 1) := by decide +kernel
theorem dL_match_1 : decode cL_match 1 = .ok (.iconst 0, 1) := by decide +kernel
theorem dL_match_2 : decode cL_match 2 = .ok (.aload_n 0, 1) := by decide +kernel
theorem dL_match_3 : decode cL_match 3 = .ok (.iload_n 1, 1) := by decide +kernel
theorem dL_match_4 : decode cL_match 4 = .ok (.iload_n 2, 1) := by decide +kernel
theorem dL_match_5 : decode cL_match 5 = .ok (.invokevirtual 34, 3) := by decide +kernel
theorem dL_match_8 : decode cL_match 8 = .ok (.i2l, 1) := by decide +kernel
theorem dL_match_9 : decode cL_match 9 = .ok (.lastore, 1) := by decide +kernel
theorem dL_match_10 : decode cL_match 10 = .ok (.goto 7, 3) := by decide +kernel
theorem dL_match_13 : decode cL_match 13 = .ok (.astore 4, 2) := by decide +kernel
theorem dL_match_15 : decode cL_match 15 = .ok (.iconst 1, 1) := by decide +kernel
theorem dL_match_16 : decode cL_match 16 = .ok (.ireturn, 1) := by decide +kernel
theorem dL_match_17 : decode cL_match 17 = .ok (.iconst 0, 1) := by decide +kernel
theorem dL_match_18 : decode cL_match 18 = .ok (.ireturn, 1) := by decide +kernel
theorem dL_declare_0 : decode cL_declare 0 = .ok (.aload_n 3, 1) := by decide +kernel
theorem dL_declare_1 : decode cL_declare 1 = .ok (.iconst 0, 1) := by decide +kernel
theorem dL_declare_2 : decode cL_declare 2 = .ok (.aload_n 0, 1) := by decide +kernel
theorem dL_declare_3 : decode cL_declare 3 = .ok (.iload_n 1, 1) := by decide +kernel
theorem dL_declare_4 : decode cL_declare 4 = .ok (.iload_n 2, 1) := by decide +kernel
theorem dL_declare_5 : decode cL_declare 5 = .ok (.invokevirtual 38, 3) := by decide +kernel
theorem dL_declare_8 : decode cL_declare 8 = .ok (.ifCond .eq 7, 3) := by decide +kernel
theorem dL_declare_11 : decode cL_declare 11 = .ok (.lconst 1, 1) := by decide +kernel
theorem dL_declare_12 : decode cL_declare 12 = .ok (.goto 4, 3) := by decide +kernel
theorem dL_declare_15 : decode cL_declare 15 = .ok (.lconst 0, 1) := by decide +kernel
theorem dL_declare_16 : decode cL_declare 16 = .ok (.lastore, 1) := by decide +kernel
theorem dL_declare_17 : decode cL_declare 17 = .ok (.goto 11, 3) := by decide +kernel
theorem dL_declare_20 : decode cL_declare 20 = .ok (.astore 4, 2) := by decide +kernel
theorem dL_declare_22 : decode cL_declare 22 = .ok (.iconst 1, 1) := by decide +kernel
theorem dL_declare_23 : decode cL_declare 23 = .ok (.ireturn, 1) := by decide +kernel
theorem dL_declare_24 : decode cL_declare 24 = .ok (.astore 4, 2) := by decide +kernel
theorem dL_declare_26 : decode cL_declare 26 = .ok (.iconst 2, 1) := by decide +kernel
theorem dL_declare_27 : decode cL_declare 27 = .ok (.ireturn, 1) := by decide +kernel
theorem dL_declare_28 : decode cL_declare 28 = .ok (.iconst 0, 1) := by decide +kernel
theorem dL_declare_29 : decode cL_declare 29 = .ok (.ireturn, 1) := by decide +kernel
theorem dL_assign_0 : decode cL_assign 0 = .ok (.aload_n 3, 1) := by decide +kernel
theorem dL_assign_1 : decode cL_assign 1 = .ok (.iconst 0, 1) := by decide +kernel
theorem dL_assign_2 : decode cL_assign 2 = .ok (.aload_n 0, 1) := by decide +kernel
theorem dL_assign_3 : decode cL_assign 3 = .ok (.iload_n 1, 1) := by decide +kernel
theorem dL_assign_4 : decode cL_assign 4 = .ok (.iload_n 2, 1) := by decide +kernel
theorem dL_assign_5 : decode cL_assign 5 = .ok (.invokevirtual 41, 3) := by decide +kernel
theorem dL_assign_8 : decode cL_assign 8 = .ok (.i2l, 1) := by decide +kernel
theorem dL_assign_9 : decode cL_assign 9 = .ok (.lastore, 1) := by decide +kernel
theorem dL_assign_10 : decode cL_assign 10 = .ok (.goto 15, 3) := by decide +kernel
theorem dL_assign_13 : decode cL_assign 13 = .ok (.astore 4, 2) := by decide +kernel
theorem dL_assign_15 : decode cL_assign 15 = .ok (.iconst 1, 1) := by decide +kernel
theorem dL_assign_16 : decode cL_assign 16 = .ok (.ireturn, 1) := by decide +kernel
theorem dL_assign_17 : decode cL_assign 17 = .ok (.astore 4, 2) := by decide +kernel
theorem dL_assign_19 : decode cL_assign 19 = .ok (.iconst 2, 1) := by decide +kernel
theorem dL_assign_20 : decode cL_assign 20 = .ok (.ireturn, 1) := by decide +kernel
theorem dL_assign_21 : decode cL_assign 21 = .ok (.astore 4, 2) := by decide +kernel
theorem dL_assign_23 : decode cL_assign 23 = .ok (.iconst 3, 1) := by decide +kernel
theorem dL_assign_24 : decode cL_assign 24 = .ok (.ireturn, 1) := by decide +kernel
theorem dL_assign_25 : decode cL_assign 25 = .ok (.iconst 0, 1) := by decide +kernel
theorem dL_assign_26 : decode cL_assign 26 = .ok (.ireturn, 1) := by decide +kernel
theorem dL_unassign_0 : decode cL_unassign 0 = .ok (.aload_n 3, 1) := by decide +kernel
theorem dL_unassign_1 : decode cL_unassign 1 = .ok (.iconst 0, 1) := by decide +kernel
theorem dL_unassign_2 : decode cL_unassign 2 = .ok (.aload_n 0, 1) := by decide +kernel
theorem dL_unassign_3 : decode cL_unassign 3 = .ok (.iload_n 1, 1) := by decide +kernel
theorem dL_unassign_4 : decode cL_unassign 4 = .ok (.iload_n 2, 1) := by decide +kernel
theorem dL_unassign_5 : decode cL_unassign 5 = .ok (.invokevirtual 44, 3) := by decide +kernel
theorem dL_unassign_8 : decode cL_unassign 8 = .ok (.i2l, 1) := by decide +kernel
theorem dL_unassign_9 : decode cL_unassign 9 = .ok (.lastore, 1) := by decide +kernel
theorem dL_unassign_10 : decode cL_unassign 10 = .ok (.goto 11, 3) := by decide +kernel
theorem dL_unassign_13 : decode cL_unassign 13 = .ok (.astore 4, 2) := by decide +kernel
theorem dL_unassign_15 : decode cL_unassign 15 = .ok (.iconst 1, 1) := by decide +kernel
theorem dL_unassign_16 : decode cL_unassign 16 = .ok (.ireturn, 1) := by decide +kernel
theorem dL_unassign_17 : decode cL_unassign 17 = .ok (.astore 4, 2) := by decide +kernel
theorem dL_unassign_19 : decode cL_unassign 19 = .ok (.iconst 2, 1) := by decide +kernel
theorem dL_unassign_20 : decode cL_unassign 20 = .ok (.ireturn, 1) := by decide +kernel
theorem dL_unassign_21 : decode cL_unassign 21 = .ok (.iconst 0, 1) := by decide +kernel
theorem dL_unassign_22 : decode cL_unassign 22 = .ok (.ireturn, 1) := by decide +kernel
theorem dL_assignAll_0 : decode cL_assignAll 0 = .ok (.aload_n 2, 1) := by decide +kernel
theorem dL_assignAll_1 : decode cL_assignAll 1 = .ok (.iconst 0, 1) := by decide +kernel
theorem dL_assignAll_2 : decode cL_assignAll 2 = .ok (.aload_n 0, 1) := by decide +kernel
theorem dL_assignAll_3 : decode cL_assignAll 3 = .ok (.iload_n 1, 1) := by decide +kernel
theorem dL_assignAll_4 : decode cL_assignAll 4 = .ok (.invokevirtual 49, 3) := by decide +kernel
theorem dL_assignAll_7 : decode cL_assignAll 7 = .ok (.i2l, 1) := by decide +kernel
