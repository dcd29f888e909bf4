theorem dX7_plan_508 : decode cX7_plan 508 = .ok (.invokevirtual 142, 3) := by decide +kernel
theorem dX7_plan_511 : decode cX7_plan 511 = .ok (.aload_n 0, 1) := by decide +kernel
theorem dX7_plan_512 : decode cX7_plan 512 = .ok (.bipush 6, 2) := by decide +kernel
theorem dX7_plan_514 : decode cX7_plan 514 = .ok (.aload_n 2, 1) := by decide +kernel
theorem dX7_plan_515 : decode cX7_plan 515 = .ok (.iconst 1, 1) := by decide +kernel
theorem dX7_plan_516 : decode cX7_plan 516 = .ok (.iaload, 1) := by decide +kernel
theorem dX7_plan_517 : decode cX7_plan 517 = .ok (.invokevirtual 142, 3) := by decide +kernel
theorem dX7_plan_520 : decode cX7_plan 520 = .ok (.iconst 1, 1) := by decide +kernel
theorem dX7_plan_521 : decode cX7_plan 521 = .ok (.ireturn, 1) := by decide +kernel
theorem dX7_commit_0 : decode cX7_commit 0 = .ok (.iconst 0, 1) := by decide +kernel
theorem dX7_commit_1 : decode cX7_commit 1 = .ok (.istore_n 2, 1) := by decide +kernel
theorem dX7_commit_2 : decode cX7_commit 2 = .ok (.iload_n 2, 1) := by decide +kernel
theorem dX7_commit_3 : decode cX7_commit 3 = .ok (.aload_n 0, 1) := by decide +kernel
theorem dX7_commit_4 : decode cX7_commit 4 = .ok (.getfield 111, 3) := by decide +kernel
theorem dX7_commit_7 : decode cX7_commit 7 = .ok (.if_icmp .ge 65, 3) := by decide +kernel
theorem dX7_commit_10 : decode cX7_commit 10 = .ok (.iload_n 2, 1) := by decide +kernel
theorem dX7_commit_11 : decode cX7_commit 11 = .ok (.iload_n 1, 1) := by decide +kernel
theorem dX7_commit_12 : decode cX7_commit 12 = .ok (.if_icmp .ge 60, 3) := by decide +kernel
theorem dX7_commit_15 : decode cX7_commit 15 = .ok (.iconst 0, 1) := by decide +kernel
theorem dX7_commit_16 : decode cX7_commit 16 = .ok (.istore_n 3, 1) := by decide +kernel
theorem dX7_commit_17 : decode cX7_commit 17 = .ok (.iload_n 3, 1) := by decide +kernel
theorem dX7_commit_18 : decode cX7_commit 18 = .ok (.bipush 32, 2) := by decide +kernel
theorem dX7_commit_20 : decode cX7_commit 20 = .ok (.if_icmp .ge 36, 3) := by decide +kernel
theorem dX7_commit_23 : decode cX7_commit 23 = .ok (.aload_n 0, 1) := by decide +kernel
theorem dX7_commit_24 : decode cX7_commit 24 = .ok (.getfield 9, 3) := by decide +kernel
theorem dX7_commit_27 : decode cX7_commit 27 = .ok (.aload_n 0, 1) := by decide +kernel
theorem dX7_commit_28 : decode cX7_commit 28 = .ok (.getfield 43, 3) := by decide +kernel
theorem dX7_commit_31 : decode cX7_commit 31 = .ok (.iload_n 2, 1) := by decide +kernel
theorem dX7_commit_32 : decode cX7_commit 32 = .ok (.iaload, 1) := by decide +kernel
theorem dX7_commit_33 : decode cX7_commit 33 = .ok (.bipush 32, 2) := by decide +kernel
theorem dX7_commit_35 : decode cX7_commit 35 = .ok (.imul, 1) := by decide +kernel
theorem dX7_commit_36 : decode cX7_commit 36 = .ok (.iload_n 3, 1) := by decide +kernel
theorem dX7_commit_37 : decode cX7_commit 37 = .ok (.iadd, 1) := by decide +kernel
theorem dX7_commit_38 : decode cX7_commit 38 = .ok (.aload_n 0, 1) := by decide +kernel
theorem dX7_commit_39 : decode cX7_commit 39 = .ok (.getfield 46, 3) := by decide +kernel
theorem dX7_commit_42 : decode cX7_commit 42 = .ok (.iload_n 2, 1) := by decide +kernel
theorem dX7_commit_43 : decode cX7_commit 43 = .ok (.bipush 32, 2) := by decide +kernel
theorem dX7_commit_45 : decode cX7_commit 45 = .ok (.imul, 1) := by decide +kernel
theorem dX7_commit_46 : decode cX7_commit 46 = .ok (.iload_n 3, 1) := by decide +kernel
theorem dX7_commit_47 : decode cX7_commit 47 = .ok (.iadd, 1) := by decide +kernel
theorem dX7_commit_48 : decode cX7_commit 48 = .ok (.iaload, 1) := by decide +kernel
theorem dX7_commit_49 : decode cX7_commit 49 = .ok (.iastore, 1) := by decide +kernel
theorem dX7_commit_50 : decode cX7_commit 50 = .ok (.iinc 3 1, 3) := by decide +kernel
theorem dX7_commit_53 : decode cX7_commit 53 = .ok (.goto (-36), 3) := by decide +kernel
theorem dX7_commit_56 : decode cX7_commit 56 = .ok (.aload_n 0, 1) := by decide +kernel
theorem dX7_commit_57 : decode cX7_commit 57 = .ok (.dup, 1) := by decide +kernel
theorem dX7_commit_58 : decode cX7_commit 58 = .ok (.getfield 79, 3) := by decide +kernel
theorem dX7_commit_61 : decode cX7_commit 61 = .ok (.iconst 1, 1) := by decide +kernel
theorem dX7_commit_62 : decode cX7_commit 62 = .ok (.iadd, 1) := by decide +kernel
theorem dX7_commit_63 : decode cX7_commit 63 = .ok (.putfield 79, 3) := by decide +kernel
theorem dX7_commit_66 : decode cX7_commit 66 = .ok (.iinc 2 1, 3) := by decide +kernel
theorem dX7_commit_69 : decode cX7_commit 69 = .ok (.goto (-67), 3) := by decide +kernel
theorem dX7_commit_72 : decode cX7_commit 72 = .ok (.iload_n 1, 1) := by decide +kernel
theorem dX7_commit_73 : decode cX7_commit 73 = .ok (.aload_n 0, 1) := by decide +kernel
theorem dX7_commit_74 : decode cX7_commit 74 = .ok (.getfield 111, 3) := by decide +kernel
theorem dX7_commit_77 : decode cX7_commit 77 = .ok (.if_icmp .ge 5, 3) := by decide +kernel
theorem dX7_commit_80 : decode cX7_commit 80 = .ok (.iconst 0, 1) := by decide +kernel
theorem dX7_commit_81 : decode cX7_commit 81 = .ok (.ireturn, 1) := by decide +kernel
theorem dX7_commit_82 : decode cX7_commit 82 = .ok (.aload_n 0, 1) := by decide +kernel
theorem dX7_commit_83 : decode cX7_commit 83 = .ok (.iconst 0, 1) := by decide +kernel
theorem dX7_commit_84 : decode cX7_commit 84 = .ok (.putfield 76, 3) := by decide +kernel
theorem dX7_commit_87 : decode cX7_commit 87 = .ok (.iconst 0, 1) := by decide +kernel
theorem dX7_commit_88 : decode cX7_commit 88 = .ok (.istore_n 2, 1) := by decide +kernel
theorem dX7_commit_89 : decode cX7_commit 89 = .ok (.iload_n 2, 1) := by decide +kernel
theorem dX7_commit_90 : decode cX7_commit 90 = .ok (.bipush 32, 2) := by decide +kernel
theorem dX7_commit_92 : decode cX7_commit 92 = .ok (.if_icmp .ge 20, 3) := by decide +kernel
theorem dX7_commit_95 : decode cX7_commit 95 = .ok (.aload_n 0, 1) := by decide +kernel
theorem dX7_commit_96 : decode cX7_commit 96 = .ok (.iload_n 2, 1) := by decide +kernel
theorem dX7_commit_97 : decode cX7_commit 97 = .ok (.aload_n 0, 1) := by decide +kernel
theorem dX7_commit_98 : decode cX7_commit 98 = .ok (.getfield 13, 3) := by decide +kernel
theorem dX7_commit_101 : decode cX7_commit 101 = .ok (.iload_n 2, 1) := by decide +kernel
theorem dX7_commit_102 : decode cX7_commit 102 = .ok (.iaload, 1) := by decide +kernel
theorem dX7_commit_103 : decode cX7_commit 103 = .ok (.invokevirtual 72, 3) := by decide +kernel
theorem dX7_commit_106 : decode cX7_commit 106 = .ok (.iinc 2 1, 3) := by decide +kernel
theorem dX7_commit_109 : decode cX7_commit 109 = .ok (.goto (-20), 3) := by decide +kernel
theorem dX7_commit_112 : decode cX7_commit 112 = .ok (.iconst 1, 1) := by decide +kernel
theorem dX7_commit_113 : decode cX7_commit 113 = .ok (.ireturn, 1) := by decide +kernel
theorem dX7_point_0 : decode cX7_point 0 = .ok (.aload_n 0, 1) := by decide +kernel
theorem dX7_point_1 : decode cX7_point 1 = .ok (.aload_n 0, 1) := by decide +kernel
theorem dX7_point_2 : decode cX7_point 2 = .ok (.getfield 68, 3) := by decide +kernel
theorem dX7_point_5 : decode cX7_point 5 = .ok (.iconst 1, 1) := by decide +kernel
theorem dX7_point_6 : decode cX7_point 6 = .ok (.invokevirtual 125, 3) := by decide +kernel
theorem dX7_point_9 : decode cX7_point 9 = .ok (.ifCond .eq 5, 3) := by decide +kernel
theorem dX7_point_12 : decode cX7_point 12 = .ok (.iconst 0, 1) := by decide +kernel
theorem dX7_point_13 : decode cX7_point 13 = .ok (.ireturn, 1) := by decide +kernel
theorem dX7_point_14 : decode cX7_point 14 = .ok (.aload_n 0, 1) := by decide +kernel
theorem dX7_point_15 : decode cX7_point 15 = .ok (.aload_n 0, 1) := by decide +kernel
theorem dX7_point_16 : decode cX7_point 16 = .ok (.invokevirtual 107, 3) := by decide +kernel
theorem dX7_point_19 : decode cX7_point 19 = .ok (.ifCond .ne 7, 3) := by decide +kernel
theorem dX7_point_22 : decode cX7_point 22 = .ok (.iconst 1, 1) := by decide +kernel
theorem dX7_point_23 : decode cX7_point 23 = .ok (.goto 4, 3) := by decide +kernel
theorem dX7_point_26 : decode cX7_point 26 = .ok (.iconst 0, 1) := by decide +kernel
theorem dX7_point_27 : decode cX7_point 27 = .ok (.iconst 2, 1) := by decide +kernel
theorem dX7_point_28 : decode cX7_point 28 = .ok (.invokevirtual 125, 3) := by decide +kernel
theorem dX7_point_31 : decode cX7_point 31 = .ok (.ifCond .eq 5, 3) := by decide +kernel
theorem dX7_point_34 : decode cX7_point 34 = .ok (.iconst 0, 1) := by decide +kernel
theorem dX7_point_35 : decode cX7_point 35 = .ok (.ireturn, 1) := by decide +kernel
theorem dX7_point_36 : decode cX7_point 36 = .ok (.aload_n 0, 1) := by decide +kernel
theorem dX7_point_37 : decode cX7_point 37 = .ok (.aload_n 0, 1) := by decide +kernel
theorem dX7_point_38 : decode cX7_point 38 = .ok (.getfield 111, 3) := by decide +kernel
theorem dX7_point_41 : decode cX7_point 41 = .ok (.invokevirtual 114, 3) := by decide +kernel
theorem dX7_point_44 : decode cX7_point 44 = .ok (.pop, 1) := by decide +kernel
theorem dX7_point_45 : decode cX7_point 45 = .ok (.aload_n 0, 1) := by decide +kernel
theorem dX7_point_46 : decode cX7_point 46 = .ok (.invokevirtual 145, 3) := by decide +kernel
theorem dX7_point_49 : decode cX7_point 49 = .ok (.ireturn, 1) := by decide +kernel
theorem dX7_info_0 : decode cX7_info 0 = .ok (.bipush 8, 2) := by decide +kernel
theorem dX7_info_2 : decode cX7_info 2 = .ok (.iconst 4, 1) := by decide +kernel
theorem dX7_info_3 : decode cX7_info 3 = .ok (.iload_n 1, 1) := by decide +kernel
theorem dX7_info_4 : decode cX7_info 4 = .ok (.imul, 1) := by decide +kernel
theorem dX7_info_5 : decode cX7_info 5 = .ok (.iadd, 1) := by decide +kernel
theorem dX7_info_6 : decode cX7_info 6 = .ok (.istore 4, 2) := by decide +kernel
theorem dX7_info_8 : decode cX7_info 8 = .ok (.aload_n 0, 1) := by decide +kernel
theorem dX7_info_9 : decode cX7_info 9 = .ok (.getfield 9, 3) := by decide +kernel
theorem dX7_info_12 : decode cX7_info 12 = .ok (.iload 4, 2) := by decide +kernel
theorem dX7_info_14 : decode cX7_info 14 = .ok (.iload_n 2, 1) := by decide +kernel
theorem dX7_info_15 : decode cX7_info 15 = .ok (.bipush 8, 2) := by decide +kernel
theorem dX7_info_17 : decode cX7_info 17 = .ok (.ishr, 1) := by decide +kernel
theorem dX7_info_18 : decode cX7_info 18 = .ok (.iastore, 1) := by decide +kernel
theorem dX7_info_19 : decode cX7_info 19 = .ok (.aload_n 0, 1) := by decide +kernel
theorem dX7_info_20 : decode cX7_info 20 = .ok (.getfield 9, 3) := by decide +kernel
theorem dX7_info_23 : decode cX7_info 23 = .ok (.iload 4, 2) := by decide +kernel
theorem dX7_info_25 : decode cX7_info 25 = .ok (.iconst 1, 1) := by decide +kernel
theorem dX7_info_26 : decode cX7_info 26 = .ok (.iadd, 1) := by decide +kernel
theorem dX7_info_27 : decode cX7_info 27 = .ok (.iload_n 2, 1) := by decide +kernel
theorem dX7_info_28 : decode cX7_info 28 = .ok (.sipush 255, 3) := by decide +kernel
theorem dX7_info_31 : decode cX7_info 31 = .ok (.iand, 1) := by decide +kernel
theorem dX7_info_32 : decode cX7_info 32 = .ok (.iastore, 1) := by decide +kernel
theorem dX7_info_33 : decode cX7_info 33 = .ok (.aload_n 0, 1) := by decide +kernel
theorem dX7_info_34 : decode cX7_info 34 = .ok (.getfield 9, 3) := by decide +kernel
theorem dX7_info_37 : decode cX7_info 37 = .ok (.iload 4, 2) := by decide +kernel
theorem dX7_info_39 : decode cX7_info 39 = .ok (.iconst 2, 1) := by decide +kernel
theorem dX7_info_40 : decode cX7_info 40 = .ok (.iadd, 1) := by decide +kernel
theorem dX7_info_41 : decode cX7_info 41 = .ok (.iload_n 3, 1) := by decide +kernel
theorem dX7_info_42 : decode cX7_info 42 = .ok (.bipush 8, 2) := by decide +kernel
theorem dX7_info_44 : decode cX7_info 44 = .ok (.ishr, 1) := by decide +kernel
theorem dX7_info_45 : decode cX7_info 45 = .ok (.iastore, 1) := by decide +kernel
theorem dX7_info_46 : decode cX7_info 46 = .ok (.aload_n 0, 1) := by decide +kernel
theorem dX7_info_47 : decode cX7_info 47 = .ok (.getfield 9, 3) := by decide +kernel
theorem dX7_info_50 : decode cX7_info 50 = .ok (.iload 4, 2) := by decide +kernel
theorem dX7_info_52 : decode cX7_info 52 = .ok (.iconst 3, 1) := by decide +kernel
theorem dX7_info_53 : decode cX7_info 53 = .ok (.iadd, 1) := by decide +kernel
theorem dX7_info_54 : decode cX7_info 54 = .ok (.iload_n 3, 1) := by decide +kernel
theorem dX7_info_55 : decode cX7_info 55 = .ok (.sipush 255, 3) := by decide +kernel
theorem dX7_info_58 : decode cX7_info 58 = .ok (.iand, 1) := by decide +kernel
theorem dX7_info_59 : decode cX7_info 59 = .ok (.iastore, 1) := by decide +kernel
theorem dX7_info_60 : decode cX7_info 60 = .ok (.aload_n 0, 1) := by decide +kernel
theorem dX7_info_61 : decode cX7_info 61 = .ok (.dup, 1) := by decide +kernel
theorem dX7_info_62 : decode cX7_info 62 = .ok (.getfield 79, 3) := by decide +kernel
theorem dX7_info_65 : decode cX7_info 65 = .ok (.iconst 1, 1) := by decide +kernel
theorem dX7_info_66 : decode cX7_info 66 = .ok (.iadd, 1) := by decide +kernel
theorem dX7_info_67 : decode cX7_info 67 = .ok (.putfield 79, 3) := by decide +kernel
theorem dX7_info_70 : decode cX7_info 70 = .ok (.return_, 1) := by decide +kernel
theorem dX7_snapshot_0 : decode cX7_snapshot 0 = .ok (.aload_n 0, 1) := by decide +kernel
theorem dX7_snapshot_1 : decode cX7_snapshot 1 = .ok (.iload_n 1, 1) := by decide +kernel
theorem dX7_snapshot_2 : decode cX7_snapshot 2 = .ok (.ifCond .lt 8, 3) := by decide +kernel
theorem dX7_snapshot_5 : decode cX7_snapshot 5 = .ok (.iload_n 1, 1) := by decide +kernel
theorem dX7_snapshot_6 : decode cX7_snapshot 6 = .ok (.iconst 5, 1) := by decide +kernel
theorem dX7_snapshot_7 : decode cX7_snapshot 7 = .ok (.if_icmp .lt 7, 3) := by decide +kernel
theorem dX7_snapshot_10 : decode cX7_snapshot 10 = .ok (.iconst 1, 1) := by decide +kernel
theorem dX7_snapshot_11 : decode cX7_snapshot 11 = .ok (.goto 4, 3) := by decide +kernel
theorem dX7_snapshot_14 : decode cX7_snapshot 14 = .ok (.iconst 0, 1) := by decide +kernel
theorem dX7_snapshot_15 : decode cX7_snapshot 15 = .ok (.iconst 1, 1) := by decide +kernel
theorem dX7_snapshot_16 : decode cX7_snapshot 16 = .ok (.invokevirtual 125, 3) := by decide +kernel
theorem dX7_snapshot_19 : decode cX7_snapshot 19 = .ok (.ifCond .eq 4, 3) := by decide +kernel
theorem dX7_snapshot_22 : decode cX7_snapshot 22 = .ok (.return_, 1) := by decide +kernel
theorem dX7_snapshot_23 : decode cX7_snapshot 23 = .ok (.aload_n 0, 1) := by decide +kernel
theorem dX7_snapshot_24 : decode cX7_snapshot 24 = .ok (.aload_n 0, 1) := by decide +kernel
theorem dX7_snapshot_25 : decode cX7_snapshot 25 = .ok (.getfield 68, 3) := by decide +kernel
theorem dX7_snapshot_28 : decode cX7_snapshot 28 = .ok (.iconst 2, 1) := by decide +kernel
theorem dX7_snapshot_29 : decode cX7_snapshot 29 = .ok (.invokevirtual 125, 3) := by decide +kernel
theorem dX7_snapshot_32 : decode cX7_snapshot 32 = .ok (.ifCond .eq 4, 3) := by decide +kernel
theorem dX7_snapshot_35 : decode cX7_snapshot 35 = .ok (.return_, 1) := by decide +kernel
theorem dX7_snapshot_36 : decode cX7_snapshot 36 = .ok (.aload_n 0, 1) := by decide +kernel
theorem dX7_snapshot_37 : decode cX7_snapshot 37 = .ok (.aload_n 0, 1) := by decide +kernel
theorem dX7_snapshot_38 : decode cX7_snapshot 38 = .ok (.invokevirtual 107, 3) := by decide +kernel
theorem dX7_snapshot_41 : decode cX7_snapshot 41 = .ok (.ifCond .ne 7, 3) := by decide +kernel
theorem dX7_snapshot_44 : decode cX7_snapshot 44 = .ok (.iconst 1, 1) := by decide +kernel
theorem dX7_snapshot_45 : decode cX7_snapshot 45 = .ok (.goto 4, 3) := by decide +kernel
theorem dX7_snapshot_48 : decode cX7_snapshot 48 = .ok (.iconst 0, 1) := by decide +kernel
theorem dX7_snapshot_49 : decode cX7_snapshot 49 = .ok (.iconst 3, 1) := by decide +kernel
theorem dX7_snapshot_50 : decode cX7_snapshot 50 = .ok (.invokevirtual 125, 3) := by decide +kernel
theorem dX7_snapshot_53 : decode cX7_snapshot 53 = .ok (.ifCond .eq 4, 3) := by decide +kernel
theorem dX7_snapshot_56 : decode cX7_snapshot 56 = .ok (.return_, 1) := by decide +kernel
theorem dX7_snapshot_57 : decode cX7_snapshot 57 = .ok (.aload_n 0, 1) := by decide +kernel
theorem dX7_snapshot_58 : decode cX7_snapshot 58 = .ok (.aload_n 0, 1) := by decide +kernel
theorem dX7_snapshot_59 : decode cX7_snapshot 59 = .ok (.getfield 111, 3) := by decide +kernel
theorem dX7_snapshot_62 : decode cX7_snapshot 62 = .ok (.invokevirtual 114, 3) := by decide +kernel
theorem dX7_snapshot_65 : decode cX7_snapshot 65 = .ok (.pop, 1) := by decide +kernel
theorem dX7_snapshot_66 : decode cX7_snapshot 66 = .ok (.aload_n 0, 1) := by decide +kernel
theorem dX7_snapshot_67 : decode cX7_snapshot 67 = .ok (.iload_n 1, 1) := by decide +kernel
theorem dX7_snapshot_68 : decode cX7_snapshot 68 = .ok (.aload_n 0, 1) := by decide +kernel
theorem dX7_snapshot_69 : decode cX7_snapshot 69 = .ok (.iconst (-1), 1) := by decide +kernel
theorem dX7_snapshot_70 : decode cX7_snapshot 70 = .ok (.iconst 0, 1) := by decide +kernel
theorem dX7_snapshot_71 : decode cX7_snapshot 71 = .ok (.invokevirtual 86, 3) := by decide +kernel
theorem dX7_snapshot_74 : decode cX7_snapshot 74 = .ok (.aload_n 0, 1) := by decide +kernel
theorem dX7_snapshot_75 : decode cX7_snapshot 75 = .ok (.iconst (-1), 1) := by decide +kernel
theorem dX7_snapshot_76 : decode cX7_snapshot 76 = .ok (.iconst 1, 1) := by decide +kernel
theorem dX7_snapshot_77 : decode cX7_snapshot 77 = .ok (.invokevirtual 86, 3) := by decide +kernel
theorem dX7_snapshot_80 : decode cX7_snapshot 80 = .ok (.invokevirtual 148, 3) := by decide +kernel
theorem dX7_snapshot_83 : decode cX7_snapshot 83 = .ok (.return_, 1) := by decide +kernel
theorem dX7_drop_0 : decode cX7_drop 0 = .ok (.aload_n 0, 1) := by decide +kernel
theorem dX7_drop_1 : decode cX7_drop 1 = .ok (.iload_n 1, 1) := by decide +kernel
theorem dX7_drop_2 : decode cX7_drop 2 = .ok (.ifCond .lt 16, 3) := by decide +kernel
theorem dX7_drop_5 : decode cX7_drop 5 = .ok (.iload_n 1, 1) := by decide +kernel
theorem dX7_drop_6 : decode cX7_drop 6 = .ok (.iconst 5, 1) := by decide +kernel
theorem dX7_drop_7 : decode cX7_drop 7 = .ok (.if_icmp .ge 11, 3) := by decide +kernel
theorem dX7_drop_10 : decode cX7_drop 10 = .ok (.aload_n 0, 1) := by decide +kernel
theorem dX7_drop_11 : decode cX7_drop 11 = .ok (.iload_n 1, 1) := by decide +kernel
theorem dX7_drop_12 : decode cX7_drop 12 = .ok (.invokevirtual 152, 3) := by decide +kernel
theorem dX7_drop_15 : decode cX7_drop 15 = .ok (.ifCond .ne 7, 3) := by decide +kernel
theorem dX7_drop_18 : decode cX7_drop 18 = .ok (.iconst 1, 1) := by decide +kernel
theorem dX7_drop_19 : decode cX7_drop 19 = .ok (.goto 4, 3) := by decide +kernel
theorem dX7_drop_22 : decode cX7_drop 22 = .ok (.iconst 0, 1) := by decide +kernel
theorem dX7_drop_23 : decode cX7_drop 23 = .ok (.iconst 1, 1) := by decide +kernel
theorem dX7_drop_24 : decode cX7_drop 24 = .ok (.invokevirtual 125, 3) := by decide +kernel
theorem dX7_drop_27 : decode cX7_drop 27 = .ok (.ifCond .eq 4, 3) := by decide +kernel
theorem dX7_drop_30 : decode cX7_drop 30 = .ok (.return_, 1) := by decide +kernel
theorem dX7_drop_31 : decode cX7_drop 31 = .ok (.aload_n 0, 1) := by decide +kernel
theorem dX7_drop_32 : decode cX7_drop 32 = .ok (.aload_n 0, 1) := by decide +kernel
theorem dX7_drop_33 : decode cX7_drop 33 = .ok (.getfield 68, 3) := by decide +kernel
theorem dX7_drop_36 : decode cX7_drop 36 = .ok (.iconst 2, 1) := by decide +kernel
theorem dX7_drop_37 : decode cX7_drop 37 = .ok (.invokevirtual 125, 3) := by decide +kernel
theorem dX7_drop_40 : decode cX7_drop 40 = .ok (.ifCond .eq 4, 3) := by decide +kernel
theorem dX7_drop_43 : decode cX7_drop 43 = .ok (.return_, 1) := by decide +kernel
theorem dX7_drop_44 : decode cX7_drop 44 = .ok (.aload_n 0, 1) := by decide +kernel
theorem dX7_drop_45 : decode cX7_drop 45 = .ok (.iload_n 1, 1) := by decide +kernel
theorem dX7_drop_46 : decode cX7_drop 46 = .ok (.iconst 0, 1) := by decide +kernel
theorem dX7_drop_47 : decode cX7_drop 47 = .ok (.iconst 0, 1) := by decide +kernel
theorem dX7_drop_48 : decode cX7_drop 48 = .ok (.invokevirtual 148, 3) := by decide +kernel
theorem dX7_drop_51 : decode cX7_drop 51 = .ok (.return_, 1) := by decide +kernel
theorem dX7_load_0 : decode cX7_load 0 = .ok (.aload_n 0, 1) := by decide +kernel
theorem dX7_load_1 : decode cX7_load 1 = .ok (.iconst (-1), 1) := by decide +kernel
theorem dX7_load_2 : decode cX7_load 2 = .ok (.iload_n 1, 1) := by decide +kernel
theorem dX7_load_3 : decode cX7_load 3 = .ok (.invokevirtual 89, 3) := by decide +kernel
theorem dX7_load_6 : decode cX7_load 6 = .ok (.istore_n 2, 1) := by decide +kernel
theorem dX7_load_7 : decode cX7_load 7 = .ok (.aload_n 0, 1) := by decide +kernel
theorem dX7_load_8 : decode cX7_load 8 = .ok (.iload_n 1, 1) := by decide +kernel
theorem dX7_load_9 : decode cX7_load 9 = .ok (.iload_n 2, 1) := by decide +kernel
theorem dX7_load_10 : decode cX7_load 10 = .ok (.ifCond .ne 7, 3) := by decide +kernel
theorem dX7_load_13 : decode cX7_load 13 = .ok (.iconst (-1), 1) := by decide +kernel
theorem dX7_load_14 : decode cX7_load 14 = .ok (.goto 9, 3) := by decide +kernel
theorem dX7_load_17 : decode cX7_load 17 = .ok (.aload_n 0, 1) := by decide +kernel
theorem dX7_load_18 : decode cX7_load 18 = .ok (.iload_n 2, 1) := by decide +kernel
theorem dX7_load_19 : decode cX7_load 19 = .ok (.iconst 0, 1) := by decide +kernel
theorem dX7_load_20 : decode cX7_load 20 = .ok (.invokevirtual 82, 3) := by decide +kernel
theorem dX7_load_23 : decode cX7_load 23 = .ok (.invokevirtual 72, 3) := by decide +kernel
theorem dX7_load_26 : decode cX7_load 26 = .ok (.iconst 0, 1) := by decide +kernel
theorem dX7_load_27 : decode cX7_load 27 = .ok (.istore_n 3, 1) := by decide +kernel
theorem dX7_load_28 : decode cX7_load 28 = .ok (.iload_n 3, 1) := by decide +kernel
theorem dX7_load_29 : decode cX7_load 29 = .ok (.aload_n 0, 1) := by decide +kernel
theorem dX7_load_30 : decode cX7_load 30 = .ok (.getfield 13, 3) := by decide +kernel
theorem dX7_load_33 : decode cX7_load 33 = .ok (.iload_n 1, 1) := by decide +kernel
theorem dX7_load_34 : decode cX7_load 34 = .ok (.iaload, 1) := by decide +kernel
theorem dX7_load_35 : decode cX7_load 35 = .ok (.if_icmp .ge 43, 3) := by decide +kernel
theorem dX7_load_38 : decode cX7_load 38 = .ok (.aload_n 0, 1) := by decide +kernel
theorem dX7_load_39 : decode cX7_load 39 = .ok (.getfield 18, 3) := by decide +kernel
theorem dX7_load_42 : decode cX7_load 42 = .ok (.iload_n 1, 1) := by decide +kernel
theorem dX7_load_43 : decode cX7_load 43 = .ok (.aaload, 1) := by decide +kernel
theorem dX7_load_44 : decode cX7_load 44 = .ok (.iload_n 3, 1) := by decide +kernel
theorem dX7_load_45 : decode cX7_load 45 = .ok (.aload_n 0, 1) := by decide +kernel
theorem dX7_load_46 : decode cX7_load 46 = .ok (.getfield 9, 3) := by decide +kernel
theorem dX7_load_49 : decode cX7_load 49 = .ok (.aload_n 0, 1) := by decide +kernel
theorem dX7_load_50 : decode cX7_load 50 = .ok (.iload_n 2, 1) := by decide +kernel
theorem dX7_load_51 : decode cX7_load 51 = .ok (.iconst 2, 1) := by decide +kernel
theorem dX7_load_52 : decode cX7_load 52 = .ok (.iconst 2, 1) := by decide +kernel
theorem dX7_load_53 : decode cX7_load 53 = .ok (.iload_n 3, 1) := by decide +kernel
theorem dX7_load_54 : decode cX7_load 54 = .ok (.bipush 32, 2) := by decide +kernel
theorem dX7_load_56 : decode cX7_load 56 = .ok (.idiv, 1) := by decide +kernel
theorem dX7_load_57 : decode cX7_load 57 = .ok (.imul, 1) := by decide +kernel
theorem dX7_load_58 : decode cX7_load 58 = .ok (.iadd, 1) := by decide +kernel
theorem dX7_load_59 : decode cX7_load 59 = .ok (.invokevirtual 82, 3) := by decide +kernel
theorem dX7_load_62 : decode cX7_load 62 = .ok (.bipush 32, 2) := by decide +kernel
theorem dX7_load_64 : decode cX7_load 64 = .ok (.imul, 1) := by decide +kernel
theorem dX7_load_65 : decode cX7_load 65 = .ok (.iload_n 3, 1) := by decide +kernel
theorem dX7_load_66 : decode cX7_load 66 = .ok (.bipush 32, 2) := by decide +kernel
theorem dX7_load_68 : decode cX7_load 68 = .ok (.irem, 1) := by decide +kernel
theorem dX7_load_69 : decode cX7_load 69 = .ok (.iadd, 1) := by decide +kernel
theorem dX7_load_70 : decode cX7_load 70 = .ok (.iaload, 1) := by decide +kernel
theorem dX7_load_71 : decode cX7_load 71 = .ok (.iastore, 1) := by decide +kernel
theorem dX7_load_72 : decode cX7_load 72 = .ok (.iinc 3 1, 3) := by decide +kernel
theorem dX7_load_75 : decode cX7_load 75 = .ok (.goto (-47), 3) := by decide +kernel
theorem dX7_load_78 : decode cX7_load 78 = .ok (.return_, 1) := by decide +kernel
theorem dX7_crash_0 : decode cX7_crash 0 = .ok (.aload_n 0, 1) := by decide +kernel
theorem dX7_crash_1 : decode cX7_crash 1 = .ok (.iload_n 1, 1) := by decide +kernel
theorem dX7_crash_2 : decode cX7_crash 2 = .ok (.ifCond .ge 7, 3) := by decide +kernel
theorem dX7_crash_5 : decode cX7_crash 5 = .ok (.iconst 1, 1) := by decide +kernel
theorem dX7_crash_6 : decode cX7_crash 6 = .ok (.goto 4, 3) := by decide +kernel
theorem dX7_crash_9 : decode cX7_crash 9 = .ok (.iconst 0, 1) := by decide +kernel
theorem dX7_crash_10 : decode cX7_crash 10 = .ok (.iconst 1, 1) := by decide +kernel
theorem dX7_crash_11 : decode cX7_crash 11 = .ok (.invokevirtual 125, 3) := by decide +kernel
theorem dX7_crash_14 : decode cX7_crash 14 = .ok (.ifCond .eq 5, 3) := by decide +kernel
theorem dX7_crash_17 : decode cX7_crash 17 = .ok (.iconst 0, 1) := by decide +kernel
theorem dX7_crash_18 : decode cX7_crash 18 = .ok (.ireturn, 1) := by decide +kernel
theorem dX7_crash_19 : decode cX7_crash 19 = .ok (.aload_n 0, 1) := by decide +kernel
theorem dX7_crash_20 : decode cX7_crash 20 = .ok (.aload_n 0, 1) := by decide +kernel
theorem dX7_crash_21 : decode cX7_crash 21 = .ok (.getfield 68, 3) := by decide +kernel
theorem dX7_crash_24 : decode cX7_crash 24 = .ok (.iconst 2, 1) := by decide +kernel
theorem dX7_crash_25 : decode cX7_crash 25 = .ok (.invokevirtual 125, 3) := by decide +kernel
theorem dX7_crash_28 : decode cX7_crash 28 = .ok (.ifCond .eq 5, 3) := by decide +kernel
theorem dX7_crash_31 : decode cX7_crash 31 = .ok (.iconst 0, 1) := by decide +kernel
theorem dX7_crash_32 : decode cX7_crash 32 = .ok (.ireturn, 1) := by decide +kernel
theorem dX7_crash_33 : decode cX7_crash 33 = .ok (.aload_n 0, 1) := by decide +kernel
theorem dX7_crash_34 : decode cX7_crash 34 = .ok (.invokevirtual 107, 3) := by decide +kernel
theorem dX7_crash_37 : decode cX7_crash 37 = .ok (.ifCond .eq 15, 3) := by decide +kernel
theorem dX7_crash_40 : decode cX7_crash 40 = .ok (.aload_n 0, 1) := by decide +kernel
theorem dX7_crash_41 : decode cX7_crash 41 = .ok (.iload_n 1, 1) := by decide +kernel
theorem dX7_crash_42 : decode cX7_crash 42 = .ok (.invokevirtual 114, 3) := by decide +kernel
theorem dX7_crash_45 : decode cX7_crash 45 = .ok (.ifCond .eq 7, 3) := by decide +kernel
theorem dX7_crash_48 : decode cX7_crash 48 = .ok (.iconst 1, 1) := by decide +kernel
theorem dX7_crash_49 : decode cX7_crash 49 = .ok (.goto 4, 3) := by decide +kernel
theorem dX7_crash_52 : decode cX7_crash 52 = .ok (.iconst 0, 1) := by decide +kernel
theorem dX7_crash_53 : decode cX7_crash 53 = .ok (.istore_n 3, 1) := by decide +kernel
theorem dX7_crash_54 : decode cX7_crash 54 = .ok (.iconst 0, 1) := by decide +kernel
theorem dX7_crash_55 : decode cX7_crash 55 = .ok (.istore 4, 2) := by decide +kernel
theorem dX7_crash_57 : decode cX7_crash 57 = .ok (.iload 4, 2) := by decide +kernel
theorem dX7_crash_59 : decode cX7_crash 59 = .ok (.bipush 32, 2) := by decide +kernel
theorem dX7_crash_61 : decode cX7_crash 61 = .ok (.if_icmp .ge 15, 3) := by decide +kernel
theorem dX7_crash_64 : decode cX7_crash 64 = .ok (.aload_n 0, 1) := by decide +kernel
theorem dX7_crash_65 : decode cX7_crash 65 = .ok (.iload 4, 2) := by decide +kernel
theorem dX7_crash_67 : decode cX7_crash 67 = .ok (.invokevirtual 155, 3) := by decide +kernel
theorem dX7_crash_70 : decode cX7_crash 70 = .ok (.iinc 4 1, 3) := by decide +kernel
theorem dX7_crash_73 : decode cX7_crash 73 = .ok (.goto (-16), 3) := by decide +kernel
theorem dX7_crash_76 : decode cX7_crash 76 = .ok (.iload_n 2, 1) := by decide +kernel
theorem dX7_crash_77 : decode cX7_crash 77 = .ok (.ifCond .ne 8, 3) := by decide +kernel
theorem dX7_crash_80 : decode cX7_crash 80 = .ok (.aload_n 0, 1) := by decide +kernel
theorem dX7_crash_81 : decode cX7_crash 81 = .ok (.iconst 0, 1) := by decide +kernel
theorem dX7_crash_82 : decode cX7_crash 82 = .ok (.putfield 76, 3) := by decide +kernel
theorem dX7_crash_85 : decode cX7_crash 85 = .ok (.iconst 0, 1) := by decide +kernel
theorem dX7_crash_86 : decode cX7_crash 86 = .ok (.istore 4, 2) := by decide +kernel
theorem dX7_crash_88 : decode cX7_crash 88 = .ok (.iload 4, 2) := by decide +kernel
theorem dX7_crash_90 : decode cX7_crash 90 = .ok (.aload_n 0, 1) := by decide +kernel
theorem dX7_crash_91 : decode cX7_crash 91 = .ok (.getfield 76, 3) := by decide +kernel
theorem dX7_crash_94 : decode cX7_crash 94 = .ok (.if_icmp .ge 41, 3) := by decide +kernel
theorem dX7_crash_97 : decode cX7_crash 97 = .ok (.aload_n 0, 1) := by decide +kernel
theorem dX7_crash_98 : decode cX7_crash 98 = .ok (.aload_n 0, 1) := by decide +kernel
theorem dX7_crash_99 : decode cX7_crash 99 = .ok (.getfield 30, 3) := by decide +kernel
theorem dX7_crash_102 : decode cX7_crash 102 = .ok (.iload 4, 2) := by decide +kernel
theorem dX7_crash_104 : decode cX7_crash 104 = .ok (.iaload, 1) := by decide +kernel
theorem dX7_crash_105 : decode cX7_crash 105 = .ok (.aload_n 0, 1) := by decide +kernel
theorem dX7_crash_106 : decode cX7_crash 106 = .ok (.getfield 33, 3) := by decide +kernel
theorem dX7_crash_109 : decode cX7_crash 109 = .ok (.iload 4, 2) := by decide +kernel
theorem dX7_crash_111 : decode cX7_crash 111 = .ok (.iaload, 1) := by decide +kernel
theorem dX7_crash_112 : decode cX7_crash 112 = .ok (.aload_n 0, 1) := by decide +kernel
theorem dX7_crash_113 : decode cX7_crash 113 = .ok (.getfield 36, 3) := by decide +kernel
theorem dX7_crash_116 : decode cX7_crash 116 = .ok (.iload 4, 2) := by decide +kernel
theorem dX7_crash_118 : decode cX7_crash 118 = .ok (.iaload, 1) := by decide +kernel
theorem dX7_crash_119 : decode cX7_crash 119 = .ok (.aload_n 0, 1) := by decide +kernel
theorem dX7_crash_120 : decode cX7_crash 120 = .ok (.getfield 39, 3) := by decide +kernel
theorem dX7_crash_123 : decode cX7_crash 123 = .ok (.iload 4, 2) := by decide +kernel
theorem dX7_crash_125 : decode cX7_crash 125 = .ok (.laload, 1) := by decide +kernel
theorem dX7_crash_126 : decode cX7_crash 126 = .ok (.invokevirtual 118, 3) := by decide +kernel
theorem dX7_crash_129 : decode cX7_crash 129 = .ok (.iinc 4 1, 3) := by decide +kernel
theorem dX7_crash_132 : decode cX7_crash 132 = .ok (.goto (-44), 3) := by decide +kernel
theorem dX7_crash_135 : decode cX7_crash 135 = .ok (.iload_n 3, 1) := by decide +kernel
theorem dX7_crash_136 : decode cX7_crash 136 = .ok (.ireturn, 1) := by decide +kernel
theorem dX7_fail_0 : decode cX7_fail 0 = .ok (.aload_n 0, 1) := by decide +kernel
theorem dX7_fail_1 : decode cX7_fail 1 = .ok (.iload_n 1, 1) := by decide +kernel
theorem dX7_fail_2 : decode cX7_fail 2 = .ok (.ifCond .lt 8, 3) := by decide +kernel
theorem dX7_fail_5 : decode cX7_fail 5 = .ok (.iload_n 1, 1) := by decide +kernel
theorem dX7_fail_6 : decode cX7_fail 6 = .ok (.iconst 4, 1) := by decide +kernel
theorem dX7_fail_7 : decode cX7_fail 7 = .ok (.if_icmp .le 7, 3) := by decide +kernel
theorem dX7_fail_10 : decode cX7_fail 10 = .ok (.iconst 1, 1) := by decide +kernel
theorem dX7_fail_11 : decode cX7_fail 11 = .ok (.goto 4, 3) := by decide +kernel
theorem dX7_fail_14 : decode cX7_fail 14 = .ok (.iconst 0, 1) := by decide +kernel
theorem dX7_fail_15 : decode cX7_fail 15 = .ok (.iconst 1, 1) := by decide +kernel
theorem dX7_fail_16 : decode cX7_fail 16 = .ok (.invokevirtual 125, 3) := by decide +kernel
theorem dX7_fail_19 : decode cX7_fail 19 = .ok (.ifCond .eq 4, 3) := by decide +kernel
theorem dX7_fail_22 : decode cX7_fail 22 = .ok (.return_, 1) := by decide +kernel
theorem dX7_fail_23 : decode cX7_fail 23 = .ok (.aload_n 0, 1) := by decide +kernel
theorem dX7_fail_24 : decode cX7_fail 24 = .ok (.aload_n 0, 1) := by decide +kernel
theorem dX7_fail_25 : decode cX7_fail 25 = .ok (.getfield 68, 3) := by decide +kernel
theorem dX7_fail_28 : decode cX7_fail 28 = .ok (.iconst 2, 1) := by decide +kernel
theorem dX7_fail_29 : decode cX7_fail 29 = .ok (.invokevirtual 125, 3) := by decide +kernel
theorem dX7_fail_32 : decode cX7_fail 32 = .ok (.ifCond .eq 4, 3) := by decide +kernel
theorem dX7_fail_35 : decode cX7_fail 35 = .ok (.return_, 1) := by decide +kernel
theorem dX7_fail_36 : decode cX7_fail 36 = .ok (.aload_n 0, 1) := by decide +kernel
theorem dX7_fail_37 : decode cX7_fail 37 = .ok (.getfield 62, 3) := by decide +kernel
theorem dX7_fail_40 : decode cX7_fail 40 = .ok (.ifCond .lt 19, 3) := by decide +kernel
theorem dX7_fail_43 : decode cX7_fail 43 = .ok (.aload_n 0, 1) := by decide +kernel
theorem dX7_fail_44 : decode cX7_fail 44 = .ok (.getfield 62, 3) := by decide +kernel
theorem dX7_fail_47 : decode cX7_fail 47 = .ok (.iload_n 1, 1) := by decide +kernel
theorem dX7_fail_48 : decode cX7_fail 48 = .ok (.if_icmp .eq 11, 3) := by decide +kernel
theorem dX7_fail_51 : decode cX7_fail 51 = .ok (.aload_n 0, 1) := by decide +kernel
theorem dX7_fail_52 : decode cX7_fail 52 = .ok (.iconst 1, 1) := by decide +kernel
theorem dX7_fail_53 : decode cX7_fail 53 = .ok (.putfield 68, 3) := by decide +kernel
theorem dX7_fail_56 : decode cX7_fail 56 = .ok (.goto 13, 3) := by decide +kernel
theorem dX7_fail_59 : decode cX7_fail 59 = .ok (.aload_n 0, 1) := by decide +kernel
theorem dX7_fail_60 : decode cX7_fail 60 = .ok (.iload_n 1, 1) := by decide +kernel
theorem dX7_fail_61 : decode cX7_fail 61 = .ok (.putfield 62, 3) := by decide +kernel
theorem dX7_fail_64 : decode cX7_fail 64 = .ok (.aload_n 0, 1) := by decide +kernel
theorem dX7_fail_65 : decode cX7_fail 65 = .ok (.iconst (-1), 1) := by decide +kernel
theorem dX7_fail_66 : decode cX7_fail 66 = .ok (.putfield 65, 3) := by decide +kernel
theorem dX7_fail_69 : decode cX7_fail 69 = .ok (.return_, 1) := by decide +kernel
theorem dX7_replace_0 : decode cX7_replace 0 = .ok (.aload_n 0, 1) := by decide +kernel
theorem dX7_replace_1 : decode cX7_replace 1 = .ok (.aload_n 0, 1) := by decide +kernel
theorem dX7_replace_2 : decode cX7_replace 2 = .ok (.getfield 68, 3) := by decide +kernel
theorem dX7_replace_5 : decode cX7_replace 5 = .ok (.ifCond .ne 17, 3) := by decide +kernel
theorem dX7_replace_8 : decode cX7_replace 8 = .ok (.aload_n 0, 1) := by decide +kernel
theorem dX7_replace_9 : decode cX7_replace 9 = .ok (.getfield 62, 3) := by decide +kernel
theorem dX7_replace_12 : decode cX7_replace 12 = .ok (.ifCond .lt 10, 3) := by decide +kernel
theorem dX7_replace_15 : decode cX7_replace 15 = .ok (.aload_n 0, 1) := by decide +kernel
theorem dX7_replace_16 : decode cX7_replace 16 = .ok (.getfield 65, 3) := by decide +kernel
theorem dX7_replace_19 : decode cX7_replace 19 = .ok (.ifCond .lt 7, 3) := by decide +kernel
theorem dX7_replace_22 : decode cX7_replace 22 = .ok (.iconst 1, 1) := by decide +kernel
theorem dX7_replace_23 : decode cX7_replace 23 = .ok (.goto 4, 3) := by decide +kernel
theorem dX7_replace_26 : decode cX7_replace 26 = .ok (.iconst 0, 1) := by decide +kernel
theorem dX7_replace_27 : decode cX7_replace 27 = .ok (.iconst 1, 1) := by decide +kernel
theorem dX7_replace_28 : decode cX7_replace 28 = .ok (.invokevirtual 125, 3) := by decide +kernel
theorem dX7_replace_31 : decode cX7_replace 31 = .ok (.ifCond .eq 4, 3) := by decide +kernel
theorem dX7_replace_34 : decode cX7_replace 34 = .ok (.return_, 1) := by decide +kernel
theorem dX7_replace_35 : decode cX7_replace 35 = .ok (.aload_n 0, 1) := by decide +kernel
theorem dX7_replace_36 : decode cX7_replace 36 = .ok (.iconst 0, 1) := by decide +kernel
theorem dX7_replace_37 : decode cX7_replace 37 = .ok (.putfield 65, 3) := by decide +kernel
theorem dX7_replace_40 : decode cX7_replace 40 = .ok (.return_, 1) := by decide +kernel
theorem dX7_rebuild_0 : decode cX7_rebuild 0 = .ok (.aload_n 0, 1) := by decide +kernel
theorem dX7_rebuild_1 : decode cX7_rebuild 1 = .ok (.iload_n 1, 1) := by decide +kernel
theorem dX7_rebuild_2 : decode cX7_rebuild 2 = .ok (.ifCond .ge 7, 3) := by decide +kernel
theorem dX7_rebuild_5 : decode cX7_rebuild 5 = .ok (.iconst 1, 1) := by decide +kernel
theorem dX7_rebuild_6 : decode cX7_rebuild 6 = .ok (.goto 4, 3) := by decide +kernel
theorem dX7_rebuild_9 : decode cX7_rebuild 9 = .ok (.iconst 0, 1) := by decide +kernel
theorem dX7_rebuild_10 : decode cX7_rebuild 10 = .ok (.iconst 1, 1) := by decide +kernel
theorem dX7_rebuild_11 : decode cX7_rebuild 11 = .ok (.invokevirtual 125, 3) := by decide +kernel
theorem dX7_rebuild_14 : decode cX7_rebuild 14 = .ok (.ifCond .eq 5, 3) := by decide +kernel
theorem dX7_rebuild_17 : decode cX7_rebuild 17 = .ok (.iconst 0, 1) := by decide +kernel
theorem dX7_rebuild_18 : decode cX7_rebuild 18 = .ok (.ireturn, 1) := by decide +kernel
theorem dX7_rebuild_19 : decode cX7_rebuild 19 = .ok (.aload_n 0, 1) := by decide +kernel
theorem dX7_rebuild_20 : decode cX7_rebuild 20 = .ok (.aload_n 0, 1) := by decide +kernel
theorem dX7_rebuild_21 : decode cX7_rebuild 21 = .ok (.getfield 68, 3) := by decide +kernel
theorem dX7_rebuild_24 : decode cX7_rebuild 24 = .ok (.ifCond .ne 17, 3) := by decide +kernel
theorem dX7_rebuild_27 : decode cX7_rebuild 27 = .ok (.aload_n 0, 1) := by decide +kernel
theorem dX7_rebuild_28 : decode cX7_rebuild 28 = .ok (.getfield 62, 3) := by decide +kernel
theorem dX7_rebuild_31 : decode cX7_rebuild 31 = .ok (.ifCond .lt 10, 3) := by decide +kernel
theorem dX7_rebuild_34 : decode cX7_rebuild 34 = .ok (.aload_n 0, 1) := by decide +kernel
theorem dX7_rebuild_35 : decode cX7_rebuild 35 = .ok (.getfield 65, 3) := by decide +kernel
theorem dX7_rebuild_38 : decode cX7_rebuild 38 = .ok (.ifCond .ge 7, 3) := by decide +kernel
theorem dX7_rebuild_41 : decode cX7_rebuild 41 = .ok (.iconst 1, 1) := by decide +kernel
theorem dX7_rebuild_42 : decode cX7_rebuild 42 = .ok (.goto 4, 3) := by decide +kernel
theorem dX7_rebuild_45 : decode cX7_rebuild 45 = .ok (.iconst 0, 1) := by decide +kernel
theorem dX7_rebuild_46 : decode cX7_rebuild 46 = .ok (.iconst 2, 1) := by decide +kernel
theorem dX7_rebuild_47 : decode cX7_rebuild 47 = .ok (.invokevirtual 125, 3) := by decide +kernel
theorem dX7_rebuild_50 : decode cX7_rebuild 50 = .ok (.ifCond .eq 5, 3) := by decide +kernel
theorem dX7_rebuild_53 : decode cX7_rebuild 53 = .ok (.iconst 0, 1) := by decide +kernel
theorem dX7_rebuild_54 : decode cX7_rebuild 54 = .ok (.ireturn, 1) := by decide +kernel
theorem dX7_rebuild_55 : decode cX7_rebuild 55 = .ok (.aload_n 0, 1) := by decide +kernel
theorem dX7_rebuild_56 : decode cX7_rebuild 56 = .ok (.aload_n 0, 1) := by decide +kernel
theorem dX7_rebuild_57 : decode cX7_rebuild 57 = .ok (.getfield 65, 3) := by decide +kernel
theorem dX7_rebuild_60 : decode cX7_rebuild 60 = .ok (.i2l, 1) := by decide +kernel
theorem dX7_rebuild_61 : decode cX7_rebuild 61 = .ok (.iload_n 1, 1) := by decide +kernel
theorem dX7_rebuild_62 : decode cX7_rebuild 62 = .ok (.i2l, 1) := by decide +kernel
theorem dX7_rebuild_63 : decode cX7_rebuild 63 = .ok (.ladd, 1) := by decide +kernel
theorem dX7_rebuild_64 : decode cX7_rebuild 64 = .ok (.ldc2_w 158, 3) := by decide +kernel
theorem dX7_rebuild_67 : decode cX7_rebuild 67 = .ok (.invokestatic 160, 3) := by decide +kernel
theorem dX7_rebuild_70 : decode cX7_rebuild 70 = .ok (.l2i, 1) := by decide +kernel
theorem dX7_rebuild_71 : decode cX7_rebuild 71 = .ok (.putfield 65, 3) := by decide +kernel
theorem dX7_rebuild_74 : decode cX7_rebuild 74 = .ok (.aload_n 0, 1) := by decide +kernel
theorem dX7_rebuild_75 : decode cX7_rebuild 75 = .ok (.getfield 65, 3) := by decide +kernel
theorem dX7_rebuild_78 : decode cX7_rebuild 78 = .ok (.sipush 150, 3) := by decide +kernel
theorem dX7_rebuild_81 : decode cX7_rebuild 81 = .ok (.if_icmp .ne 8, 3) := by decide +kernel
theorem dX7_rebuild_84 : decode cX7_rebuild 84 = .ok (.aload_n 0, 1) := by decide +kernel
theorem dX7_rebuild_85 : decode cX7_rebuild 85 = .ok (.iconst (-1), 1) := by decide +kernel
theorem dX7_rebuild_86 : decode cX7_rebuild 86 = .ok (.putfield 62, 3) := by decide +kernel
theorem dX7_rebuild_89 : decode cX7_rebuild 89 = .ok (.aload_n 0, 1) := by decide +kernel
theorem dX7_rebuild_90 : decode cX7_rebuild 90 = .ok (.getfield 65, 3) := by decide +kernel
theorem dX7_rebuild_93 : decode cX7_rebuild 93 = .ok (.ireturn, 1) := by decide +kernel
theorem dX7_block_0 : decode cX7_block 0 = .ok (.aload_n 0, 1) := by decide +kernel
theorem dX7_block_1 : decode cX7_block 1 = .ok (.iload_n 1, 1) := by decide +kernel
theorem dX7_block_2 : decode cX7_block 2 = .ok (.ifCond .lt 28, 3) := by decide +kernel
theorem dX7_block_5 : decode cX7_block 5 = .ok (.iload_n 1, 1) := by decide +kernel
theorem dX7_block_6 : decode cX7_block 6 = .ok (.iconst 4, 1) := by decide +kernel
theorem dX7_block_7 : decode cX7_block 7 = .ok (.if_icmp .gt 23, 3) := by decide +kernel
theorem dX7_block_10 : decode cX7_block 10 = .ok (.iload_n 2, 1) := by decide +kernel
theorem dX7_block_11 : decode cX7_block 11 = .ok (.ifCond .lt 19, 3) := by decide +kernel
theorem dX7_block_14 : decode cX7_block 14 = .ok (.iload_n 2, 1) := by decide +kernel
theorem dX7_block_15 : decode cX7_block 15 = .ok (.sipush 150, 3) := by decide +kernel
theorem dX7_block_18 : decode cX7_block 18 = .ok (.if_icmp .ge 12, 3) := by decide +kernel
theorem dX7_block_21 : decode cX7_block 21 = .ok (.iload_n 3, 1) := by decide +kernel
theorem dX7_block_22 : decode cX7_block 22 = .ok (.ifCond .lt 8, 3) := by decide +kernel
theorem dX7_block_25 : decode cX7_block 25 = .ok (.iload_n 3, 1) := by decide +kernel
theorem dX7_block_26 : decode cX7_block 26 = .ok (.iconst 3, 1) := by decide +kernel
theorem dX7_block_27 : decode cX7_block 27 = .ok (.if_icmp .le 7, 3) := by decide +kernel
theorem dX7_block_30 : decode cX7_block 30 = .ok (.iconst 1, 1) := by decide +kernel
theorem dX7_block_31 : decode cX7_block 31 = .ok (.goto 4, 3) := by decide +kernel
theorem dX7_block_34 : decode cX7_block 34 = .ok (.iconst 0, 1) := by decide +kernel
theorem dX7_block_35 : decode cX7_block 35 = .ok (.iconst 1, 1) := by decide +kernel
theorem dX7_block_36 : decode cX7_block 36 = .ok (.invokevirtual 125, 3) := by decide +kernel
theorem dX7_block_39 : decode cX7_block 39 = .ok (.ifCond .eq 5, 3) := by decide +kernel
theorem dX7_block_42 : decode cX7_block 42 = .ok (.lconst 0, 1) := by decide +kernel
theorem dX7_block_43 : decode cX7_block 43 = .ok (.lreturn, 1) := by decide +kernel
theorem dX7_block_44 : decode cX7_block 44 = .ok (.aload_n 0, 1) := by decide +kernel
theorem dX7_block_45 : decode cX7_block 45 = .ok (.iload_n 1, 1) := by decide +kernel
theorem dX7_block_46 : decode cX7_block 46 = .ok (.aload_n 0, 1) := by decide +kernel
theorem dX7_block_47 : decode cX7_block 47 = .ok (.getfield 62, 3) := by decide +kernel
theorem dX7_block_50 : decode cX7_block 50 = .ok (.if_icmp .ne 14, 3) := by decide +kernel
theorem dX7_block_53 : decode cX7_block 53 = .ok (.aload_n 0, 1) := by decide +kernel
theorem dX7_block_54 : decode cX7_block 54 = .ok (.getfield 65, 3) := by decide +kernel
theorem dX7_block_57 : decode cX7_block 57 = .ok (.ifCond .ge 7, 3) := by decide +kernel
theorem dX7_block_60 : decode cX7_block 60 = .ok (.iconst 1, 1) := by decide +kernel
theorem dX7_block_61 : decode cX7_block 61 = .ok (.goto 4, 3) := by decide +kernel
theorem dX7_block_64 : decode cX7_block 64 = .ok (.iconst 0, 1) := by decide +kernel
theorem dX7_block_65 : decode cX7_block 65 = .ok (.iconst 2, 1) := by decide +kernel
theorem dX7_block_66 : decode cX7_block 66 = .ok (.invokevirtual 125, 3) := by decide +kernel
theorem dX7_block_69 : decode cX7_block 69 = .ok (.ifCond .eq 5, 3) := by decide +kernel
theorem dX7_block_72 : decode cX7_block 72 = .ok (.lconst 0, 1) := by decide +kernel
theorem dX7_block_73 : decode cX7_block 73 = .ok (.lreturn, 1) := by decide +kernel
theorem dX7_block_74 : decode cX7_block 74 = .ok (.iload_n 1, 1) := by decide +kernel
theorem dX7_block_75 : decode cX7_block 75 = .ok (.aload_n 0, 1) := by decide +kernel
theorem dX7_block_76 : decode cX7_block 76 = .ok (.getfield 62, 3) := by decide +kernel
theorem dX7_block_79 : decode cX7_block 79 = .ok (.if_icmp .ne 13, 3) := by decide +kernel
theorem dX7_block_82 : decode cX7_block 82 = .ok (.iload_n 2, 1) := by decide +kernel
theorem dX7_block_83 : decode cX7_block 83 = .ok (.aload_n 0, 1) := by decide +kernel
theorem dX7_block_84 : decode cX7_block 84 = .ok (.getfield 65, 3) := by decide +kernel
theorem dX7_block_87 : decode cX7_block 87 = .ok (.if_icmp .lt 5, 3) := by decide +kernel
theorem dX7_block_90 : decode cX7_block 90 = .ok (.lconst 0, 1) := by decide +kernel
theorem dX7_block_91 : decode cX7_block 91 = .ok (.lreturn, 1) := by decide +kernel
theorem dX7_block_92 : decode cX7_block 92 = .ok (.lconst 0, 1) := by decide +kernel
theorem dX7_block_93 : decode cX7_block 93 = .ok (.lstore 4, 2) := by decide +kernel
theorem dX7_block_95 : decode cX7_block 95 = .ok (.bipush 8, 2) := by decide +kernel
theorem dX7_block_97 : decode cX7_block 97 = .ok (.iload_n 3, 1) := by decide +kernel
theorem dX7_block_98 : decode cX7_block 98 = .ok (.imul, 1) := by decide +kernel
theorem dX7_block_99 : decode cX7_block 99 = .ok (.istore 6, 2) := by decide +kernel
theorem dX7_block_101 : decode cX7_block 101 = .ok (.iload 6, 2) := by decide +kernel
theorem dX7_block_103 : decode cX7_block 103 = .ok (.bipush 8, 2) := by decide +kernel
theorem dX7_block_105 : decode cX7_block 105 = .ok (.iload_n 3, 1) := by decide +kernel
theorem dX7_block_106 : decode cX7_block 106 = .ok (.imul, 1) := by decide +kernel
theorem dX7_block_107 : decode cX7_block 107 = .ok (.bipush 8, 2) := by decide +kernel
theorem dX7_block_109 : decode cX7_block 109 = .ok (.iadd, 1) := by decide +kernel
theorem dX7_block_110 : decode cX7_block 110 = .ok (.if_icmp .ge 71, 3) := by decide +kernel
theorem dX7_block_113 : decode cX7_block 113 = .ok (.iconst 0, 1) := by decide +kernel
theorem dX7_block_114 : decode cX7_block 114 = .ok (.istore 7, 2) := by decide +kernel
theorem dX7_block_116 : decode cX7_block 116 = .ok (.iconst 0, 1) := by decide +kernel
theorem dX7_block_117 : decode cX7_block 117 = .ok (.istore 8, 2) := by decide +kernel
theorem dX7_block_119 : decode cX7_block 119 = .ok (.iload 8, 2) := by decide +kernel
theorem dX7_block_121 : decode cX7_block 121 = .ok (.iconst 4, 1) := by decide +kernel
theorem dX7_block_122 : decode cX7_block 122 = .ok (.if_icmp .ge 42, 3) := by decide +kernel
theorem dX7_block_125 : decode cX7_block 125 = .ok (.iload_n 1, 1) := by decide +kernel
theorem dX7_block_126 : decode cX7_block 126 = .ok (.iconst 4, 1) := by decide +kernel
theorem dX7_block_127 : decode cX7_block 127 = .ok (.if_icmp .eq 9, 3) := by decide +kernel
theorem dX7_block_130 : decode cX7_block 130 = .ok (.iload 8, 2) := by decide +kernel
theorem dX7_block_132 : decode cX7_block 132 = .ok (.iload_n 1, 1) := by decide +kernel
theorem dX7_block_133 : decode cX7_block 133 = .ok (.if_icmp .ne 25, 3) := by decide +kernel
theorem dX7_block_136 : decode cX7_block 136 = .ok (.iload 7, 2) := by decide +kernel
theorem dX7_block_138 : decode cX7_block 138 = .ok (.aload_n 0, 1) := by decide +kernel
theorem dX7_block_139 : decode cX7_block 139 = .ok (.getfield 9, 3) := by decide +kernel
theorem dX7_block_142 : decode cX7_block 142 = .ok (.iconst 4, 1) := by decide +kernel
theorem dX7_block_143 : decode cX7_block 143 = .ok (.iload_n 2, 1) := by decide +kernel
theorem dX7_block_144 : decode cX7_block 144 = .ok (.imul, 1) := by decide +kernel
theorem dX7_block_145 : decode cX7_block 145 = .ok (.iload 8, 2) := by decide +kernel
theorem dX7_block_147 : decode cX7_block 147 = .ok (.iadd, 1) := by decide +kernel
theorem dX7_block_148 : decode cX7_block 148 = .ok (.bipush 32, 2) := by decide +kernel
theorem dX7_block_150 : decode cX7_block 150 = .ok (.imul, 1) := by decide +kernel
theorem dX7_block_151 : decode cX7_block 151 = .ok (.iload 6, 2) := by decide +kernel
theorem dX7_block_153 : decode cX7_block 153 = .ok (.iadd, 1) := by decide +kernel
theorem dX7_block_154 : decode cX7_block 154 = .ok (.iaload, 1) := by decide +kernel
theorem dX7_block_155 : decode cX7_block 155 = .ok (.ixor, 1) := by decide +kernel
theorem dX7_block_156 : decode cX7_block 156 = .ok (.istore 7, 2) := by decide +kernel
theorem dX7_block_158 : decode cX7_block 158 = .ok (.iinc 8 1, 3) := by decide +kernel
theorem dX7_block_161 : decode cX7_block 161 = .ok (.goto (-42), 3) := by decide +kernel
theorem dX7_block_164 : decode cX7_block 164 = .ok (.lload 4, 2) := by decide +kernel
theorem dX7_block_166 : decode cX7_block 166 = .ok (.bipush 8, 2) := by decide +kernel
theorem dX7_block_168 : decode cX7_block 168 = .ok (.lshl, 1) := by decide +kernel
theorem dX7_block_169 : decode cX7_block 169 = .ok (.iload 7, 2) := by decide +kernel
theorem dX7_block_171 : decode cX7_block 171 = .ok (.i2l, 1) := by decide +kernel
theorem dX7_block_172 : decode cX7_block 172 = .ok (.lor, 1) := by decide +kernel
theorem dX7_block_173 : decode cX7_block 173 = .ok (.lstore 4, 2) := by decide +kernel
theorem dX7_block_175 : decode cX7_block 175 = .ok (.iinc 6 1, 3) := by decide +kernel
theorem dX7_block_178 : decode cX7_block 178 = .ok (.goto (-77), 3) := by decide +kernel
theorem dX7_block_181 : decode cX7_block 181 = .ok (.lload 4, 2) := by decide +kernel
theorem dX7_block_183 : decode cX7_block 183 = .ok (.lreturn, 1) := by decide +kernel
theorem dX7_size_0 : decode cX7_size 0 = .ok (.aload_n 0, 1) := by decide +kernel
theorem dX7_size_1 : decode cX7_size 1 = .ok (.iload_n 1, 1) := by decide +kernel
theorem dX7_size_2 : decode cX7_size 2 = .ok (.iconst (-1), 1) := by decide +kernel
theorem dX7_size_3 : decode cX7_size 3 = .ok (.if_icmp .lt 28, 3) := by decide +kernel
theorem dX7_size_6 : decode cX7_size 6 = .ok (.iload_n 1, 1) := by decide +kernel
theorem dX7_size_7 : decode cX7_size 7 = .ok (.iconst 5, 1) := by decide +kernel
theorem dX7_size_8 : decode cX7_size 8 = .ok (.if_icmp .ge 23, 3) := by decide +kernel
theorem dX7_size_11 : decode cX7_size 11 = .ok (.iload_n 1, 1) := by decide +kernel
theorem dX7_size_12 : decode cX7_size 12 = .ok (.ifCond .lt 11, 3) := by decide +kernel
theorem dX7_size_15 : decode cX7_size 15 = .ok (.aload_n 0, 1) := by decide +kernel
theorem dX7_size_16 : decode cX7_size 16 = .ok (.iload_n 1, 1) := by decide +kernel
theorem dX7_size_17 : decode cX7_size 17 = .ok (.invokevirtual 152, 3) := by decide +kernel
theorem dX7_size_20 : decode cX7_size 20 = .ok (.ifCond .eq 11, 3) := by decide +kernel
theorem dX7_size_23 : decode cX7_size 23 = .ok (.aload_n 0, 1) := by decide +kernel
theorem dX7_size_24 : decode cX7_size 24 = .ok (.iload_n 2, 1) := by decide +kernel
theorem dX7_size_25 : decode cX7_size 25 = .ok (.invokevirtual 122, 3) := by decide +kernel
theorem dX7_size_28 : decode cX7_size 28 = .ok (.ifCond .eq 7, 3) := by decide +kernel
theorem dX7_size_31 : decode cX7_size 31 = .ok (.iconst 1, 1) := by decide +kernel
theorem dX7_size_32 : decode cX7_size 32 = .ok (.goto 4, 3) := by decide +kernel
theorem dX7_size_35 : decode cX7_size 35 = .ok (.iconst 0, 1) := by decide +kernel
theorem dX7_size_36 : decode cX7_size 36 = .ok (.iconst 1, 1) := by decide +kernel
theorem dX7_size_37 : decode cX7_size 37 = .ok (.invokevirtual 125, 3) := by decide +kernel
theorem dX7_size_40 : decode cX7_size 40 = .ok (.ifCond .eq 5, 3) := by decide +kernel
theorem dX7_size_43 : decode cX7_size 43 = .ok (.iconst 0, 1) := by decide +kernel
theorem dX7_size_44 : decode cX7_size 44 = .ok (.ireturn, 1) := by decide +kernel
theorem dX7_size_45 : decode cX7_size 45 = .ok (.aload_n 0, 1) := by decide +kernel
theorem dX7_size_46 : decode cX7_size 46 = .ok (.aload_n 0, 1) := by decide +kernel
theorem dX7_size_47 : decode cX7_size 47 = .ok (.getfield 68, 3) := by decide +kernel
theorem dX7_size_50 : decode cX7_size 50 = .ok (.iconst 2, 1) := by decide +kernel
theorem dX7_size_51 : decode cX7_size 51 = .ok (.invokevirtual 125, 3) := by decide +kernel
theorem dX7_size_54 : decode cX7_size 54 = .ok (.ifCond .eq 5, 3) := by decide +kernel
theorem dX7_size_57 : decode cX7_size 57 = .ok (.iconst 0, 1) := by decide +kernel
theorem dX7_size_58 : decode cX7_size 58 = .ok (.ireturn, 1) := by decide +kernel
theorem dX7_size_59 : decode cX7_size 59 = .ok (.aload_n 0, 1) := by decide +kernel
theorem dX7_size_60 : decode cX7_size 60 = .ok (.iload_n 1, 1) := by decide +kernel
theorem dX7_size_61 : decode cX7_size 61 = .ok (.iload_n 2, 1) := by decide +kernel
theorem dX7_size_62 : decode cX7_size 62 = .ok (.invokevirtual 164, 3) := by decide +kernel
theorem dX7_size_65 : decode cX7_size 65 = .ok (.ireturn, 1) := by decide +kernel
theorem dX7_sizeOf_0 : decode cX7_sizeOf 0 = .ok (.iload_n 1, 1) := by decide +kernel
theorem dX7_sizeOf_1 : decode cX7_sizeOf 1 = .ok (.ifCond .ge 10, 3) := by decide +kernel
theorem dX7_sizeOf_4 : decode cX7_sizeOf 4 = .ok (.aload_n 0, 1) := by decide +kernel
theorem dX7_sizeOf_5 : decode cX7_sizeOf 5 = .ok (.getfield 13, 3) := by decide +kernel
theorem dX7_sizeOf_8 : decode cX7_sizeOf 8 = .ok (.iload_n 2, 1) := by decide +kernel
theorem dX7_sizeOf_9 : decode cX7_sizeOf 9 = .ok (.iaload, 1) := by decide +kernel
theorem dX7_sizeOf_10 : decode cX7_sizeOf 10 = .ok (.ireturn, 1) := by decide +kernel
theorem dX7_sizeOf_11 : decode cX7_sizeOf 11 = .ok (.aload_n 0, 1) := by decide +kernel
theorem dX7_sizeOf_12 : decode cX7_sizeOf 12 = .ok (.iload_n 1, 1) := by decide +kernel
theorem dX7_sizeOf_13 : decode cX7_sizeOf 13 = .ok (.iload_n 2, 1) := by decide +kernel
theorem dX7_sizeOf_14 : decode cX7_sizeOf 14 = .ok (.invokevirtual 89, 3) := by decide +kernel
theorem dX7_sizeOf_17 : decode cX7_sizeOf 17 = .ok (.istore_n 3, 1) := by decide +kernel
theorem dX7_sizeOf_18 : decode cX7_sizeOf 18 = .ok (.iload_n 3, 1) := by decide +kernel
theorem dX7_sizeOf_19 : decode cX7_sizeOf 19 = .ok (.ifCond .ne 7, 3) := by decide +kernel
theorem dX7_sizeOf_22 : decode cX7_sizeOf 22 = .ok (.iconst (-1), 1) := by decide +kernel
theorem dX7_sizeOf_23 : decode cX7_sizeOf 23 = .ok (.goto 9, 3) := by decide +kernel
theorem dX7_sizeOf_26 : decode cX7_sizeOf 26 = .ok (.aload_n 0, 1) := by decide +kernel
theorem dX7_sizeOf_27 : decode cX7_sizeOf 27 = .ok (.iload_n 3, 1) := by decide +kernel
theorem dX7_sizeOf_28 : decode cX7_sizeOf 28 = .ok (.iconst 0, 1) := by decide +kernel
theorem dX7_sizeOf_29 : decode cX7_sizeOf 29 = .ok (.invokevirtual 82, 3) := by decide +kernel
theorem dX7_sizeOf_32 : decode cX7_sizeOf 32 = .ok (.ireturn, 1) := by decide +kernel
theorem dX7_octet_0 : decode cX7_octet 0 = .ok (.aload_n 0, 1) := by decide +kernel
theorem dX7_octet_1 : decode cX7_octet 1 = .ok (.iload_n 1, 1) := by decide +kernel
theorem dX7_octet_2 : decode cX7_octet 2 = .ok (.iconst (-1), 1) := by decide +kernel
theorem dX7_octet_3 : decode cX7_octet 3 = .ok (.if_icmp .lt 28, 3) := by decide +kernel
theorem dX7_octet_6 : decode cX7_octet 6 = .ok (.iload_n 1, 1) := by decide +kernel
theorem dX7_octet_7 : decode cX7_octet 7 = .ok (.iconst 5, 1) := by decide +kernel
theorem dX7_octet_8 : decode cX7_octet 8 = .ok (.if_icmp .ge 23, 3) := by decide +kernel
theorem dX7_octet_11 : decode cX7_octet 11 = .ok (.iload_n 1, 1) := by decide +kernel
theorem dX7_octet_12 : decode cX7_octet 12 = .ok (.ifCond .lt 11, 3) := by decide +kernel
theorem dX7_octet_15 : decode cX7_octet 15 = .ok (.aload_n 0, 1) := by decide +kernel
theorem dX7_octet_16 : decode cX7_octet 16 = .ok (.iload_n 1, 1) := by decide +kernel
theorem dX7_octet_17 : decode cX7_octet 17 = .ok (.invokevirtual 152, 3) := by decide +kernel
theorem dX7_octet_20 : decode cX7_octet 20 = .ok (.ifCond .eq 11, 3) := by decide +kernel
theorem dX7_octet_23 : decode cX7_octet 23 = .ok (.aload_n 0, 1) := by decide +kernel
theorem dX7_octet_24 : decode cX7_octet 24 = .ok (.iload_n 2, 1) := by decide +kernel
theorem dX7_octet_25 : decode cX7_octet 25 = .ok (.invokevirtual 122, 3) := by decide +kernel
theorem dX7_octet_28 : decode cX7_octet 28 = .ok (.ifCond .eq 7, 3) := by decide +kernel
theorem dX7_octet_31 : decode cX7_octet 31 = .ok (.iconst 1, 1) := by decide +kernel
theorem dX7_octet_32 : decode cX7_octet 32 = .ok (.goto 4, 3) := by decide +kernel
theorem dX7_octet_35 : decode cX7_octet 35 = .ok (.iconst 0, 1) := by decide +kernel
theorem dX7_octet_36 : decode cX7_octet 36 = .ok (.iconst 1, 1) := by decide +kernel
theorem dX7_octet_37 : decode cX7_octet 37 = .ok (.invokevirtual 125, 3) := by decide +kernel
theorem dX7_octet_40 : decode cX7_octet 40 = .ok (.ifCond .eq 5, 3) := by decide +kernel
theorem dX7_octet_43 : decode cX7_octet 43 = .ok (.iconst 0, 1) := by decide +kernel
theorem dX7_octet_44 : decode cX7_octet 44 = .ok (.ireturn, 1) := by decide +kernel
theorem dX7_octet_45 : decode cX7_octet 45 = .ok (.aload_n 0, 1) := by decide +kernel
theorem dX7_octet_46 : decode cX7_octet 46 = .ok (.aload_n 0, 1) := by decide +kernel
theorem dX7_octet_47 : decode cX7_octet 47 = .ok (.getfield 68, 3) := by decide +kernel
theorem dX7_octet_50 : decode cX7_octet 50 = .ok (.iconst 2, 1) := by decide +kernel
theorem dX7_octet_51 : decode cX7_octet 51 = .ok (.invokevirtual 125, 3) := by decide +kernel
theorem dX7_octet_54 : decode cX7_octet 54 = .ok (.ifCond .eq 5, 3) := by decide +kernel
theorem dX7_octet_57 : decode cX7_octet 57 = .ok (.iconst 0, 1) := by decide +kernel
theorem dX7_octet_58 : decode cX7_octet 58 = .ok (.ireturn, 1) := by decide +kernel
theorem dX7_octet_59 : decode cX7_octet 59 = .ok (.aload_n 0, 1) := by decide +kernel
theorem dX7_octet_60 : decode cX7_octet 60 = .ok (.iload_n 3, 1) := by decide +kernel
theorem dX7_octet_61 : decode cX7_octet 61 = .ok (.ifCond .lt 13, 3) := by decide +kernel
theorem dX7_octet_64 : decode cX7_octet 64 = .ok (.iload_n 3, 1) := by decide +kernel
theorem dX7_octet_65 : decode cX7_octet 65 = .ok (.aload_n 0, 1) := by decide +kernel
theorem dX7_octet_66 : decode cX7_octet 66 = .ok (.iload_n 1, 1) := by decide +kernel
theorem dX7_octet_67 : decode cX7_octet 67 = .ok (.iload_n 2, 1) := by decide +kernel
theorem dX7_octet_68 : decode cX7_octet 68 = .ok (.invokevirtual 164, 3) := by decide +kernel
theorem dX7_octet_71 : decode cX7_octet 71 = .ok (.if_icmp .lt 7, 3) := by decide +kernel
theorem dX7_octet_74 : decode cX7_octet 74 = .ok (.iconst 1, 1) := by decide +kernel
theorem dX7_octet_75 : decode cX7_octet 75 = .ok (.goto 4, 3) := by decide +kernel
theorem dX7_octet_78 : decode cX7_octet 78 = .ok (.iconst 0, 1) := by decide +kernel
theorem dX7_octet_79 : decode cX7_octet 79 = .ok (.iconst 3, 1) := by decide +kernel
theorem dX7_octet_80 : decode cX7_octet 80 = .ok (.invokevirtual 125, 3) := by decide +kernel
theorem dX7_octet_83 : decode cX7_octet 83 = .ok (.ifCond .eq 5, 3) := by decide +kernel
theorem dX7_octet_86 : decode cX7_octet 86 = .ok (.iconst 0, 1) := by decide +kernel
theorem dX7_octet_87 : decode cX7_octet 87 = .ok (.ireturn, 1) := by decide +kernel
theorem dX7_octet_88 : decode cX7_octet 88 = .ok (.iload_n 1, 1) := by decide +kernel
theorem dX7_octet_89 : decode cX7_octet 89 = .ok (.ifCond .ge 14, 3) := by decide +kernel
theorem dX7_octet_92 : decode cX7_octet 92 = .ok (.aload_n 0, 1) := by decide +kernel
theorem dX7_octet_93 : decode cX7_octet 93 = .ok (.getfield 18, 3) := by decide +kernel
theorem dX7_octet_96 : decode cX7_octet 96 = .ok (.iload_n 2, 1) := by decide +kernel
theorem dX7_octet_97 : decode cX7_octet 97 = .ok (.aaload, 1) := by decide +kernel
theorem dX7_octet_98 : decode cX7_octet 98 = .ok (.iload_n 3, 1) := by decide +kernel
theorem dX7_octet_99 : decode cX7_octet 99 = .ok (.iaload, 1) := by decide +kernel
theorem dX7_octet_100 : decode cX7_octet 100 = .ok (.goto 34, 3) := by decide +kernel
theorem dX7_octet_103 : decode cX7_octet 103 = .ok (.aload_n 0, 1) := by decide +kernel
theorem dX7_octet_104 : decode cX7_octet 104 = .ok (.getfield 9, 3) := by decide +kernel
theorem dX7_octet_107 : decode cX7_octet 107 = .ok (.aload_n 0, 1) := by decide +kernel
theorem dX7_octet_108 : decode cX7_octet 108 = .ok (.aload_n 0, 1) := by decide +kernel
theorem dX7_octet_109 : decode cX7_octet 109 = .ok (.iload_n 1, 1) := by decide +kernel
theorem dX7_octet_110 : decode cX7_octet 110 = .ok (.iload_n 2, 1) := by decide +kernel
theorem dX7_octet_111 : decode cX7_octet 111 = .ok (.invokevirtual 89, 3) := by decide +kernel
theorem dX7_octet_114 : decode cX7_octet 114 = .ok (.iconst 2, 1) := by decide +kernel
theorem dX7_octet_115 : decode cX7_octet 115 = .ok (.iconst 2, 1) := by decide +kernel
theorem dX7_octet_116 : decode cX7_octet 116 = .ok (.iload_n 3, 1) := by decide +kernel
theorem dX7_octet_117 : decode cX7_octet 117 = .ok (.bipush 32, 2) := by decide +kernel
theorem dX7_octet_119 : decode cX7_octet 119 = .ok (.idiv, 1) := by decide +kernel
theorem dX7_octet_120 : decode cX7_octet 120 = .ok (.imul, 1) := by decide +kernel
theorem dX7_octet_121 : decode cX7_octet 121 = .ok (.iadd, 1) := by decide +kernel
theorem dX7_octet_122 : decode cX7_octet 122 = .ok (.invokevirtual 82, 3) := by decide +kernel
theorem dX7_octet_125 : decode cX7_octet 125 = .ok (.bipush 32, 2) := by decide +kernel
theorem dX7_octet_127 : decode cX7_octet 127 = .ok (.imul, 1) := by decide +kernel
theorem dX7_octet_128 : decode cX7_octet 128 = .ok (.iload_n 3, 1) := by decide +kernel
theorem dX7_octet_129 : decode cX7_octet 129 = .ok (.bipush 32, 2) := by decide +kernel
theorem dX7_octet_131 : decode cX7_octet 131 = .ok (.irem, 1) := by decide +kernel
theorem dX7_octet_132 : decode cX7_octet 132 = .ok (.iadd, 1) := by decide +kernel
theorem dX7_octet_133 : decode cX7_octet 133 = .ok (.iaload, 1) := by decide +kernel
theorem dX7_octet_134 : decode cX7_octet 134 = .ok (.ireturn, 1) := by decide +kernel
theorem dX7_count_0 : decode cX7_count 0 = .ok (.aload_n 0, 1) := by decide +kernel
theorem dX7_count_1 : decode cX7_count 1 = .ok (.iload_n 1, 1) := by decide +kernel
theorem dX7_count_2 : decode cX7_count 2 = .ok (.ifCond .lt 9, 3) := by decide +kernel
theorem dX7_count_5 : decode cX7_count 5 = .ok (.iload_n 1, 1) := by decide +kernel
theorem dX7_count_6 : decode cX7_count 6 = .ok (.bipush 7, 2) := by decide +kernel
theorem dX7_count_8 : decode cX7_count 8 = .ok (.if_icmp .le 7, 3) := by decide +kernel
theorem dX7_count_11 : decode cX7_count 11 = .ok (.iconst 1, 1) := by decide +kernel
theorem dX7_count_12 : decode cX7_count 12 = .ok (.goto 4, 3) := by decide +kernel
theorem dX7_count_15 : decode cX7_count 15 = .ok (.iconst 0, 1) := by decide +kernel
theorem dX7_count_16 : decode cX7_count 16 = .ok (.iconst 1, 1) := by decide +kernel
theorem dX7_count_17 : decode cX7_count 17 = .ok (.invokevirtual 125, 3) := by decide +kernel
theorem dX7_count_20 : decode cX7_count 20 = .ok (.ifCond .eq 5, 3) := by decide +kernel
theorem dX7_count_23 : decode cX7_count 23 = .ok (.iconst 0, 1) := by decide +kernel
theorem dX7_count_24 : decode cX7_count 24 = .ok (.ireturn, 1) := by decide +kernel
theorem dX7_count_25 : decode cX7_count 25 = .ok (.iconst 0, 1) := by decide +kernel
theorem dX7_count_26 : decode cX7_count 26 = .ok (.istore_n 2, 1) := by decide +kernel
theorem dX7_count_27 : decode cX7_count 27 = .ok (.iload_n 1, 1) := by decide +kernel
theorem dX7_count_28 : decode cX7_count 28 = .ok (.iconst 1, 1) := by decide +kernel
theorem dX7_count_29 : decode cX7_count 29 = .ok (.if_icmp .ne 36, 3) := by decide +kernel
theorem dX7_count_32 : decode cX7_count 32 = .ok (.aload_n 0, 1) := by decide +kernel
theorem dX7_count_33 : decode cX7_count 33 = .ok (.invokevirtual 132, 3) := by decide +kernel
theorem dX7_count_36 : decode cX7_count 36 = .ok (.iconst 0, 1) := by decide +kernel
theorem dX7_count_37 : decode cX7_count 37 = .ok (.istore_n 3, 1) := by decide +kernel
theorem dX7_count_38 : decode cX7_count 38 = .ok (.iload_n 3, 1) := by decide +kernel
theorem dX7_count_39 : decode cX7_count 39 = .ok (.sipush 600, 3) := by decide +kernel
theorem dX7_count_42 : decode cX7_count 42 = .ok (.if_icmp .ge 21, 3) := by decide +kernel
theorem dX7_count_45 : decode cX7_count 45 = .ok (.aload_n 0, 1) := by decide +kernel
theorem dX7_count_46 : decode cX7_count 46 = .ok (.getfield 52, 3) := by decide +kernel
theorem dX7_count_49 : decode cX7_count 49 = .ok (.iload_n 3, 1) := by decide +kernel
theorem dX7_count_50 : decode cX7_count 50 = .ok (.baload, 1) := by decide +kernel
theorem dX7_count_51 : decode cX7_count 51 = .ok (.ifCond .ne 6, 3) := by decide +kernel
theorem dX7_count_54 : decode cX7_count 54 = .ok (.iinc 2 1, 3) := by decide +kernel
theorem dX7_count_57 : decode cX7_count 57 = .ok (.iinc 3 1, 3) := by decide +kernel
theorem dX7_count_60 : decode cX7_count 60 = .ok (.goto (-22), 3) := by decide +kernel
theorem dX7_count_63 : decode cX7_count 63 = .ok (.iload_n 2, 1) := by decide +kernel
theorem dX7_count_64 : decode cX7_count 64 = .ok (.ireturn, 1) := by decide +kernel
theorem dX7_count_65 : decode cX7_count 65 = .ok (.iconst 0, 1) := by decide +kernel
theorem dX7_count_66 : decode cX7_count 66 = .ok (.istore_n 3, 1) := by decide +kernel
theorem dX7_count_67 : decode cX7_count 67 = .ok (.iload_n 3, 1) := by decide +kernel
theorem dX7_count_68 : decode cX7_count 68 = .ok (.bipush 32, 2) := by decide +kernel
theorem dX7_count_70 : decode cX7_count 70 = .ok (.if_icmp .ge 21, 3) := by decide +kernel
theorem dX7_count_73 : decode cX7_count 73 = .ok (.aload_n 0, 1) := by decide +kernel
theorem dX7_count_74 : decode cX7_count 74 = .ok (.getfield 13, 3) := by decide +kernel
theorem dX7_count_77 : decode cX7_count 77 = .ok (.iload_n 3, 1) := by decide +kernel
theorem dX7_count_78 : decode cX7_count 78 = .ok (.iaload, 1) := by decide +kernel
theorem dX7_count_79 : decode cX7_count 79 = .ok (.ifCond .lt 6, 3) := by decide +kernel
theorem dX7_count_82 : decode cX7_count 82 = .ok (.iinc 2 1, 3) := by decide +kernel
theorem dX7_count_85 : decode cX7_count 85 = .ok (.iinc 3 1, 3) := by decide +kernel
theorem dX7_count_88 : decode cX7_count 88 = .ok (.goto (-21), 3) := by decide +kernel
theorem dX7_count_91 : decode cX7_count 91 = .ok (.iload_n 1, 1) := by decide +kernel
theorem dX7_count_92 : decode cX7_count 92 = .ok (.tableswitch 99 0 6 #[44, 99, 49, 54, 59, 64, 86], 44) := by decide +kernel
theorem dX7_count_136 : decode cX7_count 136 = .ok (.aload_n 0, 1) := by decide +kernel
theorem dX7_count_137 : decode cX7_count 137 = .ok (.invokevirtual 145, 3) := by decide +kernel
theorem dX7_count_140 : decode cX7_count 140 = .ok (.ireturn, 1) := by decide +kernel
theorem dX7_count_141 : decode cX7_count 141 = .ok (.aload_n 0, 1) := by decide +kernel
theorem dX7_count_142 : decode cX7_count 142 = .ok (.getfield 76, 3) := by decide +kernel
theorem dX7_count_145 : decode cX7_count 145 = .ok (.ireturn, 1) := by decide +kernel
theorem dX7_count_146 : decode cX7_count 146 = .ok (.aload_n 0, 1) := by decide +kernel
theorem dX7_count_147 : decode cX7_count 147 = .ok (.getfield 79, 3) := by decide +kernel
theorem dX7_count_150 : decode cX7_count 150 = .ok (.ireturn, 1) := by decide +kernel
theorem dX7_count_151 : decode cX7_count 151 = .ok (.aload_n 0, 1) := by decide +kernel
theorem dX7_count_152 : decode cX7_count 152 = .ok (.getfield 62, 3) := by decide +kernel
theorem dX7_count_155 : decode cX7_count 155 = .ok (.ireturn, 1) := by decide +kernel
theorem dX7_count_156 : decode cX7_count 156 = .ok (.aload_n 0, 1) := by decide +kernel
theorem dX7_count_157 : decode cX7_count 157 = .ok (.getfield 62, 3) := by decide +kernel
theorem dX7_count_160 : decode cX7_count 160 = .ok (.ifCond .ge 9, 3) := by decide +kernel
theorem dX7_count_163 : decode cX7_count 163 = .ok (.sipush 150, 3) := by decide +kernel
theorem dX7_count_166 : decode cX7_count 166 = .ok (.goto 11, 3) := by decide +kernel
theorem dX7_count_169 : decode cX7_count 169 = .ok (.aload_n 0, 1) := by decide +kernel
theorem dX7_count_170 : decode cX7_count 170 = .ok (.getfield 65, 3) := by decide +kernel
theorem dX7_count_173 : decode cX7_count 173 = .ok (.iconst 0, 1) := by decide +kernel
theorem dX7_count_174 : decode cX7_count 174 = .ok (.invokestatic 92, 3) := by decide +kernel
theorem dX7_count_177 : decode cX7_count 177 = .ok (.ireturn, 1) := by decide +kernel
theorem dX7_count_178 : decode cX7_count 178 = .ok (.aload_n 0, 1) := by decide +kernel
theorem dX7_count_179 : decode cX7_count 179 = .ok (.getfield 68, 3) := by decide +kernel
theorem dX7_count_182 : decode cX7_count 182 = .ok (.ifCond .eq 7, 3) := by decide +kernel
theorem dX7_count_185 : decode cX7_count 185 = .ok (.iconst 1, 1) := by decide +kernel
theorem dX7_count_186 : decode cX7_count 186 = .ok (.goto 4, 3) := by decide +kernel
theorem dX7_count_189 : decode cX7_count 189 = .ok (.iconst 0, 1) := by decide +kernel
theorem dX7_count_190 : decode cX7_count 190 = .ok (.ireturn, 1) := by decide +kernel
theorem dX7_count_191 : decode cX7_count 191 = .ok (.iload_n 2, 1) := by decide +kernel
theorem dX7_count_192 : decode cX7_count 192 = .ok (.ireturn, 1) := by decide +kernel
theorem dJ6_bitCount_0f7a4_0 : decode cJ6_bitCount_0f7a4 0 = .ok (.iload_n 0, 1) := by decide +kernel
theorem dJ6_bitCount_0f7a4_1 : decode cJ6_bitCount_0f7a4 1 = .ok (.iload_n 0, 1) := by decide +kernel
theorem dJ6_bitCount_0f7a4_2 : decode cJ6_bitCount_0f7a4 2 = .ok (.iconst 1, 1) := by decide +kernel
theorem dJ6_bitCount_0f7a4_3 : decode cJ6_bitCount_0f7a4 3 = .ok (.iushr, 1) := by decide +kernel
theorem dJ6_bitCount_0f7a4_4 : decode cJ6_bitCount_0f7a4 4 = .ok (.ldc_w 265, 3) := by decide +kernel
theorem dJ6_bitCount_0f7a4_7 : decode cJ6_bitCount_0f7a4 7 = .ok (.iand, 1) := by decide +kernel
theorem dJ6_bitCount_0f7a4_8 : decode cJ6_bitCount_0f7a4 8 = .ok (.isub, 1) := by decide +kernel
theorem dJ6_bitCount_0f7a4_9 : decode cJ6_bitCount_0f7a4 9 = .ok (.istore_n 0, 1) := by decide +kernel
theorem dJ6_bitCount_0f7a4_10 : decode cJ6_bitCount_0f7a4 10 = .ok (.iload_n 0, 1) := by decide +kernel
theorem dJ6_bitCount_0f7a4_11 : decode cJ6_bitCount_0f7a4 11 = .ok (.ldc_w 266, 3) := by decide +kernel
theorem dJ6_bitCount_0f7a4_14 : decode cJ6_bitCount_0f7a4 14 = .ok (.iand, 1) := by decide +kernel
theorem dJ6_bitCount_0f7a4_15 : decode cJ6_bitCount_0f7a4 15 = .ok (.iload_n 0, 1) := by decide +kernel
theorem dJ6_bitCount_0f7a4_16 : decode cJ6_bitCount_0f7a4 16 = .ok (.iconst 2, 1) := by decide +kernel
theorem dJ6_bitCount_0f7a4_17 : decode cJ6_bitCount_0f7a4 17 = .ok (.iushr, 1) := by decide +kernel
theorem dJ6_bitCount_0f7a4_18 : decode cJ6_bitCount_0f7a4 18 = .ok (.ldc_w 266, 3) := by decide +kernel
theorem dJ6_bitCount_0f7a4_21 : decode cJ6_bitCount_0f7a4 21 = .ok (.iand, 1) := by decide +kernel
theorem dJ6_bitCount_0f7a4_22 : decode cJ6_bitCount_0f7a4 22 = .ok (.iadd, 1) := by decide +kernel
theorem dJ6_bitCount_0f7a4_23 : decode cJ6_bitCount_0f7a4 23 = .ok (.istore_n 0, 1) := by decide +kernel
theorem dJ6_bitCount_0f7a4_24 : decode cJ6_bitCount_0f7a4 24 = .ok (.iload_n 0, 1) := by decide +kernel
theorem dJ6_bitCount_0f7a4_25 : decode cJ6_bitCount_0f7a4 25 = .ok (.iload_n 0, 1) := by decide +kernel
theorem dJ6_bitCount_0f7a4_26 : decode cJ6_bitCount_0f7a4 26 = .ok (.iconst 4, 1) := by decide +kernel
theorem dJ6_bitCount_0f7a4_27 : decode cJ6_bitCount_0f7a4 27 = .ok (.iushr, 1) := by decide +kernel
theorem dJ6_bitCount_0f7a4_28 : decode cJ6_bitCount_0f7a4 28 = .ok (.iadd, 1) := by decide +kernel
theorem dJ6_bitCount_0f7a4_29 : decode cJ6_bitCount_0f7a4 29 = .ok (.ldc_w 267, 3) := by decide +kernel
theorem dJ6_bitCount_0f7a4_32 : decode cJ6_bitCount_0f7a4 32 = .ok (.iand, 1) := by decide +kernel
theorem dJ6_bitCount_0f7a4_33 : decode cJ6_bitCount_0f7a4 33 = .ok (.istore_n 0, 1) := by decide +kernel
theorem dJ6_bitCount_0f7a4_34 : decode cJ6_bitCount_0f7a4 34 = .ok (.iload_n 0, 1) := by decide +kernel
theorem dJ6_bitCount_0f7a4_35 : decode cJ6_bitCount_0f7a4 35 = .ok (.iload_n 0, 1) := by decide +kernel
theorem dJ6_bitCount_0f7a4_36 : decode cJ6_bitCount_0f7a4 36 = .ok (.bipush 8, 2) := by decide +kernel
theorem dJ6_bitCount_0f7a4_38 : decode cJ6_bitCount_0f7a4 38 = .ok (.iushr, 1) := by decide +kernel
theorem dJ6_bitCount_0f7a4_39 : decode cJ6_bitCount_0f7a4 39 = .ok (.iadd, 1) := by decide +kernel
theorem dJ6_bitCount_0f7a4_40 : decode cJ6_bitCount_0f7a4 40 = .ok (.istore_n 0, 1) := by decide +kernel
theorem dJ6_bitCount_0f7a4_41 : decode cJ6_bitCount_0f7a4 41 = .ok (.iload_n 0, 1) := by decide +kernel
theorem dJ6_bitCount_0f7a4_42 : decode cJ6_bitCount_0f7a4 42 = .ok (.iload_n 0, 1) := by decide +kernel
theorem dJ6_bitCount_0f7a4_43 : decode cJ6_bitCount_0f7a4 43 = .ok (.bipush 16, 2) := by decide +kernel
theorem dJ6_bitCount_0f7a4_45 : decode cJ6_bitCount_0f7a4 45 = .ok (.iushr, 1) := by decide +kernel
theorem dJ6_bitCount_0f7a4_46 : decode cJ6_bitCount_0f7a4 46 = .ok (.iadd, 1) := by decide +kernel
theorem dJ6_bitCount_0f7a4_47 : decode cJ6_bitCount_0f7a4 47 = .ok (.istore_n 0, 1) := by decide +kernel
theorem dJ6_bitCount_0f7a4_48 : decode cJ6_bitCount_0f7a4 48 = .ok (.iload_n 0, 1) := by decide +kernel
theorem dJ6_bitCount_0f7a4_49 : decode cJ6_bitCount_0f7a4 49 = .ok (.bipush 63, 2) := by decide +kernel
theorem dJ6_bitCount_0f7a4_51 : decode cJ6_bitCount_0f7a4 51 = .ok (.iand, 1) := by decide +kernel
theorem dJ6_bitCount_0f7a4_52 : decode cJ6_bitCount_0f7a4 52 = .ok (.ireturn, 1) := by decide +kernel
theorem dJ9_max_7cf53_0 : decode cJ9_max_7cf53 0 = .ok (.iload_n 0, 1) := by decide +kernel
theorem dJ9_max_7cf53_1 : decode cJ9_max_7cf53 1 = .ok (.iload_n 1, 1) := by decide +kernel
theorem dJ9_max_7cf53_2 : decode cJ9_max_7cf53 2 = .ok (.if_icmp .lt 7, 3) := by decide +kernel
theorem dJ9_max_7cf53_5 : decode cJ9_max_7cf53 5 = .ok (.iload_n 0, 1) := by decide +kernel
theorem dJ9_max_7cf53_6 : decode cJ9_max_7cf53 6 = .ok (.goto 4, 3) := by decide +kernel
theorem dJ9_max_7cf53_9 : decode cJ9_max_7cf53 9 = .ok (.iload_n 1, 1) := by decide +kernel
theorem dJ9_max_7cf53_10 : decode cJ9_max_7cf53 10 = .ok (.ireturn, 1) := by decide +kernel
theorem dJ9_min_7cf53_0 : decode cJ9_min_7cf53 0 = .ok (.iload_n 0, 1) := by decide +kernel
theorem dJ9_min_7cf53_1 : decode cJ9_min_7cf53 1 = .ok (.iload_n 1, 1) := by decide +kernel
theorem dJ9_min_7cf53_2 : decode cJ9_min_7cf53 2 = .ok (.if_icmp .gt 7, 3) := by decide +kernel
theorem dJ9_min_7cf53_5 : decode cJ9_min_7cf53 5 = .ok (.iload_n 0, 1) := by decide +kernel
theorem dJ9_min_7cf53_6 : decode cJ9_min_7cf53 6 = .ok (.goto 4, 3) := by decide +kernel
theorem dJ9_min_7cf53_9 : decode cJ9_min_7cf53 9 = .ok (.iload_n 1, 1) := by decide +kernel
theorem dJ9_min_7cf53_10 : decode cJ9_min_7cf53 10 = .ok (.ireturn, 1) := by decide +kernel
theorem dJ9_min_f86c9_0 : decode cJ9_min_f86c9 0 = .ok (.lload_n 0, 1) := by decide +kernel
theorem dJ9_min_f86c9_1 : decode cJ9_min_f86c9 1 = .ok (.lload_n 2, 1) := by decide +kernel
theorem dJ9_min_f86c9_2 : decode cJ9_min_f86c9 2 = .ok (.lcmp, 1) := by decide +kernel
theorem dJ9_min_f86c9_3 : decode cJ9_min_f86c9 3 = .ok (.ifCond .gt 7, 3) := by decide +kernel
theorem dJ9_min_f86c9_6 : decode cJ9_min_f86c9 6 = .ok (.lload_n 0, 1) := by decide +kernel
theorem dJ9_min_f86c9_7 : decode cJ9_min_f86c9 7 = .ok (.goto 4, 3) := by decide +kernel
theorem dJ9_min_f86c9_10 : decode cJ9_min_f86c9 10 = .ok (.lload_n 2, 1) := by decide +kernel
theorem dJ9_min_f86c9_11 : decode cJ9_min_f86c9 11 = .ok (.lreturn, 1) := by decide +kernel
theorem dJ7_fill_d0a16_0 : decode cJ7_fill_d0a16 0 = .ok (.iconst 0, 1) := by decide +kernel
theorem dJ7_fill_d0a16_1 : decode cJ7_fill_d0a16 1 = .ok (.istore_n 3, 1) := by decide +kernel
theorem dJ7_fill_d0a16_2 : decode cJ7_fill_d0a16 2 = .ok (.aload_n 0, 1) := by decide +kernel
theorem dJ7_fill_d0a16_3 : decode cJ7_fill_d0a16 3 = .ok (.arraylength, 1) := by decide +kernel
theorem dJ7_fill_d0a16_4 : decode cJ7_fill_d0a16 4 = .ok (.istore 4, 2) := by decide +kernel
theorem dJ7_fill_d0a16_6 : decode cJ7_fill_d0a16 6 = .ok (.iload_n 3, 1) := by decide +kernel
theorem dJ7_fill_d0a16_7 : decode cJ7_fill_d0a16 7 = .ok (.iload 4, 2) := by decide +kernel
theorem dJ7_fill_d0a16_9 : decode cJ7_fill_d0a16 9 = .ok (.if_icmp .ge 13, 3) := by decide +kernel
theorem dJ7_fill_d0a16_12 : decode cJ7_fill_d0a16 12 = .ok (.aload_n 0, 1) := by decide +kernel
theorem dJ7_fill_d0a16_13 : decode cJ7_fill_d0a16 13 = .ok (.iload_n 3, 1) := by decide +kernel
theorem dJ7_fill_d0a16_14 : decode cJ7_fill_d0a16 14 = .ok (.lload_n 1, 1) := by decide +kernel
theorem dJ7_fill_d0a16_15 : decode cJ7_fill_d0a16 15 = .ok (.lastore, 1) := by decide +kernel
theorem dJ7_fill_d0a16_16 : decode cJ7_fill_d0a16 16 = .ok (.iinc 3 1, 3) := by decide +kernel
theorem dJ7_fill_d0a16_19 : decode cJ7_fill_d0a16 19 = .ok (.goto (-13), 3) := by decide +kernel
theorem dJ7_fill_d0a16_22 : decode cJ7_fill_d0a16 22 = .ok (.return_, 1) := by decide +kernel
theorem dJ7_fill_53178_0 : decode cJ7_fill_53178 0 = .ok (.iconst 0, 1) := by decide +kernel
theorem dJ7_fill_53178_1 : decode cJ7_fill_53178 1 = .ok (.istore_n 2, 1) := by decide +kernel
theorem dJ7_fill_53178_2 : decode cJ7_fill_53178 2 = .ok (.aload_n 0, 1) := by decide +kernel
theorem dJ7_fill_53178_3 : decode cJ7_fill_53178 3 = .ok (.arraylength, 1) := by decide +kernel
theorem dJ7_fill_53178_4 : decode cJ7_fill_53178 4 = .ok (.istore_n 3, 1) := by decide +kernel
theorem dJ7_fill_53178_5 : decode cJ7_fill_53178 5 = .ok (.iload_n 2, 1) := by decide +kernel
theorem dJ7_fill_53178_6 : decode cJ7_fill_53178 6 = .ok (.iload_n 3, 1) := by decide +kernel
theorem dJ7_fill_53178_7 : decode cJ7_fill_53178 7 = .ok (.if_icmp .ge 13, 3) := by decide +kernel
theorem dJ7_fill_53178_10 : decode cJ7_fill_53178 10 = .ok (.aload_n 0, 1) := by decide +kernel
theorem dJ7_fill_53178_11 : decode cJ7_fill_53178 11 = .ok (.iload_n 2, 1) := by decide +kernel
theorem dJ7_fill_53178_12 : decode cJ7_fill_53178 12 = .ok (.iload_n 1, 1) := by decide +kernel
theorem dJ7_fill_53178_13 : decode cJ7_fill_53178 13 = .ok (.iastore, 1) := by decide +kernel
theorem dJ7_fill_53178_14 : decode cJ7_fill_53178 14 = .ok (.iinc 2 1, 3) := by decide +kernel
theorem dJ7_fill_53178_17 : decode cJ7_fill_53178 17 = .ok (.goto (-12), 3) := by decide +kernel
theorem dJ7_fill_53178_20 : decode cJ7_fill_53178 20 = .ok (.return_, 1) := by decide +kernel
theorem dL_write_0 : decode cL_write 0 = .ok (.aload 5, 2) := by decide +kernel
theorem dL_write_2 : decode cL_write 2 = .ok (.iconst 0, 1) := by decide +kernel
theorem dL_write_3 : decode cL_write 3 = .ok (.aload_n 0, 1) := by decide +kernel
theorem dL_write_4 : decode cL_write 4 = .ok (.iload_n 1, 1) := by decide +kernel
theorem dL_write_5 : decode cL_write 5 = .ok (.iload_n 2, 1) := by decide +kernel
theorem dL_write_6 : decode cL_write 6 = .ok (.lload_n 3, 1) := by decide +kernel
theorem dL_write_7 : decode cL_write 7 = .ok (.invokevirtual 7, 3) := by decide +kernel
theorem dL_write_10 : decode cL_write 10 = .ok (.i2l, 1) := by decide +kernel
theorem dL_write_11 : decode cL_write 11 = .ok (.lastore, 1) := by decide +kernel
theorem dL_write_12 : decode cL_write 12 = .ok (.goto 15, 3) := by decide +kernel
theorem dL_write_15 : decode cL_write 15 = .ok (.astore 6, 2) := by decide +kernel
theorem dL_write_17 : decode cL_write 17 = .ok (.iconst 1, 1) := by decide +kernel
theorem dL_write_18 : decode cL_write 18 = .ok (.ireturn, 1) := by decide +kernel
theorem dL_write_19 : decode cL_write 19 = .ok (.astore 6, 2) := by decide +kernel
theorem dL_write_21 : decode cL_write 21 = .ok (.iconst 2, 1) := by decide +kernel
theorem dL_write_22 : decode cL_write 22 = .ok (.ireturn, 1) := by decide +kernel
theorem dL_write_23 : decode cL_write 23 = .ok (.astore 6, 2) := by decide +kernel
theorem dL_write_25 : decode cL_write 25 = .ok (.iconst 3, 1) := by decide +kernel
theorem dL_write_26 : decode cL_write 26 = .ok (.ireturn, 1) := by decide +kernel
theorem dL_write_27 : decode cL_write 27 = .ok (.iconst 0, 1) := by decide +kernel
theorem dL_write_28 : decode cL_write 28 = .ok (.ireturn, 1) := by decide +kernel
theorem dL_cut_0 : decode cL_cut 0 = .ok (.aload_n 0, 1) := by decide +kernel
theorem dL_cut_1 : decode cL_cut 1 = .ok (.iload_n 1, 1) := by decide +kernel
theorem dL_cut_2 : decode cL_cut 2 = .ok (.iload_n 2, 1) := by decide +kernel
theorem dL_cut_3 : decode cL_cut 3 = .ok (.invokevirtual 19, 3) := by decide +kernel
theorem dL_cut_6 : decode cL_cut 6 = .ok (.goto 12, 3) := by decide +kernel
theorem dL_cut_9 : decode cL_cut 9 = .ok (.astore_n 3, 1) := by decide +kernel
theorem dL_cut_10 : decode cL_cut 10 = .ok (.iconst 1, 1) := by decide +kernel
theorem dL_cut_11 : decode cL_cut 11 = .ok (.ireturn, 1) := by decide +kernel
theorem dL_cut_12 : decode cL_cut 12 = .ok (.astore_n 3, 1) := by decide +kernel
theorem dL_cut_13 : decode cL_cut 13 = .ok (.iconst 2, 1) := by decide +kernel
theorem dL_cut_14 : decode cL_cut 14 = .ok (.ireturn, 1) := by decide +kernel
theorem dL_cut_15 : decode cL_cut 15 = .ok (.astore_n 3, 1) := by decide +kernel
theorem dL_cut_16 : decode cL_cut 16 = .ok (.iconst 3, 1) := by decide +kernel
theorem dL_cut_17 : decode cL_cut 17 = .ok (.ireturn, 1) := by decide +kernel
theorem dL_cut_18 : decode cL_cut 18 = .ok (.iconst 0, 1) := by decide +kernel
theorem dL_cut_19 : decode cL_cut 19 = .ok (.ireturn, 1) := by decide +kernel
theorem dL_remove_0 : decode cL_remove 0 = .ok (.aload_n 0, 1) := by decide +kernel
theorem dL_remove_1 : decode cL_remove 1 = .ok (.iload_n 1, 1) := by decide +kernel
theorem dL_remove_2 : decode cL_remove 2 = .ok (.invokevirtual 23, 3) := by decide +kernel
theorem dL_remove_5 : decode cL_remove 5 = .ok (.goto 12, 3) := by decide +kernel
theorem dL_remove_8 : decode cL_remove 8 = .ok (.astore_n 2, 1) := by decide +kernel
theorem dL_remove_9 : decode cL_remove 9 = .ok (.iconst 1, 1) := by decide +kernel
theorem dL_remove_10 : decode cL_remove 10 = .ok (.ireturn, 1) := by decide +kernel
theorem dL_remove_11 : decode cL_remove 11 = .ok (.astore_n 2, 1) := by decide +kernel
theorem dL_remove_12 : decode cL_remove 12 = .ok (.iconst 2, 1) := by decide +kernel
theorem dL_remove_13 : decode cL_remove 13 = .ok (.ireturn, 1) := by decide +kernel
theorem dL_remove_14 : decode cL_remove 14 = .ok (.astore_n 2, 1) := by decide +kernel
theorem dL_remove_15 : decode cL_remove 15 = .ok (.iconst 3, 1) := by decide +kernel
theorem dL_remove_16 : decode cL_remove 16 = .ok (.ireturn, 1) := by decide +kernel
theorem dL_remove_17 : decode cL_remove 17 = .ok (.iconst 0, 1) := by decide +kernel
theorem dL_remove_18 : decode cL_remove 18 = .ok (.ireturn, 1) := by decide +kernel
theorem dL_size_0 : decode cL_size 0 = .ok (.aload_n 3, 1) := by decide +kernel
theorem dL_size_1 : decode cL_size 1 = .ok (.iconst 0, 1) := by decide +kernel
theorem dL_size_2 : decode cL_size 2 = .ok (.aload_n 0, 1) := by decide +kernel
theorem dL_size_3 : decode cL_size 3 = .ok (.iload_n 1, 1) := by decide +kernel
theorem dL_size_4 : decode cL_size 4 = .ok (.iload_n 2, 1) := by decide +kernel
theorem dL_size_5 : decode cL_size 5 = .ok (.invokevirtual 27, 3) := by decide +kernel
theorem dL_size_8 : decode cL_size 8 = .ok (.i2l, 1) := by decide +kernel
theorem dL_size_9 : decode cL_size 9 = .ok (.lastore, 1) := by decide +kernel
theorem dL_size_10 : decode cL_size 10 = .ok (.goto 11, 3) := by decide +kernel
theorem dL_size_13 : decode cL_size 13 = .ok (.astore 4, 2) := by decide +kernel
theorem dL_size_15 : decode cL_size 15 = .ok (.iconst 1, 1) := by decide +kernel
theorem dL_size_16 : decode cL_size 16 = .ok (.ireturn, 1) := by decide +kernel
theorem dL_size_17 : decode cL_size 17 = .ok (.astore 4, 2) := by decide +kernel
theorem dL_size_19 : decode cL_size 19 = .ok (.iconst 2, 1) := by decide +kernel
theorem dL_size_20 : decode cL_size 20 = .ok (.ireturn, 1) := by decide +kernel
theorem dL_size_21 : decode cL_size 21 = .ok (.iconst 0, 1) := by decide +kernel
theorem dL_size_22 : decode cL_size 22 = .ok (.ireturn, 1) := by decide +kernel
theorem dL_octet_0 : decode cL_octet 0 = .ok (.aload 4, 2) := by decide +kernel
theorem dL_octet_2 : decode cL_octet 2 = .ok (.iconst 0, 1) := by decide +kernel
theorem dL_octet_3 : decode cL_octet 3 = .ok (.aload_n 0, 1) := by decide +kernel
theorem dL_octet_4 : decode cL_octet 4 = .ok (.iload_n 1, 1) := by decide +kernel
theorem dL_octet_5 : decode cL_octet 5 = .ok (.iload_n 2, 1) := by decide +kernel
theorem dL_octet_6 : decode cL_octet 6 = .ok (.iload_n 3, 1) := by decide +kernel
theorem dL_octet_7 : decode cL_octet 7 = .ok (.invokevirtual 31, 3) := by decide +kernel
theorem dL_octet_10 : decode cL_octet 10 = .ok (.i2l, 1) := by decide +kernel
theorem dL_octet_11 : decode cL_octet 11 = .ok (.lastore, 1) := by decide +kernel
theorem dL_octet_12 : decode cL_octet 12 = .ok (.goto 15, 3) := by decide +kernel
theorem dL_octet_15 : decode cL_octet 15 = .ok (.astore 5, 2) := by decide +kernel
theorem dL_octet_17 : decode cL_octet 17 = .ok (.iconst 1, 1) := by decide +kernel
theorem dL_octet_18 : decode cL_octet 18 = .ok (.ireturn, 1) := by decide +kernel
theorem dL_octet_19 : decode cL_octet 19 = .ok (.astore 5, 2) := by decide +kernel
theorem dL_octet_21 : decode cL_octet 21 = .ok (.iconst 2, 1) := by decide +kernel
theorem dL_octet_22 : decode cL_octet 22 = .ok (.ireturn, 1) := by decide +kernel
theorem dL_octet_23 : decode cL_octet 23 = .ok (.astore 5, 2) := by decide +kernel
theorem dL_octet_25 : decode cL_octet 25 = .ok (.iconst 3, 1) := by decide +kernel
theorem dL_octet_26 : decode cL_octet 26 = .ok (.ireturn, 1) := by decide +kernel
theorem dL_octet_27 : decode cL_octet 27 = .ok (.iconst 0, 1) := by decide +kernel
theorem dL_octet_28 : decode cL_octet 28 = .ok (.ireturn, 1) := by decide +kernel
theorem dL_point_0 : decode cL_point 0 = .ok (.aload_n 1, 1) := by decide +kernel
theorem dL_point_1 : decode cL_point 1 = .ok (.iconst 0, 1) := by decide +kernel
theorem dL_point_2 : decode cL_point 2 = .ok (.aload_n 0, 1) := by decide +kernel
theorem dL_point_3 : decode cL_point 3 = .ok (.invokevirtual 37, 3) := by decide +kernel
theorem dL_point_6 : decode cL_point 6 = .ok (.i2l, 1) := by decide +kernel
theorem dL_point_7 : decode cL_point 7 = .ok (.lastore, 1) := by decide +kernel
theorem dL_point_8 : decode cL_point 8 = .ok (.goto 9, 3) := by decide +kernel
theorem dL_point_11 : decode cL_point 11 = .ok (.astore_n 2, 1) := by decide +kernel
theorem dL_point_12 : decode cL_point 12 = .ok (.iconst 1, 1) := by decide +kernel
theorem dL_point_13 : decode cL_point 13 = .ok (.ireturn, 1) := by decide +kernel
theorem dL_point_14 : decode cL_point 14 = .ok (.astore_n 2, 1) := by decide +kernel
theorem dL_point_15 : decode cL_point 15 = .ok (.iconst 2, 1) := by decide +kernel
theorem dL_point_16 : decode cL_point 16 = .ok (.ireturn, 1) := by decide +kernel
theorem dL_point_17 : decode cL_point 17 = .ok (.iconst 0, 1) := by decide +kernel
theorem dL_point_18 : decode cL_point 18 = .ok (.ireturn, 1) := by decide +kernel
theorem dL_snapshot_0 : decode cL_snapshot 0 = .ok (.aload_n 0, 1) := by decide +kernel
theorem dL_snapshot_1 : decode cL_snapshot 1 = .ok (.iload_n 1, 1) := by decide +kernel
theorem dL_snapshot_2 : decode cL_snapshot 2 = .ok (.invokevirtual 41, 3) := by decide +kernel
theorem dL_snapshot_5 : decode cL_snapshot 5 = .ok (.goto 12, 3) := by decide +kernel
theorem dL_snapshot_8 : decode cL_snapshot 8 = .ok (.astore_n 2, 1) := by decide +kernel
theorem dL_snapshot_9 : decode cL_snapshot 9 = .ok (.iconst 1, 1) := by decide +kernel
theorem dL_snapshot_10 : decode cL_snapshot 10 = .ok (.ireturn, 1) := by decide +kernel
theorem dL_snapshot_11 : decode cL_snapshot 11 = .ok (.astore_n 2, 1) := by decide +kernel
theorem dL_snapshot_12 : decode cL_snapshot 12 = .ok (.iconst 2, 1) := by decide +kernel
theorem dL_snapshot_13 : decode cL_snapshot 13 = .ok (.ireturn, 1) := by decide +kernel
theorem dL_snapshot_14 : decode cL_snapshot 14 = .ok (.astore_n 2, 1) := by decide +kernel
theorem dL_snapshot_15 : decode cL_snapshot 15 = .ok (.iconst 3, 1) := by decide +kernel
theorem dL_snapshot_16 : decode cL_snapshot 16 = .ok (.ireturn, 1) := by decide +kernel
theorem dL_snapshot_17 : decode cL_snapshot 17 = .ok (.iconst 0, 1) := by decide +kernel
theorem dL_snapshot_18 : decode cL_snapshot 18 = .ok (.ireturn, 1) := by decide +kernel
theorem dL_drop_0 : decode cL_drop 0 = .ok (.aload_n 0, 1) := by decide +kernel
theorem dL_drop_1 : decode cL_drop 1 = .ok (.iload_n 1, 1) := by decide +kernel
theorem dL_drop_2 : decode cL_drop 2 = .ok (.invokevirtual 44, 3) := by decide +kernel
theorem dL_drop_5 : decode cL_drop 5 = .ok (.goto 9, 3) := by decide +kernel
theorem dL_drop_8 : decode cL_drop 8 = .ok (.astore_n 2, 1) := by decide +kernel
theorem dL_drop_9 : decode cL_drop 9 = .ok (.iconst 1, 1) := by decide +kernel
theorem dL_drop_10 : decode cL_drop 10 = .ok (.ireturn, 1) := by decide +kernel
theorem dL_drop_11 : decode cL_drop 11 = .ok (.astore_n 2, 1) := by decide +kernel
theorem dL_drop_12 : decode cL_drop 12 = .ok (.iconst 2, 1) := by decide +kernel
theorem dL_drop_13 : decode cL_drop 13 = .ok (.ireturn, 1) := by decide +kernel
theorem dL_drop_14 : decode cL_drop 14 = .ok (.iconst 0, 1) := by decide +kernel
theorem dL_drop_15 : decode cL_drop 15 = .ok (.ireturn, 1) := by decide +kernel
theorem dL_crash_0 : decode cL_crash 0 = .ok (.aload_n 3, 1) := by decide +kernel
theorem dL_crash_1 : decode cL_crash 1 = .ok (.iconst 0, 1) := by decide +kernel
theorem dL_crash_2 : decode cL_crash 2 = .ok (.aload_n 0, 1) := by decide +kernel
theorem dL_crash_3 : decode cL_crash 3 = .ok (.iload_n 1, 1) := by decide +kernel
theorem dL_crash_4 : decode cL_crash 4 = .ok (.iload_n 2, 1) := by decide +kernel
theorem dL_crash_5 : decode cL_crash 5 = .ok (.invokevirtual 47, 3) := by decide +kernel
theorem dL_crash_8 : decode cL_crash 8 = .ok (.ifCond .eq 7, 3) := by decide +kernel
theorem dL_crash_11 : decode cL_crash 11 = .ok (.lconst 1, 1) := by decide +kernel
theorem dL_crash_12 : decode cL_crash 12 = .ok (.goto 4, 3) := by decide +kernel
theorem dL_crash_15 : decode cL_crash 15 = .ok (.lconst 0, 1) := by decide +kernel
theorem dL_crash_16 : decode cL_crash 16 = .ok (.lastore, 1) := by decide +kernel
theorem dL_crash_17 : decode cL_crash 17 = .ok (.goto 11, 3) := by decide +kernel
theorem dL_crash_20 : decode cL_crash 20 = .ok (.astore 4, 2) := by decide +kernel
theorem dL_crash_22 : decode cL_crash 22 = .ok (.iconst 1, 1) := by decide +kernel
theorem dL_crash_23 : decode cL_crash 23 = .ok (.ireturn, 1) := by decide +kernel
theorem dL_crash_24 : decode cL_crash 24 = .ok (.astore 4, 2) := by decide +kernel
theorem dL_crash_26 : decode cL_crash 26 = .ok (.iconst 2, 1) := by decide +kernel
theorem dL_crash_27 : decode cL_crash 27 = .ok (.ireturn, 1) := by decide +kernel
theorem dL_crash_28 : decode cL_crash 28 = .ok (.iconst 0, 1) := by decide +kernel
theorem dL_crash_29 : decode cL_crash 29 = .ok (.ireturn, 1) := by decide +kernel
theorem dL_fail_0 : decode cL_fail 0 = .ok (.aload_n 0, 1) := by decide +kernel
theorem dL_fail_1 : decode cL_fail 1 = .ok (.iload_n 1, 1) := by decide +kernel
theorem dL_fail_2 : decode cL_fail 2 = .ok (.invokevirtual 51, 3) := by decide +kernel
theorem dL_fail_5 : decode cL_fail 5 = .ok (.goto 9, 3) := by decide +kernel
theorem dL_fail_8 : decode cL_fail 8 = .ok (.astore_n 2, 1) := by decide +kernel
theorem dL_fail_9 : decode cL_fail 9 = .ok (.iconst 1, 1) := by decide +kernel
theorem dL_fail_10 : decode cL_fail 10 = .ok (.ireturn, 1) := by decide +kernel
theorem dL_fail_11 : decode cL_fail 11 = .ok (.astore_n 2, 1) := by decide +kernel
theorem dL_fail_12 : decode cL_fail 12 = .ok (.iconst 2, 1) := by decide +kernel
theorem dL_fail_13 : decode cL_fail 13 = .ok (.ireturn, 1) := by decide +kernel
theorem dL_fail_14 : decode cL_fail 14 = .ok (.iconst 0, 1) := by decide +kernel
theorem dL_fail_15 : decode cL_fail 15 = .ok (.ireturn, 1) := by decide +kernel
theorem dL_replace_0 : decode cL_replace 0 = .ok (.aload_n 0, 1) := by decide +kernel
theorem dL_replace_1 : decode cL_replace 1 = .ok (.invokevirtual 54, 3) := by decide +kernel
theorem dL_replace_4 : decode cL_replace 4 = .ok (.goto 6, 3) := by decide +kernel
theorem dL_replace_7 : decode cL_replace 7 = .ok (.astore_n 1, 1) := by decide +kernel
theorem dL_replace_8 : decode cL_replace 8 = .ok (.iconst 1, 1) := by decide +kernel
theorem dL_replace_9 : decode cL_replace 9 = .ok (.ireturn, 1) := by decide +kernel
theorem dL_replace_10 : decode cL_replace 10 = .ok (.iconst 0, 1) := by decide +kernel
theorem dL_replace_11 : decode cL_replace 11 = .ok (.ireturn, 1) := by decide +kernel
theorem dL_rebuild_0 : decode cL_rebuild 0 = .ok (.aload_n 2, 1) := by decide +kernel
theorem dL_rebuild_1 : decode cL_rebuild 1 = .ok (.iconst 0, 1) := by decide +kernel
theorem dL_rebuild_2 : decode cL_rebuild 2 = .ok (.aload_n 0, 1) := by decide +kernel
theorem dL_rebuild_3 : decode cL_rebuild 3 = .ok (.iload_n 1, 1) := by decide +kernel
theorem dL_rebuild_4 : decode cL_rebuild 4 = .ok (.invokevirtual 57, 3) := by decide +kernel
theorem dL_rebuild_7 : decode cL_rebuild 7 = .ok (.i2l, 1) := by decide +kernel
theorem dL_rebuild_8 : decode cL_rebuild 8 = .ok (.lastore, 1) := by decide +kernel
theorem dL_rebuild_9 : decode cL_rebuild 9 = .ok (.goto 9, 3) := by decide +kernel
theorem dL_rebuild_12 : decode cL_rebuild 12 = .ok (.astore_n 3, 1) := by decide +kernel
theorem dL_rebuild_13 : decode cL_rebuild 13 = .ok (.iconst 1, 1) := by decide +kernel
theorem dL_rebuild_14 : decode cL_rebuild 14 = .ok (.ireturn, 1) := by decide +kernel
theorem dL_rebuild_15 : decode cL_rebuild 15 = .ok (.astore_n 3, 1) := by decide +kernel
theorem dL_rebuild_16 : decode cL_rebuild 16 = .ok (.iconst 2, 1) := by decide +kernel
theorem dL_rebuild_17 : decode cL_rebuild 17 = .ok (.ireturn, 1) := by decide +kernel
theorem dL_rebuild_18 : decode cL_rebuild 18 = .ok (.iconst 0, 1) := by decide +kernel
theorem dL_rebuild_19 : decode cL_rebuild 19 = .ok (.ireturn, 1) := by decide +kernel
theorem dL_block_0 : decode cL_block 0 = .ok (.aload 4, 2) := by decide +kernel
theorem dL_block_2 : decode cL_block 2 = .ok (.iconst 0, 1) := by decide +kernel
theorem dL_block_3 : decode cL_block 3 = .ok (.aload_n 0, 1) := by decide +kernel
theorem dL_block_4 : decode cL_block 4 = .ok (.iload_n 1, 1) := by decide +kernel
theorem dL_block_5 : decode cL_block 5 = .ok (.iload_n 2, 1) := by decide +kernel
theorem dL_block_6 : decode cL_block 6 = .ok (.iload_n 3, 1) := by decide +kernel
theorem dL_block_7 : decode cL_block 7 = .ok (.invokevirtual 61, 3) := by decide +kernel
theorem dL_block_10 : decode cL_block 10 = .ok (.lastore, 1) := by decide +kernel
theorem dL_block_11 : decode cL_block 11 = .ok (.goto 11, 3) := by decide +kernel
theorem dL_block_14 : decode cL_block 14 = .ok (.astore 5, 2) := by decide +kernel
theorem dL_block_16 : decode cL_block 16 = .ok (.iconst 1, 1) := by decide +kernel
theorem dL_block_17 : decode cL_block 17 = .ok (.ireturn, 1) := by decide +kernel
theorem dL_block_18 : decode cL_block 18 = .ok (.astore 5, 2) := by decide +kernel
theorem dL_block_20 : decode cL_block 20 = .ok (.iconst 2, 1) := by decide +kernel
theorem dL_block_21 : decode cL_block 21 = .ok (.ireturn, 1) := by decide +kernel
theorem dL_block_22 : decode cL_block 22 = .ok (.iconst 0, 1) := by decide +kernel
theorem dL_block_23 : decode cL_block 23 = .ok (.ireturn, 1) := by decide +kernel
theorem dL_count_0 : decode cL_count 0 = .ok (.aload_n 2, 1) := by decide +kernel
theorem dL_count_1 : decode cL_count 1 = .ok (.iconst 0, 1) := by decide +kernel
theorem dL_count_2 : decode cL_count 2 = .ok (.aload_n 0, 1) := by decide +kernel
theorem dL_count_3 : decode cL_count 3 = .ok (.iload_n 1, 1) := by decide +kernel
theorem dL_count_4 : decode cL_count 4 = .ok (.invokevirtual 65, 3) := by decide +kernel
theorem dL_count_7 : decode cL_count 7 = .ok (.i2l, 1) := by decide +kernel
theorem dL_count_8 : decode cL_count 8 = .ok (.lastore, 1) := by decide +kernel
theorem dL_count_9 : decode cL_count 9 = .ok (.goto 6, 3) := by decide +kernel
theorem dL_count_12 : decode cL_count 12 = .ok (.astore_n 3, 1) := by decide +kernel
theorem dL_count_13 : decode cL_count 13 = .ok (.iconst 1, 1) := by decide +kernel
theorem dL_count_14 : decode cL_count 14 = .ok (.ireturn, 1) := by decide +kernel
theorem dL_count_15 : decode cL_count 15 = .ok (.iconst 0, 1) := by decide +kernel
theorem dL_count_16 : decode cL_count 16 = .ok (.ireturn, 1) := by decide +kernel
theorem dL_law_0 : decode cL_law 0 = .ok (.new 8, 3) := by decide +kernel
theorem dL_law_3 : decode cL_law 3 = .ok (.dup, 1) := by decide +kernel
theorem dL_law_4 : decode cL_law 4 = .ok (.invokespecial 68, 3) := by decide +kernel
theorem dL_law_7 : decode cL_law 7 = .ok (.astore_n 1, 1) := by decide +kernel
theorem dL_law_8 : decode cL_law 8 = .ok (.new 69, 3) := by decide +kernel
theorem dL_law_11 : decode cL_law 11 = .ok (.dup, 1) := by decide +kernel
theorem dL_law_12 : decode cL_law 12 = .ok (.invokespecial 71, 3) := by decide +kernel
theorem dL_law_15 : decode cL_law 15 = .ok (.astore_n 2, 1) := by decide +kernel
theorem dL_law_16 : decode cL_law 16 = .ok (.iconst 1, 1) := by decide +kernel
theorem dL_law_17 : decode cL_law 17 = .ok (.newarray .long, 2) := by decide +kernel
theorem dL_law_19 : decode cL_law 19 = .ok (.astore_n 3, 1) := by decide +kernel
theorem dL_law_20 : decode cL_law 20 = .ok (.iconst 0, 1) := by decide +kernel
theorem dL_law_21 : decode cL_law 21 = .ok (.istore 4, 2) := by decide +kernel
theorem dL_law_23 : decode cL_law 23 = .ok (.iload 4, 2) := by decide +kernel
theorem dL_law_25 : decode cL_law 25 = .ok (.aload_n 0, 1) := by decide +kernel
theorem dL_law_26 : decode cL_law 26 = .ok (.arraylength, 1) := by decide +kernel
theorem dL_law_27 : decode cL_law 27 = .ok (.iconst 5, 1) := by decide +kernel
theorem dL_law_28 : decode cL_law 28 = .ok (.isub, 1) := by decide +kernel
theorem dL_law_29 : decode cL_law 29 = .ok (.if_icmp .gt 902, 3) := by decide +kernel
theorem dL_law_32 : decode cL_law 32 = .ok (.aload_n 0, 1) := by decide +kernel
theorem dL_law_33 : decode cL_law 33 = .ok (.iload 4, 2) := by decide +kernel
theorem dL_law_35 : decode cL_law 35 = .ok (.iaload, 1) := by decide +kernel
theorem dL_law_36 : decode cL_law 36 = .ok (.bipush 15, 2) := by decide +kernel
theorem dL_law_38 : decode cL_law 38 = .ok (.iand, 1) := by decide +kernel
theorem dL_law_39 : decode cL_law 39 = .ok (.tableswitch 886 0 14 #[73, 84, 196, 244, 280, 348, 428, 472, 508, 544, 635, 671, 695, 751, 830], 73) := by decide +kernel
theorem dL_law_112 : decode cL_law 112 = .ok (.aload_n 1, 1) := by decide +kernel
theorem dL_law_113 : decode cL_law 113 = .ok (.invokevirtual 72, 3) := by decide +kernel
theorem dL_law_116 : decode cL_law 116 = .ok (.aload_n 2, 1) := by decide +kernel
theorem dL_law_117 : decode cL_law 117 = .ok (.invokevirtual 75, 3) := by decide +kernel
theorem dL_law_120 : decode cL_law 120 = .ok (.goto 805, 3) := by decide +kernel
theorem dL_law_123 : decode cL_law 123 = .ok (.aload_n 1, 1) := by decide +kernel
theorem dL_law_124 : decode cL_law 124 = .ok (.aload_n 0, 1) := by decide +kernel
theorem dL_law_125 : decode cL_law 125 = .ok (.iload 4, 2) := by decide +kernel
theorem dL_law_127 : decode cL_law 127 = .ok (.iconst 1, 1) := by decide +kernel
theorem dL_law_128 : decode cL_law 128 = .ok (.iadd, 1) := by decide +kernel
theorem dL_law_129 : decode cL_law 129 = .ok (.iaload, 1) := by decide +kernel
theorem dL_law_130 : decode cL_law 130 = .ok (.aload_n 0, 1) := by decide +kernel
theorem dL_law_131 : decode cL_law 131 = .ok (.iload 4, 2) := by decide +kernel
theorem dL_law_133 : decode cL_law 133 = .ok (.iconst 2, 1) := by decide +kernel
theorem dL_law_134 : decode cL_law 134 = .ok (.iadd, 1) := by decide +kernel
theorem dL_law_135 : decode cL_law 135 = .ok (.iaload, 1) := by decide +kernel
theorem dL_law_136 : decode cL_law 136 = .ok (.aload_n 0, 1) := by decide +kernel
theorem dL_law_137 : decode cL_law 137 = .ok (.iload 4, 2) := by decide +kernel
theorem dL_law_139 : decode cL_law 139 = .ok (.iconst 3, 1) := by decide +kernel
theorem dL_law_140 : decode cL_law 140 = .ok (.iadd, 1) := by decide +kernel
theorem dL_law_141 : decode cL_law 141 = .ok (.iaload, 1) := by decide +kernel
theorem dL_law_142 : decode cL_law 142 = .ok (.i2l, 1) := by decide +kernel
theorem dL_law_143 : decode cL_law 143 = .ok (.bipush 32, 2) := by decide +kernel
theorem dL_law_145 : decode cL_law 145 = .ok (.lshl, 1) := by decide +kernel
theorem dL_law_146 : decode cL_law 146 = .ok (.aload_n 0, 1) := by decide +kernel
theorem dL_law_147 : decode cL_law 147 = .ok (.iload 4, 2) := by decide +kernel
theorem dL_law_149 : decode cL_law 149 = .ok (.iconst 4, 1) := by decide +kernel
theorem dL_law_150 : decode cL_law 150 = .ok (.iadd, 1) := by decide +kernel
theorem dL_law_151 : decode cL_law 151 = .ok (.iaload, 1) := by decide +kernel
theorem dL_law_152 : decode cL_law 152 = .ok (.i2l, 1) := by decide +kernel
theorem dL_law_153 : decode cL_law 153 = .ok (.ldc2_w 76, 3) := by decide +kernel
theorem dL_law_156 : decode cL_law 156 = .ok (.land, 1) := by decide +kernel
theorem dL_law_157 : decode cL_law 157 = .ok (.lor, 1) := by decide +kernel
theorem dL_law_158 : decode cL_law 158 = .ok (.aload_n 3, 1) := by decide +kernel
theorem dL_law_159 : decode cL_law 159 = .ok (.invokestatic 78, 3) := by decide +kernel
theorem dL_law_162 : decode cL_law 162 = .ok (.istore 5, 2) := by decide +kernel
theorem dL_law_164 : decode cL_law 164 = .ok (.aload_n 2, 1) := by decide +kernel
theorem dL_law_165 : decode cL_law 165 = .ok (.aload_n 0, 1) := by decide +kernel
theorem dL_law_166 : decode cL_law 166 = .ok (.iload 4, 2) := by decide +kernel
theorem dL_law_168 : decode cL_law 168 = .ok (.iconst 1, 1) := by decide +kernel
theorem dL_law_169 : decode cL_law 169 = .ok (.iadd, 1) := by decide +kernel
theorem dL_law_170 : decode cL_law 170 = .ok (.iaload, 1) := by decide +kernel
theorem dL_law_171 : decode cL_law 171 = .ok (.aload_n 0, 1) := by decide +kernel
theorem dL_law_172 : decode cL_law 172 = .ok (.iload 4, 2) := by decide +kernel
theorem dL_law_174 : decode cL_law 174 = .ok (.iconst 2, 1) := by decide +kernel
theorem dL_law_175 : decode cL_law 175 = .ok (.iadd, 1) := by decide +kernel
theorem dL_law_176 : decode cL_law 176 = .ok (.iaload, 1) := by decide +kernel
theorem dL_law_177 : decode cL_law 177 = .ok (.aload_n 0, 1) := by decide +kernel
theorem dL_law_178 : decode cL_law 178 = .ok (.iload 4, 2) := by decide +kernel
theorem dL_law_180 : decode cL_law 180 = .ok (.iconst 3, 1) := by decide +kernel
theorem dL_law_181 : decode cL_law 181 = .ok (.iadd, 1) := by decide +kernel
theorem dL_law_182 : decode cL_law 182 = .ok (.iaload, 1) := by decide +kernel
theorem dL_law_183 : decode cL_law 183 = .ok (.i2l, 1) := by decide +kernel
theorem dL_law_184 : decode cL_law 184 = .ok (.bipush 32, 2) := by decide +kernel
theorem dL_law_186 : decode cL_law 186 = .ok (.lshl, 1) := by decide +kernel
theorem dL_law_187 : decode cL_law 187 = .ok (.aload_n 0, 1) := by decide +kernel
theorem dL_law_188 : decode cL_law 188 = .ok (.iload 4, 2) := by decide +kernel
theorem dL_law_190 : decode cL_law 190 = .ok (.iconst 4, 1) := by decide +kernel
theorem dL_law_191 : decode cL_law 191 = .ok (.iadd, 1) := by decide +kernel
theorem dL_law_192 : decode cL_law 192 = .ok (.iaload, 1) := by decide +kernel
theorem dL_law_193 : decode cL_law 193 = .ok (.i2l, 1) := by decide +kernel
theorem dL_law_194 : decode cL_law 194 = .ok (.ldc2_w 76, 3) := by decide +kernel
theorem dL_law_197 : decode cL_law 197 = .ok (.land, 1) := by decide +kernel
theorem dL_law_198 : decode cL_law 198 = .ok (.lor, 1) := by decide +kernel
theorem dL_law_199 : decode cL_law 199 = .ok (.invokevirtual 83, 3) := by decide +kernel
theorem dL_law_202 : decode cL_law 202 = .ok (.istore 6, 2) := by decide +kernel
theorem dL_law_204 : decode cL_law 204 = .ok (.aload_n 2, 1) := by decide +kernel
theorem dL_law_205 : decode cL_law 205 = .ok (.invokevirtual 84, 3) := by decide +kernel
theorem dL_law_208 : decode cL_law 208 = .ok (.iload 5, 2) := by decide +kernel
theorem dL_law_210 : decode cL_law 210 = .ok (.if_icmp .eq 5, 3) := by decide +kernel
theorem dL_law_213 : decode cL_law 213 = .ok (.iconst 0, 1) := by decide +kernel
theorem dL_law_214 : decode cL_law 214 = .ok (.ireturn, 1) := by decide +kernel
theorem dL_law_215 : decode cL_law 215 = .ok (.iload 5, 2) := by decide +kernel
theorem dL_law_217 : decode cL_law 217 = .ok (.ifCond .ne 15, 3) := by decide +kernel
theorem dL_law_220 : decode cL_law 220 = .ok (.aload_n 3, 1) := by decide +kernel
theorem dL_law_221 : decode cL_law 221 = .ok (.iconst 0, 1) := by decide +kernel
theorem dL_law_222 : decode cL_law 222 = .ok (.laload, 1) := by decide +kernel
theorem dL_law_223 : decode cL_law 223 = .ok (.iload 6, 2) := by decide +kernel
theorem dL_law_225 : decode cL_law 225 = .ok (.i2l, 1) := by decide +kernel
theorem dL_law_226 : decode cL_law 226 = .ok (.lcmp, 1) := by decide +kernel
theorem dL_law_227 : decode cL_law 227 = .ok (.ifCond .eq 5, 3) := by decide +kernel
theorem dL_law_230 : decode cL_law 230 = .ok (.iconst 0, 1) := by decide +kernel
theorem dL_law_231 : decode cL_law 231 = .ok (.ireturn, 1) := by decide +kernel
theorem dL_law_232 : decode cL_law 232 = .ok (.goto 693, 3) := by decide +kernel
theorem dL_law_235 : decode cL_law 235 = .ok (.aload_n 1, 1) := by decide +kernel
theorem dL_law_236 : decode cL_law 236 = .ok (.aload_n 0, 1) := by decide +kernel
theorem dL_law_237 : decode cL_law 237 = .ok (.iload 4, 2) := by decide +kernel
theorem dL_law_239 : decode cL_law 239 = .ok (.iconst 1, 1) := by decide +kernel
theorem dL_law_240 : decode cL_law 240 = .ok (.iadd, 1) := by decide +kernel
theorem dL_law_241 : decode cL_law 241 = .ok (.iaload, 1) := by decide +kernel
theorem dL_law_242 : decode cL_law 242 = .ok (.aload_n 0, 1) := by decide +kernel
theorem dL_law_243 : decode cL_law 243 = .ok (.iload 4, 2) := by decide +kernel
theorem dL_law_245 : decode cL_law 245 = .ok (.iconst 2, 1) := by decide +kernel
theorem dL_law_246 : decode cL_law 246 = .ok (.iadd, 1) := by decide +kernel
theorem dL_law_247 : decode cL_law 247 = .ok (.iaload, 1) := by decide +kernel
theorem dL_law_248 : decode cL_law 248 = .ok (.invokestatic 87, 3) := by decide +kernel
theorem dL_law_251 : decode cL_law 251 = .ok (.istore 5, 2) := by decide +kernel
theorem dL_law_253 : decode cL_law 253 = .ok (.aload_n 2, 1) := by decide +kernel
theorem dL_law_254 : decode cL_law 254 = .ok (.aload_n 0, 1) := by decide +kernel
theorem dL_law_255 : decode cL_law 255 = .ok (.iload 4, 2) := by decide +kernel
theorem dL_law_257 : decode cL_law 257 = .ok (.iconst 1, 1) := by decide +kernel
theorem dL_law_258 : decode cL_law 258 = .ok (.iadd, 1) := by decide +kernel
theorem dL_law_259 : decode cL_law 259 = .ok (.iaload, 1) := by decide +kernel
theorem dL_law_260 : decode cL_law 260 = .ok (.aload_n 0, 1) := by decide +kernel
theorem dL_law_261 : decode cL_law 261 = .ok (.iload 4, 2) := by decide +kernel
theorem dL_law_263 : decode cL_law 263 = .ok (.iconst 2, 1) := by decide +kernel
theorem dL_law_264 : decode cL_law 264 = .ok (.iadd, 1) := by decide +kernel
theorem dL_law_265 : decode cL_law 265 = .ok (.iaload, 1) := by decide +kernel
theorem dL_law_266 : decode cL_law 266 = .ok (.invokevirtual 90, 3) := by decide +kernel
theorem dL_law_269 : decode cL_law 269 = .ok (.aload_n 2, 1) := by decide +kernel
theorem dL_law_270 : decode cL_law 270 = .ok (.invokevirtual 84, 3) := by decide +kernel
theorem dL_law_273 : decode cL_law 273 = .ok (.iload 5, 2) := by decide +kernel
theorem dL_law_275 : decode cL_law 275 = .ok (.if_icmp .eq 5, 3) := by decide +kernel
theorem dL_law_278 : decode cL_law 278 = .ok (.iconst 0, 1) := by decide +kernel
theorem dL_law_279 : decode cL_law 279 = .ok (.ireturn, 1) := by decide +kernel
theorem dL_law_280 : decode cL_law 280 = .ok (.goto 645, 3) := by decide +kernel
theorem dL_law_283 : decode cL_law 283 = .ok (.aload_n 1, 1) := by decide +kernel
theorem dL_law_284 : decode cL_law 284 = .ok (.aload_n 0, 1) := by decide +kernel
theorem dL_law_285 : decode cL_law 285 = .ok (.iload 4, 2) := by decide +kernel
theorem dL_law_287 : decode cL_law 287 = .ok (.iconst 1, 1) := by decide +kernel
theorem dL_law_288 : decode cL_law 288 = .ok (.iadd, 1) := by decide +kernel
theorem dL_law_289 : decode cL_law 289 = .ok (.iaload, 1) := by decide +kernel
theorem dL_law_290 : decode cL_law 290 = .ok (.invokestatic 91, 3) := by decide +kernel
theorem dL_law_293 : decode cL_law 293 = .ok (.istore 5, 2) := by decide +kernel
theorem dL_law_295 : decode cL_law 295 = .ok (.aload_n 2, 1) := by decide +kernel
theorem dL_law_296 : decode cL_law 296 = .ok (.aload_n 0, 1) := by decide +kernel
theorem dL_law_297 : decode cL_law 297 = .ok (.iload 4, 2) := by decide +kernel
theorem dL_law_299 : decode cL_law 299 = .ok (.iconst 1, 1) := by decide +kernel
theorem dL_law_300 : decode cL_law 300 = .ok (.iadd, 1) := by decide +kernel
theorem dL_law_301 : decode cL_law 301 = .ok (.iaload, 1) := by decide +kernel
theorem dL_law_302 : decode cL_law 302 = .ok (.invokevirtual 94, 3) := by decide +kernel
theorem dL_law_305 : decode cL_law 305 = .ok (.aload_n 2, 1) := by decide +kernel
theorem dL_law_306 : decode cL_law 306 = .ok (.invokevirtual 84, 3) := by decide +kernel
theorem dL_law_309 : decode cL_law 309 = .ok (.iload 5, 2) := by decide +kernel
theorem dL_law_311 : decode cL_law 311 = .ok (.if_icmp .eq 5, 3) := by decide +kernel
theorem dL_law_314 : decode cL_law 314 = .ok (.iconst 0, 1) := by decide +kernel
theorem dL_law_315 : decode cL_law 315 = .ok (.ireturn, 1) := by decide +kernel
theorem dL_law_316 : decode cL_law 316 = .ok (.goto 609, 3) := by decide +kernel
theorem dL_law_319 : decode cL_law 319 = .ok (.aload_n 1, 1) := by decide +kernel
theorem dL_law_320 : decode cL_law 320 = .ok (.aload_n 0, 1) := by decide +kernel
theorem dL_law_321 : decode cL_law 321 = .ok (.iload 4, 2) := by decide +kernel
theorem dL_law_323 : decode cL_law 323 = .ok (.iconst 1, 1) := by decide +kernel
theorem dL_law_324 : decode cL_law 324 = .ok (.iadd, 1) := by decide +kernel
theorem dL_law_325 : decode cL_law 325 = .ok (.iaload, 1) := by decide +kernel
theorem dL_law_326 : decode cL_law 326 = .ok (.aload_n 0, 1) := by decide +kernel
theorem dL_law_327 : decode cL_law 327 = .ok (.iload 4, 2) := by decide +kernel
theorem dL_law_329 : decode cL_law 329 = .ok (.iconst 2, 1) := by decide +kernel
theorem dL_law_330 : decode cL_law 330 = .ok (.iadd, 1) := by decide +kernel
theorem dL_law_331 : decode cL_law 331 = .ok (.iaload, 1) := by decide +kernel
theorem dL_law_332 : decode cL_law 332 = .ok (.aload_n 3, 1) := by decide +kernel
theorem dL_law_333 : decode cL_law 333 = .ok (.invokestatic 95, 3) := by decide +kernel
theorem dL_law_336 : decode cL_law 336 = .ok (.istore 5, 2) := by decide +kernel
theorem dL_law_338 : decode cL_law 338 = .ok (.aload_n 2, 1) := by decide +kernel
theorem dL_law_339 : decode cL_law 339 = .ok (.aload_n 0, 1) := by decide +kernel
theorem dL_law_340 : decode cL_law 340 = .ok (.iload 4, 2) := by decide +kernel
theorem dL_law_342 : decode cL_law 342 = .ok (.iconst 1, 1) := by decide +kernel
theorem dL_law_343 : decode cL_law 343 = .ok (.iadd, 1) := by decide +kernel
theorem dL_law_344 : decode cL_law 344 = .ok (.iaload, 1) := by decide +kernel
theorem dL_law_345 : decode cL_law 345 = .ok (.aload_n 0, 1) := by decide +kernel
theorem dL_law_346 : decode cL_law 346 = .ok (.iload 4, 2) := by decide +kernel
theorem dL_law_348 : decode cL_law 348 = .ok (.iconst 2, 1) := by decide +kernel
theorem dL_law_349 : decode cL_law 349 = .ok (.iadd, 1) := by decide +kernel
theorem dL_law_350 : decode cL_law 350 = .ok (.iaload, 1) := by decide +kernel
theorem dL_law_351 : decode cL_law 351 = .ok (.invokevirtual 98, 3) := by decide +kernel
theorem dL_law_354 : decode cL_law 354 = .ok (.istore 6, 2) := by decide +kernel
theorem dL_law_356 : decode cL_law 356 = .ok (.aload_n 2, 1) := by decide +kernel
theorem dL_law_357 : decode cL_law 357 = .ok (.invokevirtual 84, 3) := by decide +kernel
theorem dL_law_360 : decode cL_law 360 = .ok (.iload 5, 2) := by decide +kernel
theorem dL_law_362 : decode cL_law 362 = .ok (.if_icmp .eq 5, 3) := by decide +kernel
theorem dL_law_365 : decode cL_law 365 = .ok (.iconst 0, 1) := by decide +kernel
theorem dL_law_366 : decode cL_law 366 = .ok (.ireturn, 1) := by decide +kernel
theorem dL_law_367 : decode cL_law 367 = .ok (.iload 5, 2) := by decide +kernel
theorem dL_law_369 : decode cL_law 369 = .ok (.ifCond .ne 15, 3) := by decide +kernel
theorem dL_law_372 : decode cL_law 372 = .ok (.aload_n 3, 1) := by decide +kernel
theorem dL_law_373 : decode cL_law 373 = .ok (.iconst 0, 1) := by decide +kernel
theorem dL_law_374 : decode cL_law 374 = .ok (.laload, 1) := by decide +kernel
theorem dL_law_375 : decode cL_law 375 = .ok (.iload 6, 2) := by decide +kernel
theorem dL_law_377 : decode cL_law 377 = .ok (.i2l, 1) := by decide +kernel
theorem dL_law_378 : decode cL_law 378 = .ok (.lcmp, 1) := by decide +kernel
theorem dL_law_379 : decode cL_law 379 = .ok (.ifCond .eq 5, 3) := by decide +kernel
theorem dL_law_382 : decode cL_law 382 = .ok (.iconst 0, 1) := by decide +kernel
theorem dL_law_383 : decode cL_law 383 = .ok (.ireturn, 1) := by decide +kernel
theorem dL_law_384 : decode cL_law 384 = .ok (.goto 541, 3) := by decide +kernel
theorem dL_law_387 : decode cL_law 387 = .ok (.aload_n 1, 1) := by decide +kernel
theorem dL_law_388 : decode cL_law 388 = .ok (.aload_n 0, 1) := by decide +kernel
theorem dL_law_389 : decode cL_law 389 = .ok (.iload 4, 2) := by decide +kernel
theorem dL_law_391 : decode cL_law 391 = .ok (.iconst 1, 1) := by decide +kernel
theorem dL_law_392 : decode cL_law 392 = .ok (.iadd, 1) := by decide +kernel
theorem dL_law_393 : decode cL_law 393 = .ok (.iaload, 1) := by decide +kernel
theorem dL_law_394 : decode cL_law 394 = .ok (.aload_n 0, 1) := by decide +kernel
theorem dL_law_395 : decode cL_law 395 = .ok (.iload 4, 2) := by decide +kernel
theorem dL_law_397 : decode cL_law 397 = .ok (.iconst 2, 1) := by decide +kernel
theorem dL_law_398 : decode cL_law 398 = .ok (.iadd, 1) := by decide +kernel
theorem dL_law_399 : decode cL_law 399 = .ok (.iaload, 1) := by decide +kernel
theorem dL_law_400 : decode cL_law 400 = .ok (.aload_n 0, 1) := by decide +kernel
theorem dL_law_401 : decode cL_law 401 = .ok (.iload 4, 2) := by decide +kernel
theorem dL_law_403 : decode cL_law 403 = .ok (.iconst 3, 1) := by decide +kernel
theorem dL_law_404 : decode cL_law 404 = .ok (.iadd, 1) := by decide +kernel
theorem dL_law_405 : decode cL_law 405 = .ok (.iaload, 1) := by decide +kernel
theorem dL_law_406 : decode cL_law 406 = .ok (.aload_n 3, 1) := by decide +kernel
theorem dL_law_407 : decode cL_law 407 = .ok (.invokestatic 99, 3) := by decide +kernel
theorem dL_law_410 : decode cL_law 410 = .ok (.istore 5, 2) := by decide +kernel
theorem dL_law_412 : decode cL_law 412 = .ok (.aload_n 2, 1) := by decide +kernel
theorem dL_law_413 : decode cL_law 413 = .ok (.aload_n 0, 1) := by decide +kernel
theorem dL_law_414 : decode cL_law 414 = .ok (.iload 4, 2) := by decide +kernel
theorem dL_law_416 : decode cL_law 416 = .ok (.iconst 1, 1) := by decide +kernel
theorem dL_law_417 : decode cL_law 417 = .ok (.iadd, 1) := by decide +kernel
theorem dL_law_418 : decode cL_law 418 = .ok (.iaload, 1) := by decide +kernel
theorem dL_law_419 : decode cL_law 419 = .ok (.aload_n 0, 1) := by decide +kernel
theorem dL_law_420 : decode cL_law 420 = .ok (.iload 4, 2) := by decide +kernel
theorem dL_law_422 : decode cL_law 422 = .ok (.iconst 2, 1) := by decide +kernel
theorem dL_law_423 : decode cL_law 423 = .ok (.iadd, 1) := by decide +kernel
theorem dL_law_424 : decode cL_law 424 = .ok (.iaload, 1) := by decide +kernel
theorem dL_law_425 : decode cL_law 425 = .ok (.aload_n 0, 1) := by decide +kernel
theorem dL_law_426 : decode cL_law 426 = .ok (.iload 4, 2) := by decide +kernel
theorem dL_law_428 : decode cL_law 428 = .ok (.iconst 3, 1) := by decide +kernel
theorem dL_law_429 : decode cL_law 429 = .ok (.iadd, 1) := by decide +kernel
theorem dL_law_430 : decode cL_law 430 = .ok (.iaload, 1) := by decide +kernel
theorem dL_law_431 : decode cL_law 431 = .ok (.invokevirtual 102, 3) := by decide +kernel
theorem dL_law_434 : decode cL_law 434 = .ok (.istore 6, 2) := by decide +kernel
theorem dL_law_436 : decode cL_law 436 = .ok (.aload_n 2, 1) := by decide +kernel
theorem dL_law_437 : decode cL_law 437 = .ok (.invokevirtual 84, 3) := by decide +kernel
theorem dL_law_440 : decode cL_law 440 = .ok (.iload 5, 2) := by decide +kernel
theorem dL_law_442 : decode cL_law 442 = .ok (.if_icmp .eq 5, 3) := by decide +kernel
theorem dL_law_445 : decode cL_law 445 = .ok (.iconst 0, 1) := by decide +kernel
theorem dL_law_446 : decode cL_law 446 = .ok (.ireturn, 1) := by decide +kernel
theorem dL_law_447 : decode cL_law 447 = .ok (.iload 5, 2) := by decide +kernel
theorem dL_law_449 : decode cL_law 449 = .ok (.ifCond .ne 15, 3) := by decide +kernel
theorem dL_law_452 : decode cL_law 452 = .ok (.aload_n 3, 1) := by decide +kernel
theorem dL_law_453 : decode cL_law 453 = .ok (.iconst 0, 1) := by decide +kernel
theorem dL_law_454 : decode cL_law 454 = .ok (.laload, 1) := by decide +kernel
theorem dL_law_455 : decode cL_law 455 = .ok (.iload 6, 2) := by decide +kernel
theorem dL_law_457 : decode cL_law 457 = .ok (.i2l, 1) := by decide +kernel
theorem dL_law_458 : decode cL_law 458 = .ok (.lcmp, 1) := by decide +kernel
theorem dL_law_459 : decode cL_law 459 = .ok (.ifCond .eq 5, 3) := by decide +kernel
theorem dL_law_462 : decode cL_law 462 = .ok (.iconst 0, 1) := by decide +kernel
theorem dL_law_463 : decode cL_law 463 = .ok (.ireturn, 1) := by decide +kernel
theorem dL_law_464 : decode cL_law 464 = .ok (.goto 461, 3) := by decide +kernel
theorem dL_law_467 : decode cL_law 467 = .ok (.aload_n 1, 1) := by decide +kernel
theorem dL_law_468 : decode cL_law 468 = .ok (.aload_n 3, 1) := by decide +kernel
theorem dL_law_469 : decode cL_law 469 = .ok (.invokestatic 103, 3) := by decide +kernel
theorem dL_law_472 : decode cL_law 472 = .ok (.istore 5, 2) := by decide +kernel
theorem dL_law_474 : decode cL_law 474 = .ok (.aload_n 2, 1) := by decide +kernel
theorem dL_law_475 : decode cL_law 475 = .ok (.invokevirtual 106, 3) := by decide +kernel
theorem dL_law_478 : decode cL_law 478 = .ok (.istore 6, 2) := by decide +kernel
theorem dL_law_480 : decode cL_law 480 = .ok (.aload_n 2, 1) := by decide +kernel
theorem dL_law_481 : decode cL_law 481 = .ok (.invokevirtual 84, 3) := by decide +kernel
theorem dL_law_484 : decode cL_law 484 = .ok (.iload 5, 2) := by decide +kernel
theorem dL_law_486 : decode cL_law 486 = .ok (.if_icmp .eq 5, 3) := by decide +kernel
theorem dL_law_489 : decode cL_law 489 = .ok (.iconst 0, 1) := by decide +kernel
theorem dL_law_490 : decode cL_law 490 = .ok (.ireturn, 1) := by decide +kernel
theorem dL_law_491 : decode cL_law 491 = .ok (.iload 5, 2) := by decide +kernel
theorem dL_law_493 : decode cL_law 493 = .ok (.ifCond .ne 15, 3) := by decide +kernel
theorem dL_law_496 : decode cL_law 496 = .ok (.aload_n 3, 1) := by decide +kernel
theorem dL_law_497 : decode cL_law 497 = .ok (.iconst 0, 1) := by decide +kernel
theorem dL_law_498 : decode cL_law 498 = .ok (.laload, 1) := by decide +kernel
theorem dL_law_499 : decode cL_law 499 = .ok (.iload 6, 2) := by decide +kernel
theorem dL_law_501 : decode cL_law 501 = .ok (.i2l, 1) := by decide +kernel
theorem dL_law_502 : decode cL_law 502 = .ok (.lcmp, 1) := by decide +kernel
theorem dL_law_503 : decode cL_law 503 = .ok (.ifCond .eq 5, 3) := by decide +kernel
theorem dL_law_506 : decode cL_law 506 = .ok (.iconst 0, 1) := by decide +kernel
theorem dL_law_507 : decode cL_law 507 = .ok (.ireturn, 1) := by decide +kernel
theorem dL_law_508 : decode cL_law 508 = .ok (.goto 417, 3) := by decide +kernel
theorem dL_law_511 : decode cL_law 511 = .ok (.aload_n 1, 1) := by decide +kernel
theorem dL_law_512 : decode cL_law 512 = .ok (.aload_n 0, 1) := by decide +kernel
theorem dL_law_513 : decode cL_law 513 = .ok (.iload 4, 2) := by decide +kernel
theorem dL_law_515 : decode cL_law 515 = .ok (.iconst 1, 1) := by decide +kernel
theorem dL_law_516 : decode cL_law 516 = .ok (.iadd, 1) := by decide +kernel
theorem dL_law_517 : decode cL_law 517 = .ok (.iaload, 1) := by decide +kernel
theorem dL_law_518 : decode cL_law 518 = .ok (.invokestatic 107, 3) := by decide +kernel
theorem dL_law_521 : decode cL_law 521 = .ok (.istore 5, 2) := by decide +kernel
theorem dL_law_523 : decode cL_law 523 = .ok (.aload_n 2, 1) := by decide +kernel
theorem dL_law_524 : decode cL_law 524 = .ok (.aload_n 0, 1) := by decide +kernel
theorem dL_law_525 : decode cL_law 525 = .ok (.iload 4, 2) := by decide +kernel
theorem dL_law_527 : decode cL_law 527 = .ok (.iconst 1, 1) := by decide +kernel
theorem dL_law_528 : decode cL_law 528 = .ok (.iadd, 1) := by decide +kernel
theorem dL_law_529 : decode cL_law 529 = .ok (.iaload, 1) := by decide +kernel
theorem dL_law_530 : decode cL_law 530 = .ok (.invokevirtual 109, 3) := by decide +kernel
theorem dL_law_533 : decode cL_law 533 = .ok (.aload_n 2, 1) := by decide +kernel
theorem dL_law_534 : decode cL_law 534 = .ok (.invokevirtual 84, 3) := by decide +kernel
theorem dL_law_537 : decode cL_law 537 = .ok (.iload 5, 2) := by decide +kernel
theorem dL_law_539 : decode cL_law 539 = .ok (.if_icmp .eq 5, 3) := by decide +kernel
theorem dL_law_542 : decode cL_law 542 = .ok (.iconst 0, 1) := by decide +kernel
theorem dL_law_543 : decode cL_law 543 = .ok (.ireturn, 1) := by decide +kernel
theorem dL_law_544 : decode cL_law 544 = .ok (.goto 381, 3) := by decide +kernel
theorem dL_law_547 : decode cL_law 547 = .ok (.aload_n 1, 1) := by decide +kernel
theorem dL_law_548 : decode cL_law 548 = .ok (.aload_n 0, 1) := by decide +kernel
theorem dL_law_549 : decode cL_law 549 = .ok (.iload 4, 2) := by decide +kernel
theorem dL_law_551 : decode cL_law 551 = .ok (.iconst 1, 1) := by decide +kernel
theorem dL_law_552 : decode cL_law 552 = .ok (.iadd, 1) := by decide +kernel
theorem dL_law_553 : decode cL_law 553 = .ok (.iaload, 1) := by decide +kernel
theorem dL_law_554 : decode cL_law 554 = .ok (.invokestatic 110, 3) := by decide +kernel
theorem dL_law_557 : decode cL_law 557 = .ok (.istore 5, 2) := by decide +kernel
theorem dL_law_559 : decode cL_law 559 = .ok (.aload_n 2, 1) := by decide +kernel
theorem dL_law_560 : decode cL_law 560 = .ok (.aload_n 0, 1) := by decide +kernel
theorem dL_law_561 : decode cL_law 561 = .ok (.iload 4, 2) := by decide +kernel
theorem dL_law_563 : decode cL_law 563 = .ok (.iconst 1, 1) := by decide +kernel
theorem dL_law_564 : decode cL_law 564 = .ok (.iadd, 1) := by decide +kernel
theorem dL_law_565 : decode cL_law 565 = .ok (.iaload, 1) := by decide +kernel
theorem dL_law_566 : decode cL_law 566 = .ok (.invokevirtual 112, 3) := by decide +kernel
theorem dL_law_569 : decode cL_law 569 = .ok (.aload_n 2, 1) := by decide +kernel
theorem dL_law_570 : decode cL_law 570 = .ok (.invokevirtual 84, 3) := by decide +kernel
theorem dL_law_573 : decode cL_law 573 = .ok (.iload 5, 2) := by decide +kernel
theorem dL_law_575 : decode cL_law 575 = .ok (.if_icmp .eq 5, 3) := by decide +kernel
theorem dL_law_578 : decode cL_law 578 = .ok (.iconst 0, 1) := by decide +kernel
theorem dL_law_579 : decode cL_law 579 = .ok (.ireturn, 1) := by decide +kernel
theorem dL_law_580 : decode cL_law 580 = .ok (.goto 345, 3) := by decide +kernel
theorem dL_law_583 : decode cL_law 583 = .ok (.aload_n 1, 1) := by decide +kernel
theorem dL_law_584 : decode cL_law 584 = .ok (.aload_n 0, 1) := by decide +kernel
theorem dL_law_585 : decode cL_law 585 = .ok (.iload 4, 2) := by decide +kernel
theorem dL_law_587 : decode cL_law 587 = .ok (.iconst 1, 1) := by decide +kernel
theorem dL_law_588 : decode cL_law 588 = .ok (.iadd, 1) := by decide +kernel
theorem dL_law_589 : decode cL_law 589 = .ok (.iaload, 1) := by decide +kernel
theorem dL_law_590 : decode cL_law 590 = .ok (.aload_n 0, 1) := by decide +kernel
theorem dL_law_591 : decode cL_law 591 = .ok (.iload 4, 2) := by decide +kernel
theorem dL_law_593 : decode cL_law 593 = .ok (.iconst 2, 1) := by decide +kernel
theorem dL_law_594 : decode cL_law 594 = .ok (.iadd, 1) := by decide +kernel
theorem dL_law_595 : decode cL_law 595 = .ok (.iaload, 1) := by decide +kernel
theorem dL_law_596 : decode cL_law 596 = .ok (.ifCond .eq 7, 3) := by decide +kernel
theorem dL_law_599 : decode cL_law 599 = .ok (.iconst 1, 1) := by decide +kernel
theorem dL_law_600 : decode cL_law 600 = .ok (.goto 4, 3) := by decide +kernel
theorem dL_law_603 : decode cL_law 603 = .ok (.iconst 0, 1) := by decide +kernel
theorem dL_law_604 : decode cL_law 604 = .ok (.aload_n 3, 1) := by decide +kernel
theorem dL_law_605 : decode cL_law 605 = .ok (.invokestatic 113, 3) := by decide +kernel
theorem dL_law_608 : decode cL_law 608 = .ok (.istore 5, 2) := by decide +kernel
theorem dL_law_610 : decode cL_law 610 = .ok (.aload_n 2, 1) := by decide +kernel
theorem dL_law_611 : decode cL_law 611 = .ok (.aload_n 0, 1) := by decide +kernel
theorem dL_law_612 : decode cL_law 612 = .ok (.iload 4, 2) := by decide +kernel
theorem dL_law_614 : decode cL_law 614 = .ok (.iconst 1, 1) := by decide +kernel
theorem dL_law_615 : decode cL_law 615 = .ok (.iadd, 1) := by decide +kernel
theorem dL_law_616 : decode cL_law 616 = .ok (.iaload, 1) := by decide +kernel
theorem dL_law_617 : decode cL_law 617 = .ok (.aload_n 0, 1) := by decide +kernel
theorem dL_law_618 : decode cL_law 618 = .ok (.iload 4, 2) := by decide +kernel
theorem dL_law_620 : decode cL_law 620 = .ok (.iconst 2, 1) := by decide +kernel
theorem dL_law_621 : decode cL_law 621 = .ok (.iadd, 1) := by decide +kernel
theorem dL_law_622 : decode cL_law 622 = .ok (.iaload, 1) := by decide +kernel
theorem dL_law_623 : decode cL_law 623 = .ok (.ifCond .eq 7, 3) := by decide +kernel
theorem dL_law_626 : decode cL_law 626 = .ok (.iconst 1, 1) := by decide +kernel
theorem dL_law_627 : decode cL_law 627 = .ok (.goto 4, 3) := by decide +kernel
theorem dL_law_630 : decode cL_law 630 = .ok (.iconst 0, 1) := by decide +kernel
theorem dL_law_631 : decode cL_law 631 = .ok (.invokevirtual 116, 3) := by decide +kernel
theorem dL_law_634 : decode cL_law 634 = .ok (.istore 6, 2) := by decide +kernel
theorem dL_law_636 : decode cL_law 636 = .ok (.aload_n 2, 1) := by decide +kernel
theorem dL_law_637 : decode cL_law 637 = .ok (.invokevirtual 84, 3) := by decide +kernel
theorem dL_law_640 : decode cL_law 640 = .ok (.iload 5, 2) := by decide +kernel
theorem dL_law_642 : decode cL_law 642 = .ok (.if_icmp .eq 5, 3) := by decide +kernel
theorem dL_law_645 : decode cL_law 645 = .ok (.iconst 0, 1) := by decide +kernel
theorem dL_law_646 : decode cL_law 646 = .ok (.ireturn, 1) := by decide +kernel
theorem dL_law_647 : decode cL_law 647 = .ok (.iload 5, 2) := by decide +kernel
theorem dL_law_649 : decode cL_law 649 = .ok (.ifCond .ne 22, 3) := by decide +kernel
theorem dL_law_652 : decode cL_law 652 = .ok (.aload_n 3, 1) := by decide +kernel
theorem dL_law_653 : decode cL_law 653 = .ok (.iconst 0, 1) := by decide +kernel
theorem dL_law_654 : decode cL_law 654 = .ok (.laload, 1) := by decide +kernel
theorem dL_law_655 : decode cL_law 655 = .ok (.iload 6, 2) := by decide +kernel
theorem dL_law_657 : decode cL_law 657 = .ok (.ifCond .eq 7, 3) := by decide +kernel
theorem dL_law_660 : decode cL_law 660 = .ok (.lconst 1, 1) := by decide +kernel
theorem dL_law_661 : decode cL_law 661 = .ok (.goto 4, 3) := by decide +kernel
theorem dL_law_664 : decode cL_law 664 = .ok (.lconst 0, 1) := by decide +kernel
theorem dL_law_665 : decode cL_law 665 = .ok (.lcmp, 1) := by decide +kernel
theorem dL_law_666 : decode cL_law 666 = .ok (.ifCond .eq 5, 3) := by decide +kernel
theorem dL_law_669 : decode cL_law 669 = .ok (.iconst 0, 1) := by decide +kernel
theorem dL_law_670 : decode cL_law 670 = .ok (.ireturn, 1) := by decide +kernel
theorem dL_law_671 : decode cL_law 671 = .ok (.goto 254, 3) := by decide +kernel
theorem dL_law_674 : decode cL_law 674 = .ok (.aload_n 1, 1) := by decide +kernel
theorem dL_law_675 : decode cL_law 675 = .ok (.aload_n 0, 1) := by decide +kernel
theorem dL_law_676 : decode cL_law 676 = .ok (.iload 4, 2) := by decide +kernel
theorem dL_law_678 : decode cL_law 678 = .ok (.iconst 1, 1) := by decide +kernel
theorem dL_law_679 : decode cL_law 679 = .ok (.iadd, 1) := by decide +kernel
theorem dL_law_680 : decode cL_law 680 = .ok (.iaload, 1) := by decide +kernel
theorem dL_law_681 : decode cL_law 681 = .ok (.invokestatic 117, 3) := by decide +kernel
theorem dL_law_684 : decode cL_law 684 = .ok (.istore 5, 2) := by decide +kernel
theorem dL_law_686 : decode cL_law 686 = .ok (.aload_n 2, 1) := by decide +kernel
theorem dL_law_687 : decode cL_law 687 = .ok (.aload_n 0, 1) := by decide +kernel
theorem dL_law_688 : decode cL_law 688 = .ok (.iload 4, 2) := by decide +kernel
theorem dL_law_690 : decode cL_law 690 = .ok (.iconst 1, 1) := by decide +kernel
theorem dL_law_691 : decode cL_law 691 = .ok (.iadd, 1) := by decide +kernel
theorem dL_law_692 : decode cL_law 692 = .ok (.iaload, 1) := by decide +kernel
theorem dL_law_693 : decode cL_law 693 = .ok (.invokevirtual 119, 3) := by decide +kernel
theorem dL_law_696 : decode cL_law 696 = .ok (.aload_n 2, 1) := by decide +kernel
theorem dL_law_697 : decode cL_law 697 = .ok (.invokevirtual 84, 3) := by decide +kernel
theorem dL_law_700 : decode cL_law 700 = .ok (.iload 5, 2) := by decide +kernel
theorem dL_law_702 : decode cL_law 702 = .ok (.if_icmp .eq 5, 3) := by decide +kernel
theorem dL_law_705 : decode cL_law 705 = .ok (.iconst 0, 1) := by decide +kernel
theorem dL_law_706 : decode cL_law 706 = .ok (.ireturn, 1) := by decide +kernel
theorem dL_law_707 : decode cL_law 707 = .ok (.goto 218, 3) := by decide +kernel
theorem dL_law_710 : decode cL_law 710 = .ok (.aload_n 1, 1) := by decide +kernel
theorem dL_law_711 : decode cL_law 711 = .ok (.invokestatic 120, 3) := by decide +kernel
theorem dL_law_714 : decode cL_law 714 = .ok (.istore 5, 2) := by decide +kernel
theorem dL_law_716 : decode cL_law 716 = .ok (.aload_n 2, 1) := by decide +kernel
theorem dL_law_717 : decode cL_law 717 = .ok (.invokevirtual 123, 3) := by decide +kernel
theorem dL_law_720 : decode cL_law 720 = .ok (.aload_n 2, 1) := by decide +kernel
theorem dL_law_721 : decode cL_law 721 = .ok (.invokevirtual 84, 3) := by decide +kernel
theorem dL_law_724 : decode cL_law 724 = .ok (.iload 5, 2) := by decide +kernel
theorem dL_law_726 : decode cL_law 726 = .ok (.if_icmp .eq 5, 3) := by decide +kernel
theorem dL_law_729 : decode cL_law 729 = .ok (.iconst 0, 1) := by decide +kernel
theorem dL_law_730 : decode cL_law 730 = .ok (.ireturn, 1) := by decide +kernel
theorem dL_law_731 : decode cL_law 731 = .ok (.goto 194, 3) := by decide +kernel
theorem dL_law_734 : decode cL_law 734 = .ok (.aload_n 1, 1) := by decide +kernel
theorem dL_law_735 : decode cL_law 735 = .ok (.aload_n 0, 1) := by decide +kernel
theorem dL_law_736 : decode cL_law 736 = .ok (.iload 4, 2) := by decide +kernel
theorem dL_law_738 : decode cL_law 738 = .ok (.iconst 1, 1) := by decide +kernel
theorem dL_law_739 : decode cL_law 739 = .ok (.iadd, 1) := by decide +kernel
theorem dL_law_740 : decode cL_law 740 = .ok (.iaload, 1) := by decide +kernel
theorem dL_law_741 : decode cL_law 741 = .ok (.aload_n 3, 1) := by decide +kernel
theorem dL_law_742 : decode cL_law 742 = .ok (.invokestatic 124, 3) := by decide +kernel
theorem dL_law_745 : decode cL_law 745 = .ok (.istore 5, 2) := by decide +kernel
theorem dL_law_747 : decode cL_law 747 = .ok (.aload_n 2, 1) := by decide +kernel
theorem dL_law_748 : decode cL_law 748 = .ok (.aload_n 0, 1) := by decide +kernel
theorem dL_law_749 : decode cL_law 749 = .ok (.iload 4, 2) := by decide +kernel
theorem dL_law_751 : decode cL_law 751 = .ok (.iconst 1, 1) := by decide +kernel
theorem dL_law_752 : decode cL_law 752 = .ok (.iadd, 1) := by decide +kernel
theorem dL_law_753 : decode cL_law 753 = .ok (.iaload, 1) := by decide +kernel
theorem dL_law_754 : decode cL_law 754 = .ok (.invokevirtual 127, 3) := by decide +kernel
theorem dL_law_757 : decode cL_law 757 = .ok (.istore 6, 2) := by decide +kernel
theorem dL_law_759 : decode cL_law 759 = .ok (.aload_n 2, 1) := by decide +kernel
theorem dL_law_760 : decode cL_law 760 = .ok (.invokevirtual 84, 3) := by decide +kernel
theorem dL_law_763 : decode cL_law 763 = .ok (.iload 5, 2) := by decide +kernel
theorem dL_law_765 : decode cL_law 765 = .ok (.if_icmp .eq 5, 3) := by decide +kernel
theorem dL_law_768 : decode cL_law 768 = .ok (.iconst 0, 1) := by decide +kernel
theorem dL_law_769 : decode cL_law 769 = .ok (.ireturn, 1) := by decide +kernel
theorem dL_law_770 : decode cL_law 770 = .ok (.iload 5, 2) := by decide +kernel
theorem dL_law_772 : decode cL_law 772 = .ok (.ifCond .ne 15, 3) := by decide +kernel
theorem dL_law_775 : decode cL_law 775 = .ok (.aload_n 3, 1) := by decide +kernel
theorem dL_law_776 : decode cL_law 776 = .ok (.iconst 0, 1) := by decide +kernel
theorem dL_law_777 : decode cL_law 777 = .ok (.laload, 1) := by decide +kernel
theorem dL_law_778 : decode cL_law 778 = .ok (.iload 6, 2) := by decide +kernel
theorem dL_law_780 : decode cL_law 780 = .ok (.i2l, 1) := by decide +kernel
theorem dL_law_781 : decode cL_law 781 = .ok (.lcmp, 1) := by decide +kernel
theorem dL_law_782 : decode cL_law 782 = .ok (.ifCond .eq 5, 3) := by decide +kernel
theorem dL_law_785 : decode cL_law 785 = .ok (.iconst 0, 1) := by decide +kernel
theorem dL_law_786 : decode cL_law 786 = .ok (.ireturn, 1) := by decide +kernel
theorem dL_law_787 : decode cL_law 787 = .ok (.goto 138, 3) := by decide +kernel
theorem dL_law_790 : decode cL_law 790 = .ok (.aload_n 1, 1) := by decide +kernel
theorem dL_law_791 : decode cL_law 791 = .ok (.aload_n 0, 1) := by decide +kernel
theorem dL_law_792 : decode cL_law 792 = .ok (.iload 4, 2) := by decide +kernel
theorem dL_law_794 : decode cL_law 794 = .ok (.iconst 1, 1) := by decide +kernel
theorem dL_law_795 : decode cL_law 795 = .ok (.iadd, 1) := by decide +kernel
theorem dL_law_796 : decode cL_law 796 = .ok (.iaload, 1) := by decide +kernel
theorem dL_law_797 : decode cL_law 797 = .ok (.aload_n 0, 1) := by decide +kernel
theorem dL_law_798 : decode cL_law 798 = .ok (.iload 4, 2) := by decide +kernel
theorem dL_law_800 : decode cL_law 800 = .ok (.iconst 2, 1) := by decide +kernel
theorem dL_law_801 : decode cL_law 801 = .ok (.iadd, 1) := by decide +kernel
theorem dL_law_802 : decode cL_law 802 = .ok (.iaload, 1) := by decide +kernel
theorem dL_law_803 : decode cL_law 803 = .ok (.aload_n 0, 1) := by decide +kernel
theorem dL_law_804 : decode cL_law 804 = .ok (.iload 4, 2) := by decide +kernel
theorem dL_law_806 : decode cL_law 806 = .ok (.iconst 3, 1) := by decide +kernel
theorem dL_law_807 : decode cL_law 807 = .ok (.iadd, 1) := by decide +kernel
theorem dL_law_808 : decode cL_law 808 = .ok (.iaload, 1) := by decide +kernel
theorem dL_law_809 : decode cL_law 809 = .ok (.aload_n 3, 1) := by decide +kernel
theorem dL_law_810 : decode cL_law 810 = .ok (.invokestatic 128, 3) := by decide +kernel
theorem dL_law_813 : decode cL_law 813 = .ok (.istore 5, 2) := by decide +kernel
theorem dL_law_815 : decode cL_law 815 = .ok (.aload_n 2, 1) := by decide +kernel
theorem dL_law_816 : decode cL_law 816 = .ok (.aload_n 0, 1) := by decide +kernel
theorem dL_law_817 : decode cL_law 817 = .ok (.iload 4, 2) := by decide +kernel
theorem dL_law_819 : decode cL_law 819 = .ok (.iconst 1, 1) := by decide +kernel
theorem dL_law_820 : decode cL_law 820 = .ok (.iadd, 1) := by decide +kernel
theorem dL_law_821 : decode cL_law 821 = .ok (.iaload, 1) := by decide +kernel
theorem dL_law_822 : decode cL_law 822 = .ok (.aload_n 0, 1) := by decide +kernel
theorem dL_law_823 : decode cL_law 823 = .ok (.iload 4, 2) := by decide +kernel
theorem dL_law_825 : decode cL_law 825 = .ok (.iconst 2, 1) := by decide +kernel
theorem dL_law_826 : decode cL_law 826 = .ok (.iadd, 1) := by decide +kernel
theorem dL_law_827 : decode cL_law 827 = .ok (.iaload, 1) := by decide +kernel
theorem dL_law_828 : decode cL_law 828 = .ok (.aload_n 0, 1) := by decide +kernel
theorem dL_law_829 : decode cL_law 829 = .ok (.iload 4, 2) := by decide +kernel
theorem dL_law_831 : decode cL_law 831 = .ok (.iconst 3, 1) := by decide +kernel
theorem dL_law_832 : decode cL_law 832 = .ok (.iadd, 1) := by decide +kernel
theorem dL_law_833 : decode cL_law 833 = .ok (.iaload, 1) := by decide +kernel
theorem dL_law_834 : decode cL_law 834 = .ok (.invokevirtual 130, 3) := by decide +kernel
theorem dL_law_837 : decode cL_law 837 = .ok (.lstore 6, 2) := by decide +kernel
theorem dL_law_839 : decode cL_law 839 = .ok (.aload_n 2, 1) := by decide +kernel
theorem dL_law_840 : decode cL_law 840 = .ok (.invokevirtual 84, 3) := by decide +kernel
theorem dL_law_843 : decode cL_law 843 = .ok (.iload 5, 2) := by decide +kernel
theorem dL_law_845 : decode cL_law 845 = .ok (.if_icmp .eq 5, 3) := by decide +kernel
theorem dL_law_848 : decode cL_law 848 = .ok (.iconst 0, 1) := by decide +kernel
theorem dL_law_849 : decode cL_law 849 = .ok (.ireturn, 1) := by decide +kernel
theorem dL_law_850 : decode cL_law 850 = .ok (.iload 5, 2) := by decide +kernel
theorem dL_law_852 : decode cL_law 852 = .ok (.ifCond .ne 14, 3) := by decide +kernel
theorem dL_law_855 : decode cL_law 855 = .ok (.aload_n 3, 1) := by decide +kernel
theorem dL_law_856 : decode cL_law 856 = .ok (.iconst 0, 1) := by decide +kernel
theorem dL_law_857 : decode cL_law 857 = .ok (.laload, 1) := by decide +kernel
theorem dL_law_858 : decode cL_law 858 = .ok (.lload 6, 2) := by decide +kernel
theorem dL_law_860 : decode cL_law 860 = .ok (.lcmp, 1) := by decide +kernel
theorem dL_law_861 : decode cL_law 861 = .ok (.ifCond .eq 5, 3) := by decide +kernel
theorem dL_law_864 : decode cL_law 864 = .ok (.iconst 0, 1) := by decide +kernel
theorem dL_law_865 : decode cL_law 865 = .ok (.ireturn, 1) := by decide +kernel
theorem dL_law_866 : decode cL_law 866 = .ok (.goto 59, 3) := by decide +kernel
theorem dL_law_869 : decode cL_law 869 = .ok (.aload_n 1, 1) := by decide +kernel
theorem dL_law_870 : decode cL_law 870 = .ok (.aload_n 0, 1) := by decide +kernel
theorem dL_law_871 : decode cL_law 871 = .ok (.iload 4, 2) := by decide +kernel
theorem dL_law_873 : decode cL_law 873 = .ok (.iconst 1, 1) := by decide +kernel
theorem dL_law_874 : decode cL_law 874 = .ok (.iadd, 1) := by decide +kernel
theorem dL_law_875 : decode cL_law 875 = .ok (.iaload, 1) := by decide +kernel
theorem dL_law_876 : decode cL_law 876 = .ok (.aload_n 3, 1) := by decide +kernel
theorem dL_law_877 : decode cL_law 877 = .ok (.invokestatic 131, 3) := by decide +kernel
theorem dL_law_880 : decode cL_law 880 = .ok (.istore 5, 2) := by decide +kernel
theorem dL_law_882 : decode cL_law 882 = .ok (.aload_n 2, 1) := by decide +kernel
theorem dL_law_883 : decode cL_law 883 = .ok (.aload_n 0, 1) := by decide +kernel
theorem dL_law_884 : decode cL_law 884 = .ok (.iload 4, 2) := by decide +kernel
theorem dL_law_886 : decode cL_law 886 = .ok (.iconst 1, 1) := by decide +kernel
theorem dL_law_887 : decode cL_law 887 = .ok (.iadd, 1) := by decide +kernel
theorem dL_law_888 : decode cL_law 888 = .ok (.iaload, 1) := by decide +kernel
theorem dL_law_889 : decode cL_law 889 = .ok (.invokevirtual 133, 3) := by decide +kernel
theorem dL_law_892 : decode cL_law 892 = .ok (.istore 6, 2) := by decide +kernel
theorem dL_law_894 : decode cL_law 894 = .ok (.aload_n 2, 1) := by decide +kernel
theorem dL_law_895 : decode cL_law 895 = .ok (.invokevirtual 84, 3) := by decide +kernel
theorem dL_law_898 : decode cL_law 898 = .ok (.iload 5, 2) := by decide +kernel
theorem dL_law_900 : decode cL_law 900 = .ok (.if_icmp .eq 5, 3) := by decide +kernel
theorem dL_law_903 : decode cL_law 903 = .ok (.iconst 0, 1) := by decide +kernel
theorem dL_law_904 : decode cL_law 904 = .ok (.ireturn, 1) := by decide +kernel
theorem dL_law_905 : decode cL_law 905 = .ok (.iload 5, 2) := by decide +kernel
theorem dL_law_907 : decode cL_law 907 = .ok (.ifCond .ne 15, 3) := by decide +kernel
theorem dL_law_910 : decode cL_law 910 = .ok (.aload_n 3, 1) := by decide +kernel
theorem dL_law_911 : decode cL_law 911 = .ok (.iconst 0, 1) := by decide +kernel
theorem dL_law_912 : decode cL_law 912 = .ok (.laload, 1) := by decide +kernel
theorem dL_law_913 : decode cL_law 913 = .ok (.iload 6, 2) := by decide +kernel
theorem dL_law_915 : decode cL_law 915 = .ok (.i2l, 1) := by decide +kernel
theorem dL_law_916 : decode cL_law 916 = .ok (.lcmp, 1) := by decide +kernel
theorem dL_law_917 : decode cL_law 917 = .ok (.ifCond .eq 5, 3) := by decide +kernel
theorem dL_law_920 : decode cL_law 920 = .ok (.iconst 0, 1) := by decide +kernel
theorem dL_law_921 : decode cL_law 921 = .ok (.ireturn, 1) := by decide +kernel
theorem dL_law_922 : decode cL_law 922 = .ok (.goto 3, 3) := by decide +kernel
theorem dL_law_925 : decode cL_law 925 = .ok (.iinc 4 5, 3) := by decide +kernel
theorem dL_law_928 : decode cL_law 928 = .ok (.goto (-905), 3) := by decide +kernel
theorem dL_law_931 : decode cL_law 931 = .ok (.iconst 1, 1) := by decide +kernel
theorem dL_law_932 : decode cL_law 932 = .ok (.ireturn, 1) := by decide +kernel
