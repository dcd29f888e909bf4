theorem dX6_remove_44 : decode cX6_remove 44 = .ok (.invokevirtual 92, 3) := by decide +kernel
theorem dX6_remove_47 : decode cX6_remove 47 = .ok (.aload_n 0, 1) := by decide +kernel
theorem dX6_remove_48 : decode cX6_remove 48 = .ok (.getfield 40, 3) := by decide +kernel
theorem dX6_remove_51 : decode cX6_remove 51 = .ok (.iconst 2, 1) := by decide +kernel
theorem dX6_remove_52 : decode cX6_remove 52 = .ok (.iload_n 1, 1) := by decide +kernel
theorem dX6_remove_53 : decode cX6_remove 53 = .ok (.iconst 0, 1) := by decide +kernel
theorem dX6_remove_54 : decode cX6_remove 54 = .ok (.lconst 0, 1) := by decide +kernel
theorem dX6_remove_55 : decode cX6_remove 55 = .ok (.invokevirtual 95, 3) := by decide +kernel
theorem dX6_remove_58 : decode cX6_remove 58 = .ok (.aload_n 0, 1) := by decide +kernel
theorem dX6_remove_59 : decode cX6_remove 59 = .ok (.getfield 33, 3) := by decide +kernel
theorem dX6_remove_62 : decode cX6_remove 62 = .ok (.iload_n 1, 1) := by decide +kernel
theorem dX6_remove_63 : decode cX6_remove 63 = .ok (.invokevirtual 111, 3) := by decide +kernel
theorem dX6_remove_66 : decode cX6_remove 66 = .ok (.return_, 1) := by decide +kernel
theorem dX6_size_0 : decode cX6_size 0 = .ok (.aload_n 0, 1) := by decide +kernel
theorem dX6_size_1 : decode cX6_size 1 = .ok (.iload_n 1, 1) := by decide +kernel
theorem dX6_size_2 : decode cX6_size 2 = .ok (.iload_n 2, 1) := by decide +kernel
theorem dX6_size_3 : decode cX6_size 3 = .ok (.invokevirtual 115, 3) := by decide +kernel
theorem dX6_size_6 : decode cX6_size 6 = .ok (.aload_n 0, 1) := by decide +kernel
theorem dX6_size_7 : decode cX6_size 7 = .ok (.iload_n 1, 1) := by decide +kernel
theorem dX6_size_8 : decode cX6_size 8 = .ok (.iload_n 2, 1) := by decide +kernel
theorem dX6_size_9 : decode cX6_size 9 = .ok (.invokevirtual 118, 3) := by decide +kernel
theorem dX6_size_12 : decode cX6_size 12 = .ok (.ireturn, 1) := by decide +kernel
theorem dX6_octet_0 : decode cX6_octet 0 = .ok (.aload_n 0, 1) := by decide +kernel
theorem dX6_octet_1 : decode cX6_octet 1 = .ok (.iload_n 1, 1) := by decide +kernel
theorem dX6_octet_2 : decode cX6_octet 2 = .ok (.iload_n 2, 1) := by decide +kernel
theorem dX6_octet_3 : decode cX6_octet 3 = .ok (.invokevirtual 115, 3) := by decide +kernel
theorem dX6_octet_6 : decode cX6_octet 6 = .ok (.iload_n 3, 1) := by decide +kernel
theorem dX6_octet_7 : decode cX6_octet 7 = .ok (.ifCond .lt 13, 3) := by decide +kernel
theorem dX6_octet_10 : decode cX6_octet 10 = .ok (.iload_n 3, 1) := by decide +kernel
theorem dX6_octet_11 : decode cX6_octet 11 = .ok (.aload_n 0, 1) := by decide +kernel
theorem dX6_octet_12 : decode cX6_octet 12 = .ok (.iload_n 1, 1) := by decide +kernel
theorem dX6_octet_13 : decode cX6_octet 13 = .ok (.iload_n 2, 1) := by decide +kernel
theorem dX6_octet_14 : decode cX6_octet 14 = .ok (.invokevirtual 118, 3) := by decide +kernel
theorem dX6_octet_17 : decode cX6_octet 17 = .ok (.if_icmp .lt 13, 3) := by decide +kernel
theorem dX6_octet_20 : decode cX6_octet 20 = .ok (.new 121, 3) := by decide +kernel
theorem dX6_octet_23 : decode cX6_octet 23 = .ok (.dup, 1) := by decide +kernel
theorem dX6_octet_24 : decode cX6_octet 24 = .ok (.ldc 123, 2) := by decide +kernel
theorem dX6_octet_26 : decode cX6_octet 26 = .ok (.invokespecial 125, 3) := by decide +kernel
theorem dX6_octet_29 : decode cX6_octet 29 = .ok (.athrow, 1) := by decide +kernel
theorem dX6_octet_30 : decode cX6_octet 30 = .ok (.iload_n 1, 1) := by decide +kernel
theorem dX6_octet_31 : decode cX6_octet 31 = .ok (.iconst (-1), 1) := by decide +kernel
theorem dX6_octet_32 : decode cX6_octet 32 = .ok (.if_icmp .ne 13, 3) := by decide +kernel
theorem dX6_octet_35 : decode cX6_octet 35 = .ok (.aload_n 0, 1) := by decide +kernel
theorem dX6_octet_36 : decode cX6_octet 36 = .ok (.getfield 33, 3) := by decide +kernel
theorem dX6_octet_39 : decode cX6_octet 39 = .ok (.iload_n 2, 1) := by decide +kernel
theorem dX6_octet_40 : decode cX6_octet 40 = .ok (.iload_n 3, 1) := by decide +kernel
theorem dX6_octet_41 : decode cX6_octet 41 = .ok (.invokevirtual 126, 3) := by decide +kernel
theorem dX6_octet_44 : decode cX6_octet 44 = .ok (.ireturn, 1) := by decide +kernel
theorem dX6_octet_45 : decode cX6_octet 45 = .ok (.aload_n 0, 1) := by decide +kernel
theorem dX6_octet_46 : decode cX6_octet 46 = .ok (.getfield 12, 3) := by decide +kernel
theorem dX6_octet_49 : decode cX6_octet 49 = .ok (.aload_n 0, 1) := by decide +kernel
theorem dX6_octet_50 : decode cX6_octet 50 = .ok (.iload_n 1, 1) := by decide +kernel
theorem dX6_octet_51 : decode cX6_octet 51 = .ok (.iload_n 2, 1) := by decide +kernel
theorem dX6_octet_52 : decode cX6_octet 52 = .ok (.invokevirtual 129, 3) := by decide +kernel
theorem dX6_octet_55 : decode cX6_octet 55 = .ok (.iconst 1, 1) := by decide +kernel
theorem dX6_octet_56 : decode cX6_octet 56 = .ok (.iload_n 3, 1) := by decide +kernel
theorem dX6_octet_57 : decode cX6_octet 57 = .ok (.bipush 32, 2) := by decide +kernel
theorem dX6_octet_59 : decode cX6_octet 59 = .ok (.idiv, 1) := by decide +kernel
theorem dX6_octet_60 : decode cX6_octet 60 = .ok (.iadd, 1) := by decide +kernel
theorem dX6_octet_61 : decode cX6_octet 61 = .ok (.invokevirtual 132, 3) := by decide +kernel
theorem dX6_octet_64 : decode cX6_octet 64 = .ok (.istore 4, 2) := by decide +kernel
theorem dX6_octet_66 : decode cX6_octet 66 = .ok (.aload_n 0, 1) := by decide +kernel
theorem dX6_octet_67 : decode cX6_octet 67 = .ok (.getfield 12, 3) := by decide +kernel
theorem dX6_octet_70 : decode cX6_octet 70 = .ok (.iload 4, 2) := by decide +kernel
theorem dX6_octet_72 : decode cX6_octet 72 = .ok (.iload_n 3, 1) := by decide +kernel
theorem dX6_octet_73 : decode cX6_octet 73 = .ok (.bipush 32, 2) := by decide +kernel
theorem dX6_octet_75 : decode cX6_octet 75 = .ok (.irem, 1) := by decide +kernel
theorem dX6_octet_76 : decode cX6_octet 76 = .ok (.bipush 8, 2) := by decide +kernel
theorem dX6_octet_78 : decode cX6_octet 78 = .ok (.idiv, 1) := by decide +kernel
theorem dX6_octet_79 : decode cX6_octet 79 = .ok (.invokevirtual 135, 3) := by decide +kernel
theorem dX6_octet_82 : decode cX6_octet 82 = .ok (.iload_n 3, 1) := by decide +kernel
theorem dX6_octet_83 : decode cX6_octet 83 = .ok (.bipush 8, 2) := by decide +kernel
theorem dX6_octet_85 : decode cX6_octet 85 = .ok (.irem, 1) := by decide +kernel
theorem dX6_octet_86 : decode cX6_octet 86 = .ok (.invokestatic 139, 3) := by decide +kernel
theorem dX6_octet_89 : decode cX6_octet 89 = .ok (.ireturn, 1) := by decide +kernel
theorem dX6_point_0 : decode cX6_point 0 = .ok (.aload_n 0, 1) := by decide +kernel
theorem dX6_point_1 : decode cX6_point 1 = .ok (.invokevirtual 85, 3) := by decide +kernel
theorem dX6_point_4 : decode cX6_point 4 = .ok (.aload_n 0, 1) := by decide +kernel
theorem dX6_point_5 : decode cX6_point 5 = .ok (.invokevirtual 92, 3) := by decide +kernel
theorem dX6_point_8 : decode cX6_point 8 = .ok (.aload_n 0, 1) := by decide +kernel
theorem dX6_point_9 : decode cX6_point 9 = .ok (.getfield 19, 3) := by decide +kernel
theorem dX6_point_12 : decode cX6_point 12 = .ok (.invokevirtual 143, 3) := by decide +kernel
theorem dX6_point_15 : decode cX6_point 15 = .ok (.ireturn, 1) := by decide +kernel
theorem dX6_snapshot_0 : decode cX6_snapshot 0 = .ok (.iload_n 1, 1) := by decide +kernel
theorem dX6_snapshot_1 : decode cX6_snapshot 1 = .ok (.ifCond .lt 8, 3) := by decide +kernel
theorem dX6_snapshot_4 : decode cX6_snapshot 4 = .ok (.iload_n 1, 1) := by decide +kernel
theorem dX6_snapshot_5 : decode cX6_snapshot 5 = .ok (.iconst 5, 1) := by decide +kernel
theorem dX6_snapshot_6 : decode cX6_snapshot 6 = .ok (.if_icmp .lt 13, 3) := by decide +kernel
theorem dX6_snapshot_9 : decode cX6_snapshot 9 = .ok (.new 78, 3) := by decide +kernel
theorem dX6_snapshot_12 : decode cX6_snapshot 12 = .ok (.dup, 1) := by decide +kernel
theorem dX6_snapshot_13 : decode cX6_snapshot 13 = .ok (.ldc 147, 2) := by decide +kernel
theorem dX6_snapshot_15 : decode cX6_snapshot 15 = .ok (.invokespecial 82, 3) := by decide +kernel
theorem dX6_snapshot_18 : decode cX6_snapshot 18 = .ok (.athrow, 1) := by decide +kernel
theorem dX6_snapshot_19 : decode cX6_snapshot 19 = .ok (.aload_n 0, 1) := by decide +kernel
theorem dX6_snapshot_20 : decode cX6_snapshot 20 = .ok (.invokevirtual 85, 3) := by decide +kernel
theorem dX6_snapshot_23 : decode cX6_snapshot 23 = .ok (.aload_n 0, 1) := by decide +kernel
theorem dX6_snapshot_24 : decode cX6_snapshot 24 = .ok (.invokevirtual 92, 3) := by decide +kernel
theorem dX6_snapshot_27 : decode cX6_snapshot 27 = .ok (.aload_n 0, 1) := by decide +kernel
theorem dX6_snapshot_28 : decode cX6_snapshot 28 = .ok (.getfield 19, 3) := by decide +kernel
theorem dX6_snapshot_31 : decode cX6_snapshot 31 = .ok (.iload_n 1, 1) := by decide +kernel
theorem dX6_snapshot_32 : decode cX6_snapshot 32 = .ok (.invokevirtual 149, 3) := by decide +kernel
theorem dX6_snapshot_35 : decode cX6_snapshot 35 = .ok (.aload_n 0, 1) := by decide +kernel
theorem dX6_snapshot_36 : decode cX6_snapshot 36 = .ok (.invokevirtual 152, 3) := by decide +kernel
theorem dX6_snapshot_39 : decode cX6_snapshot 39 = .ok (.return_, 1) := by decide +kernel
theorem dX6_drop_0 : decode cX6_drop 0 = .ok (.aload_n 0, 1) := by decide +kernel
theorem dX6_drop_1 : decode cX6_drop 1 = .ok (.getfield 19, 3) := by decide +kernel
theorem dX6_drop_4 : decode cX6_drop 4 = .ok (.iload_n 1, 1) := by decide +kernel
theorem dX6_drop_5 : decode cX6_drop 5 = .ok (.invokevirtual 155, 3) := by decide +kernel
theorem dX6_drop_8 : decode cX6_drop 8 = .ok (.ifCond .ne 13, 3) := by decide +kernel
theorem dX6_drop_11 : decode cX6_drop 11 = .ok (.new 78, 3) := by decide +kernel
theorem dX6_drop_14 : decode cX6_drop 14 = .ok (.dup, 1) := by decide +kernel
theorem dX6_drop_15 : decode cX6_drop 15 = .ok (.ldc 158, 2) := by decide +kernel
theorem dX6_drop_17 : decode cX6_drop 17 = .ok (.invokespecial 82, 3) := by decide +kernel
theorem dX6_drop_20 : decode cX6_drop 20 = .ok (.athrow, 1) := by decide +kernel
theorem dX6_drop_21 : decode cX6_drop 21 = .ok (.aload_n 0, 1) := by decide +kernel
theorem dX6_drop_22 : decode cX6_drop 22 = .ok (.invokevirtual 85, 3) := by decide +kernel
theorem dX6_drop_25 : decode cX6_drop 25 = .ok (.aload_n 0, 1) := by decide +kernel
theorem dX6_drop_26 : decode cX6_drop 26 = .ok (.getfield 19, 3) := by decide +kernel
theorem dX6_drop_29 : decode cX6_drop 29 = .ok (.iload_n 1, 1) := by decide +kernel
theorem dX6_drop_30 : decode cX6_drop 30 = .ok (.invokevirtual 160, 3) := by decide +kernel
theorem dX6_drop_33 : decode cX6_drop 33 = .ok (.aload_n 0, 1) := by decide +kernel
theorem dX6_drop_34 : decode cX6_drop 34 = .ok (.invokevirtual 152, 3) := by decide +kernel
theorem dX6_drop_37 : decode cX6_drop 37 = .ok (.return_, 1) := by decide +kernel
theorem dX6_crash_0 : decode cX6_crash 0 = .ok (.iload_n 1, 1) := by decide +kernel
theorem dX6_crash_1 : decode cX6_crash 1 = .ok (.ifCond .ge 13, 3) := by decide +kernel
theorem dX6_crash_4 : decode cX6_crash 4 = .ok (.new 78, 3) := by decide +kernel
theorem dX6_crash_7 : decode cX6_crash 7 = .ok (.dup, 1) := by decide +kernel
theorem dX6_crash_8 : decode cX6_crash 8 = .ok (.ldc 163, 2) := by decide +kernel
theorem dX6_crash_10 : decode cX6_crash 10 = .ok (.invokespecial 82, 3) := by decide +kernel
theorem dX6_crash_13 : decode cX6_crash 13 = .ok (.athrow, 1) := by decide +kernel
theorem dX6_crash_14 : decode cX6_crash 14 = .ok (.aload_n 0, 1) := by decide +kernel
theorem dX6_crash_15 : decode cX6_crash 15 = .ok (.invokevirtual 85, 3) := by decide +kernel
theorem dX6_crash_18 : decode cX6_crash 18 = .ok (.iconst 0, 1) := by decide +kernel
theorem dX6_crash_19 : decode cX6_crash 19 = .ok (.istore_n 3, 1) := by decide +kernel
theorem dX6_crash_20 : decode cX6_crash 20 = .ok (.aload_n 0, 1) := by decide +kernel
theorem dX6_crash_21 : decode cX6_crash 21 = .ok (.invokevirtual 165, 3) := by decide +kernel
theorem dX6_crash_24 : decode cX6_crash 24 = .ok (.ifCond .eq 25, 3) := by decide +kernel
theorem dX6_crash_27 : decode cX6_crash 27 = .ok (.iload_n 1, 1) := by decide +kernel
theorem dX6_crash_28 : decode cX6_crash 28 = .ok (.aload_n 0, 1) := by decide +kernel
theorem dX6_crash_29 : decode cX6_crash 29 = .ok (.getfield 33, 3) := by decide +kernel
theorem dX6_crash_32 : decode cX6_crash 32 = .ok (.invokevirtual 168, 3) := by decide +kernel
theorem dX6_crash_35 : decode cX6_crash 35 = .ok (.if_icmp .le 7, 3) := by decide +kernel
theorem dX6_crash_38 : decode cX6_crash 38 = .ok (.iconst 1, 1) := by decide +kernel
theorem dX6_crash_39 : decode cX6_crash 39 = .ok (.goto 4, 3) := by decide +kernel
theorem dX6_crash_42 : decode cX6_crash 42 = .ok (.iconst 0, 1) := by decide +kernel
theorem dX6_crash_43 : decode cX6_crash 43 = .ok (.istore_n 3, 1) := by decide +kernel
theorem dX6_crash_44 : decode cX6_crash 44 = .ok (.aload_n 0, 1) := by decide +kernel
theorem dX6_crash_45 : decode cX6_crash 45 = .ok (.iload_n 1, 1) := by decide +kernel
theorem dX6_crash_46 : decode cX6_crash 46 = .ok (.invokevirtual 171, 3) := by decide +kernel
theorem dX6_crash_49 : decode cX6_crash 49 = .ok (.iload_n 3, 1) := by decide +kernel
theorem dX6_crash_50 : decode cX6_crash 50 = .ok (.ifCond .ne 7, 3) := by decide +kernel
theorem dX6_crash_53 : decode cX6_crash 53 = .ok (.iload_n 2, 1) := by decide +kernel
theorem dX6_crash_54 : decode cX6_crash 54 = .ok (.ifCond .ne 10, 3) := by decide +kernel
theorem dX6_crash_57 : decode cX6_crash 57 = .ok (.aload_n 0, 1) := by decide +kernel
theorem dX6_crash_58 : decode cX6_crash 58 = .ok (.getfield 40, 3) := by decide +kernel
theorem dX6_crash_61 : decode cX6_crash 61 = .ok (.invokevirtual 59, 3) := by decide +kernel
theorem dX6_crash_64 : decode cX6_crash 64 = .ok (.aload_n 0, 1) := by decide +kernel
theorem dX6_crash_65 : decode cX6_crash 65 = .ok (.invokevirtual 174, 3) := by decide +kernel
theorem dX6_crash_68 : decode cX6_crash 68 = .ok (.iload_n 3, 1) := by decide +kernel
theorem dX6_crash_69 : decode cX6_crash 69 = .ok (.ireturn, 1) := by decide +kernel
theorem dX6_fail_0 : decode cX6_fail 0 = .ok (.iload_n 1, 1) := by decide +kernel
theorem dX6_fail_1 : decode cX6_fail 1 = .ok (.ifCond .lt 8, 3) := by decide +kernel
theorem dX6_fail_4 : decode cX6_fail 4 = .ok (.iload_n 1, 1) := by decide +kernel
theorem dX6_fail_5 : decode cX6_fail 5 = .ok (.iconst 5, 1) := by decide +kernel
theorem dX6_fail_6 : decode cX6_fail 6 = .ok (.if_icmp .lt 13, 3) := by decide +kernel
theorem dX6_fail_9 : decode cX6_fail 9 = .ok (.new 78, 3) := by decide +kernel
theorem dX6_fail_12 : decode cX6_fail 12 = .ok (.dup, 1) := by decide +kernel
theorem dX6_fail_13 : decode cX6_fail 13 = .ok (.ldc 177, 2) := by decide +kernel
theorem dX6_fail_15 : decode cX6_fail 15 = .ok (.invokespecial 82, 3) := by decide +kernel
theorem dX6_fail_18 : decode cX6_fail 18 = .ok (.athrow, 1) := by decide +kernel
theorem dX6_fail_19 : decode cX6_fail 19 = .ok (.aload_n 0, 1) := by decide +kernel
theorem dX6_fail_20 : decode cX6_fail 20 = .ok (.invokevirtual 85, 3) := by decide +kernel
theorem dX6_fail_23 : decode cX6_fail 23 = .ok (.aload_n 0, 1) := by decide +kernel
theorem dX6_fail_24 : decode cX6_fail 24 = .ok (.getfield 12, 3) := by decide +kernel
theorem dX6_fail_27 : decode cX6_fail 27 = .ok (.iload_n 1, 1) := by decide +kernel
theorem dX6_fail_28 : decode cX6_fail 28 = .ok (.invokevirtual 179, 3) := by decide +kernel
theorem dX6_fail_31 : decode cX6_fail 31 = .ok (.return_, 1) := by decide +kernel
theorem dX6_replace_0 : decode cX6_replace 0 = .ok (.aload_n 0, 1) := by decide +kernel
theorem dX6_replace_1 : decode cX6_replace 1 = .ok (.invokevirtual 85, 3) := by decide +kernel
theorem dX6_replace_4 : decode cX6_replace 4 = .ok (.aload_n 0, 1) := by decide +kernel
theorem dX6_replace_5 : decode cX6_replace 5 = .ok (.getfield 12, 3) := by decide +kernel
theorem dX6_replace_8 : decode cX6_replace 8 = .ok (.aload_n 0, 1) := by decide +kernel
theorem dX6_replace_9 : decode cX6_replace 9 = .ok (.getfield 12, 3) := by decide +kernel
theorem dX6_replace_12 : decode cX6_replace 12 = .ok (.invokevirtual 182, 3) := by decide +kernel
theorem dX6_replace_15 : decode cX6_replace 15 = .ok (.invokevirtual 185, 3) := by decide +kernel
theorem dX6_replace_18 : decode cX6_replace 18 = .ok (.ifCond .ne 13, 3) := by decide +kernel
theorem dX6_replace_21 : decode cX6_replace 21 = .ok (.new 188, 3) := by decide +kernel
theorem dX6_replace_24 : decode cX6_replace 24 = .ok (.dup, 1) := by decide +kernel
theorem dX6_replace_25 : decode cX6_replace 25 = .ok (.ldc 190, 2) := by decide +kernel
theorem dX6_replace_27 : decode cX6_replace 27 = .ok (.invokespecial 192, 3) := by decide +kernel
theorem dX6_replace_30 : decode cX6_replace 30 = .ok (.athrow, 1) := by decide +kernel
theorem dX6_replace_31 : decode cX6_replace 31 = .ok (.aload_n 0, 1) := by decide +kernel
theorem dX6_replace_32 : decode cX6_replace 32 = .ok (.getfield 12, 3) := by decide +kernel
theorem dX6_replace_35 : decode cX6_replace 35 = .ok (.invokevirtual 193, 3) := by decide +kernel
theorem dX6_replace_38 : decode cX6_replace 38 = .ok (.return_, 1) := by decide +kernel
theorem dX6_rebuild_0 : decode cX6_rebuild 0 = .ok (.iload_n 1, 1) := by decide +kernel
theorem dX6_rebuild_1 : decode cX6_rebuild 1 = .ok (.ifCond .ge 13, 3) := by decide +kernel
theorem dX6_rebuild_4 : decode cX6_rebuild 4 = .ok (.new 78, 3) := by decide +kernel
theorem dX6_rebuild_7 : decode cX6_rebuild 7 = .ok (.dup, 1) := by decide +kernel
theorem dX6_rebuild_8 : decode cX6_rebuild 8 = .ok (.ldc 196, 2) := by decide +kernel
theorem dX6_rebuild_10 : decode cX6_rebuild 10 = .ok (.invokespecial 82, 3) := by decide +kernel
theorem dX6_rebuild_13 : decode cX6_rebuild 13 = .ok (.athrow, 1) := by decide +kernel
theorem dX6_rebuild_14 : decode cX6_rebuild 14 = .ok (.aload_n 0, 1) := by decide +kernel
theorem dX6_rebuild_15 : decode cX6_rebuild 15 = .ok (.invokevirtual 85, 3) := by decide +kernel
theorem dX6_rebuild_18 : decode cX6_rebuild 18 = .ok (.aload_n 0, 1) := by decide +kernel
theorem dX6_rebuild_19 : decode cX6_rebuild 19 = .ok (.getfield 12, 3) := by decide +kernel
theorem dX6_rebuild_22 : decode cX6_rebuild 22 = .ok (.invokevirtual 182, 3) := by decide +kernel
theorem dX6_rebuild_25 : decode cX6_rebuild 25 = .ok (.iconst (-1), 1) := by decide +kernel
theorem dX6_rebuild_26 : decode cX6_rebuild 26 = .ok (.if_icmp .eq 20, 3) := by decide +kernel
theorem dX6_rebuild_29 : decode cX6_rebuild 29 = .ok (.aload_n 0, 1) := by decide +kernel
theorem dX6_rebuild_30 : decode cX6_rebuild 30 = .ok (.getfield 12, 3) := by decide +kernel
theorem dX6_rebuild_33 : decode cX6_rebuild 33 = .ok (.aload_n 0, 1) := by decide +kernel
theorem dX6_rebuild_34 : decode cX6_rebuild 34 = .ok (.getfield 12, 3) := by decide +kernel
theorem dX6_rebuild_37 : decode cX6_rebuild 37 = .ok (.invokevirtual 182, 3) := by decide +kernel
theorem dX6_rebuild_40 : decode cX6_rebuild 40 = .ok (.invokevirtual 185, 3) := by decide +kernel
theorem dX6_rebuild_43 : decode cX6_rebuild 43 = .ok (.ifCond .eq 13, 3) := by decide +kernel
theorem dX6_rebuild_46 : decode cX6_rebuild 46 = .ok (.new 188, 3) := by decide +kernel
theorem dX6_rebuild_49 : decode cX6_rebuild 49 = .ok (.dup, 1) := by decide +kernel
theorem dX6_rebuild_50 : decode cX6_rebuild 50 = .ok (.ldc 198, 2) := by decide +kernel
theorem dX6_rebuild_52 : decode cX6_rebuild 52 = .ok (.invokespecial 192, 3) := by decide +kernel
theorem dX6_rebuild_55 : decode cX6_rebuild 55 = .ok (.athrow, 1) := by decide +kernel
theorem dX6_rebuild_56 : decode cX6_rebuild 56 = .ok (.aload_n 0, 1) := by decide +kernel
theorem dX6_rebuild_57 : decode cX6_rebuild 57 = .ok (.getfield 12, 3) := by decide +kernel
theorem dX6_rebuild_60 : decode cX6_rebuild 60 = .ok (.iload_n 1, 1) := by decide +kernel
theorem dX6_rebuild_61 : decode cX6_rebuild 61 = .ok (.invokevirtual 200, 3) := by decide +kernel
theorem dX6_rebuild_64 : decode cX6_rebuild 64 = .ok (.aload_n 0, 1) := by decide +kernel
theorem dX6_rebuild_65 : decode cX6_rebuild 65 = .ok (.getfield 12, 3) := by decide +kernel
theorem dX6_rebuild_68 : decode cX6_rebuild 68 = .ok (.invokevirtual 203, 3) := by decide +kernel
theorem dX6_rebuild_71 : decode cX6_rebuild 71 = .ok (.ireturn, 1) := by decide +kernel
theorem dX6_block_0 : decode cX6_block 0 = .ok (.iload_n 1, 1) := by decide +kernel
theorem dX6_block_1 : decode cX6_block 1 = .ok (.ifCond .lt 28, 3) := by decide +kernel
theorem dX6_block_4 : decode cX6_block 4 = .ok (.iload_n 1, 1) := by decide +kernel
theorem dX6_block_5 : decode cX6_block 5 = .ok (.iconst 5, 1) := by decide +kernel
theorem dX6_block_6 : decode cX6_block 6 = .ok (.if_icmp .ge 23, 3) := by decide +kernel
theorem dX6_block_9 : decode cX6_block 9 = .ok (.iload_n 2, 1) := by decide +kernel
theorem dX6_block_10 : decode cX6_block 10 = .ok (.ifCond .lt 19, 3) := by decide +kernel
theorem dX6_block_13 : decode cX6_block 13 = .ok (.iload_n 2, 1) := by decide +kernel
theorem dX6_block_14 : decode cX6_block 14 = .ok (.sipush 150, 3) := by decide +kernel
theorem dX6_block_17 : decode cX6_block 17 = .ok (.if_icmp .ge 12, 3) := by decide +kernel
theorem dX6_block_20 : decode cX6_block 20 = .ok (.iload_n 3, 1) := by decide +kernel
theorem dX6_block_21 : decode cX6_block 21 = .ok (.ifCond .lt 8, 3) := by decide +kernel
theorem dX6_block_24 : decode cX6_block 24 = .ok (.iload_n 3, 1) := by decide +kernel
theorem dX6_block_25 : decode cX6_block 25 = .ok (.iconst 4, 1) := by decide +kernel
theorem dX6_block_26 : decode cX6_block 26 = .ok (.if_icmp .lt 13, 3) := by decide +kernel
theorem dX6_block_29 : decode cX6_block 29 = .ok (.new 78, 3) := by decide +kernel
theorem dX6_block_32 : decode cX6_block 32 = .ok (.dup, 1) := by decide +kernel
theorem dX6_block_33 : decode cX6_block 33 = .ok (.ldc 206, 2) := by decide +kernel
theorem dX6_block_35 : decode cX6_block 35 = .ok (.invokespecial 82, 3) := by decide +kernel
theorem dX6_block_38 : decode cX6_block 38 = .ok (.athrow, 1) := by decide +kernel
theorem dX6_block_39 : decode cX6_block 39 = .ok (.aload_n 0, 1) := by decide +kernel
theorem dX6_block_40 : decode cX6_block 40 = .ok (.getfield 12, 3) := by decide +kernel
theorem dX6_block_43 : decode cX6_block 43 = .ok (.iload_n 1, 1) := by decide +kernel
theorem dX6_block_44 : decode cX6_block 44 = .ok (.invokevirtual 185, 3) := by decide +kernel
theorem dX6_block_47 : decode cX6_block 47 = .ok (.ifCond .eq 13, 3) := by decide +kernel
theorem dX6_block_50 : decode cX6_block 50 = .ok (.new 188, 3) := by decide +kernel
theorem dX6_block_53 : decode cX6_block 53 = .ok (.dup, 1) := by decide +kernel
theorem dX6_block_54 : decode cX6_block 54 = .ok (.ldc 208, 2) := by decide +kernel
theorem dX6_block_56 : decode cX6_block 56 = .ok (.invokespecial 192, 3) := by decide +kernel
theorem dX6_block_59 : decode cX6_block 59 = .ok (.athrow, 1) := by decide +kernel
theorem dX6_block_60 : decode cX6_block 60 = .ok (.aload_n 0, 1) := by decide +kernel
theorem dX6_block_61 : decode cX6_block 61 = .ok (.getfield 12, 3) := by decide +kernel
theorem dX6_block_64 : decode cX6_block 64 = .ok (.iload_n 1, 1) := by decide +kernel
theorem dX6_block_65 : decode cX6_block 65 = .ok (.iload_n 2, 1) := by decide +kernel
theorem dX6_block_66 : decode cX6_block 66 = .ok (.iload_n 3, 1) := by decide +kernel
theorem dX6_block_67 : decode cX6_block 67 = .ok (.invokevirtual 210, 3) := by decide +kernel
theorem dX6_block_70 : decode cX6_block 70 = .ok (.lreturn, 1) := by decide +kernel
theorem dX6_count_0 : decode cX6_count 0 = .ok (.iload_n 1, 1) := by decide +kernel
theorem dX6_count_1 : decode cX6_count 1 = .ok (.tableswitch 119 0 7 #[47, 55, 63, 71, 79, 87, 95, 111], 47) := by decide +kernel
theorem dX6_count_48 : decode cX6_count 48 = .ok (.aload_n 0, 1) := by decide +kernel
theorem dX6_count_49 : decode cX6_count 49 = .ok (.getfield 19, 3) := by decide +kernel
theorem dX6_count_52 : decode cX6_count 52 = .ok (.invokevirtual 143, 3) := by decide +kernel
theorem dX6_count_55 : decode cX6_count 55 = .ok (.ireturn, 1) := by decide +kernel
theorem dX6_count_56 : decode cX6_count 56 = .ok (.aload_n 0, 1) := by decide +kernel
theorem dX6_count_57 : decode cX6_count 57 = .ok (.getfield 26, 3) := by decide +kernel
theorem dX6_count_60 : decode cX6_count 60 = .ok (.invokevirtual 214, 3) := by decide +kernel
theorem dX6_count_63 : decode cX6_count 63 = .ok (.ireturn, 1) := by decide +kernel
theorem dX6_count_64 : decode cX6_count 64 = .ok (.aload_n 0, 1) := by decide +kernel
theorem dX6_count_65 : decode cX6_count 65 = .ok (.getfield 40, 3) := by decide +kernel
theorem dX6_count_68 : decode cX6_count 68 = .ok (.invokevirtual 217, 3) := by decide +kernel
theorem dX6_count_71 : decode cX6_count 71 = .ok (.ireturn, 1) := by decide +kernel
theorem dX6_count_72 : decode cX6_count 72 = .ok (.aload_n 0, 1) := by decide +kernel
theorem dX6_count_73 : decode cX6_count 73 = .ok (.getfield 12, 3) := by decide +kernel
theorem dX6_count_76 : decode cX6_count 76 = .ok (.invokevirtual 220, 3) := by decide +kernel
theorem dX6_count_79 : decode cX6_count 79 = .ok (.ireturn, 1) := by decide +kernel
theorem dX6_count_80 : decode cX6_count 80 = .ok (.aload_n 0, 1) := by decide +kernel
theorem dX6_count_81 : decode cX6_count 81 = .ok (.getfield 12, 3) := by decide +kernel
theorem dX6_count_84 : decode cX6_count 84 = .ok (.invokevirtual 182, 3) := by decide +kernel
theorem dX6_count_87 : decode cX6_count 87 = .ok (.ireturn, 1) := by decide +kernel
theorem dX6_count_88 : decode cX6_count 88 = .ok (.aload_n 0, 1) := by decide +kernel
theorem dX6_count_89 : decode cX6_count 89 = .ok (.getfield 12, 3) := by decide +kernel
theorem dX6_count_92 : decode cX6_count 92 = .ok (.invokevirtual 203, 3) := by decide +kernel
theorem dX6_count_95 : decode cX6_count 95 = .ok (.ireturn, 1) := by decide +kernel
theorem dX6_count_96 : decode cX6_count 96 = .ok (.aload_n 0, 1) := by decide +kernel
theorem dX6_count_97 : decode cX6_count 97 = .ok (.getfield 12, 3) := by decide +kernel
theorem dX6_count_100 : decode cX6_count 100 = .ok (.invokevirtual 223, 3) := by decide +kernel
theorem dX6_count_103 : decode cX6_count 103 = .ok (.ifCond .eq 7, 3) := by decide +kernel
theorem dX6_count_106 : decode cX6_count 106 = .ok (.iconst 1, 1) := by decide +kernel
theorem dX6_count_107 : decode cX6_count 107 = .ok (.goto 4, 3) := by decide +kernel
theorem dX6_count_110 : decode cX6_count 110 = .ok (.iconst 0, 1) := by decide +kernel
theorem dX6_count_111 : decode cX6_count 111 = .ok (.ireturn, 1) := by decide +kernel
theorem dX6_count_112 : decode cX6_count 112 = .ok (.aload_n 0, 1) := by decide +kernel
theorem dX6_count_113 : decode cX6_count 113 = .ok (.getfield 33, 3) := by decide +kernel
theorem dX6_count_116 : decode cX6_count 116 = .ok (.invokevirtual 226, 3) := by decide +kernel
theorem dX6_count_119 : decode cX6_count 119 = .ok (.ireturn, 1) := by decide +kernel
theorem dX6_count_120 : decode cX6_count 120 = .ok (.new 78, 3) := by decide +kernel
theorem dX6_count_123 : decode cX6_count 123 = .ok (.dup, 1) := by decide +kernel
theorem dX6_count_124 : decode cX6_count 124 = .ok (.ldc 229, 2) := by decide +kernel
theorem dX6_count_126 : decode cX6_count 126 = .ok (.invokespecial 82, 3) := by decide +kernel
theorem dX6_count_129 : decode cX6_count 129 = .ok (.athrow, 1) := by decide +kernel
theorem dX6_isFile_0 : decode cX6_isFile 0 = .ok (.iload_n 0, 1) := by decide +kernel
theorem dX6_isFile_1 : decode cX6_isFile 1 = .ok (.ifCond .lt 13, 3) := by decide +kernel
theorem dX6_isFile_4 : decode cX6_isFile 4 = .ok (.iload_n 0, 1) := by decide +kernel
theorem dX6_isFile_5 : decode cX6_isFile 5 = .ok (.bipush 32, 2) := by decide +kernel
theorem dX6_isFile_7 : decode cX6_isFile 7 = .ok (.if_icmp .ge 7, 3) := by decide +kernel
theorem dX6_isFile_10 : decode cX6_isFile 10 = .ok (.iconst 1, 1) := by decide +kernel
theorem dX6_isFile_11 : decode cX6_isFile 11 = .ok (.goto 4, 3) := by decide +kernel
theorem dX6_isFile_14 : decode cX6_isFile 14 = .ok (.iconst 0, 1) := by decide +kernel
theorem dX6_isFile_15 : decode cX6_isFile 15 = .ok (.ireturn, 1) := by decide +kernel
theorem dX6_octetOf_0 : decode cX6_octetOf 0 = .ok (.lload_n 0, 1) := by decide +kernel
theorem dX6_octetOf_1 : decode cX6_octetOf 1 = .ok (.bipush 56, 2) := by decide +kernel
theorem dX6_octetOf_3 : decode cX6_octetOf 3 = .ok (.bipush 8, 2) := by decide +kernel
theorem dX6_octetOf_5 : decode cX6_octetOf 5 = .ok (.iload_n 2, 1) := by decide +kernel
theorem dX6_octetOf_6 : decode cX6_octetOf 6 = .ok (.imul, 1) := by decide +kernel
theorem dX6_octetOf_7 : decode cX6_octetOf 7 = .ok (.isub, 1) := by decide +kernel
theorem dX6_octetOf_8 : decode cX6_octetOf 8 = .ok (.lushr, 1) := by decide +kernel
theorem dX6_octetOf_9 : decode cX6_octetOf 9 = .ok (.l2i, 1) := by decide +kernel
theorem dX6_octetOf_10 : decode cX6_octetOf 10 = .ok (.sipush 255, 3) := by decide +kernel
theorem dX6_octetOf_13 : decode cX6_octetOf 13 = .ok (.iand, 1) := by decide +kernel
theorem dX6_octetOf_14 : decode cX6_octetOf 14 = .ok (.ireturn, 1) := by decide +kernel
theorem dX6_shiftOfNumber_0 : decode cX6_shiftOfNumber 0 = .ok (.bipush 48, 2) := by decide +kernel
theorem dX6_shiftOfNumber_2 : decode cX6_shiftOfNumber 2 = .ok (.bipush 16, 2) := by decide +kernel
theorem dX6_shiftOfNumber_4 : decode cX6_shiftOfNumber 4 = .ok (.iload_n 0, 1) := by decide +kernel
theorem dX6_shiftOfNumber_5 : decode cX6_shiftOfNumber 5 = .ok (.iconst 4, 1) := by decide +kernel
theorem dX6_shiftOfNumber_6 : decode cX6_shiftOfNumber 6 = .ok (.irem, 1) := by decide +kernel
theorem dX6_shiftOfNumber_7 : decode cX6_shiftOfNumber 7 = .ok (.imul, 1) := by decide +kernel
theorem dX6_shiftOfNumber_8 : decode cX6_shiftOfNumber 8 = .ok (.isub, 1) := by decide +kernel
theorem dX6_shiftOfNumber_9 : decode cX6_shiftOfNumber 9 = .ok (.ireturn, 1) := by decide +kernel
theorem dX6_piecesOf_0 : decode cX6_piecesOf 0 = .ok (.iload_n 0, 1) := by decide +kernel
theorem dX6_piecesOf_1 : decode cX6_piecesOf 1 = .ok (.bipush 32, 2) := by decide +kernel
theorem dX6_piecesOf_3 : decode cX6_piecesOf 3 = .ok (.iadd, 1) := by decide +kernel
theorem dX6_piecesOf_4 : decode cX6_piecesOf 4 = .ok (.iconst 1, 1) := by decide +kernel
theorem dX6_piecesOf_5 : decode cX6_piecesOf 5 = .ok (.isub, 1) := by decide +kernel
theorem dX6_piecesOf_6 : decode cX6_piecesOf 6 = .ok (.bipush 32, 2) := by decide +kernel
theorem dX6_piecesOf_8 : decode cX6_piecesOf 8 = .ok (.idiv, 1) := by decide +kernel
theorem dX6_piecesOf_9 : decode cX6_piecesOf 9 = .ok (.ireturn, 1) := by decide +kernel
theorem dX6_refuseIfBroken_0 : decode cX6_refuseIfBroken 0 = .ok (.aload_n 0, 1) := by decide +kernel
theorem dX6_refuseIfBroken_1 : decode cX6_refuseIfBroken 1 = .ok (.getfield 12, 3) := by decide +kernel
theorem dX6_refuseIfBroken_4 : decode cX6_refuseIfBroken 4 = .ok (.invokevirtual 223, 3) := by decide +kernel
theorem dX6_refuseIfBroken_7 : decode cX6_refuseIfBroken 7 = .ok (.ifCond .eq 13, 3) := by decide +kernel
theorem dX6_refuseIfBroken_10 : decode cX6_refuseIfBroken 10 = .ok (.new 188, 3) := by decide +kernel
theorem dX6_refuseIfBroken_13 : decode cX6_refuseIfBroken 13 = .ok (.dup, 1) := by decide +kernel
theorem dX6_refuseIfBroken_14 : decode cX6_refuseIfBroken 14 = .ok (.ldc 231, 2) := by decide +kernel
theorem dX6_refuseIfBroken_16 : decode cX6_refuseIfBroken 16 = .ok (.invokespecial 192, 3) := by decide +kernel
theorem dX6_refuseIfBroken_19 : decode cX6_refuseIfBroken 19 = .ok (.athrow, 1) := by decide +kernel
theorem dX6_refuseIfBroken_20 : decode cX6_refuseIfBroken 20 = .ok (.return_, 1) := by decide +kernel
theorem dX6_refuseIfNotReadable_0 : decode cX6_refuseIfNotReadable 0 = .ok (.iload_n 2, 1) := by decide +kernel
theorem dX6_refuseIfNotReadable_1 : decode cX6_refuseIfNotReadable 1 = .ok (.invokestatic 64, 3) := by decide +kernel
theorem dX6_refuseIfNotReadable_4 : decode cX6_refuseIfNotReadable 4 = .ok (.ifCond .eq 19, 3) := by decide +kernel
theorem dX6_refuseIfNotReadable_7 : decode cX6_refuseIfNotReadable 7 = .ok (.iload_n 1, 1) := by decide +kernel
theorem dX6_refuseIfNotReadable_8 : decode cX6_refuseIfNotReadable 8 = .ok (.iconst (-1), 1) := by decide +kernel
theorem dX6_refuseIfNotReadable_9 : decode cX6_refuseIfNotReadable 9 = .ok (.if_icmp .eq 24, 3) := by decide +kernel
theorem dX6_refuseIfNotReadable_12 : decode cX6_refuseIfNotReadable 12 = .ok (.aload_n 0, 1) := by decide +kernel
theorem dX6_refuseIfNotReadable_13 : decode cX6_refuseIfNotReadable 13 = .ok (.getfield 19, 3) := by decide +kernel
theorem dX6_refuseIfNotReadable_16 : decode cX6_refuseIfNotReadable 16 = .ok (.iload_n 1, 1) := by decide +kernel
theorem dX6_refuseIfNotReadable_17 : decode cX6_refuseIfNotReadable 17 = .ok (.invokevirtual 155, 3) := by decide +kernel
theorem dX6_refuseIfNotReadable_20 : decode cX6_refuseIfNotReadable 20 = .ok (.ifCond .ne 13, 3) := by decide +kernel
theorem dX6_refuseIfNotReadable_23 : decode cX6_refuseIfNotReadable 23 = .ok (.new 78, 3) := by decide +kernel
theorem dX6_refuseIfNotReadable_26 : decode cX6_refuseIfNotReadable 26 = .ok (.dup, 1) := by decide +kernel
theorem dX6_refuseIfNotReadable_27 : decode cX6_refuseIfNotReadable 27 = .ok (.ldc 233, 2) := by decide +kernel
theorem dX6_refuseIfNotReadable_29 : decode cX6_refuseIfNotReadable 29 = .ok (.invokespecial 82, 3) := by decide +kernel
theorem dX6_refuseIfNotReadable_32 : decode cX6_refuseIfNotReadable 32 = .ok (.athrow, 1) := by decide +kernel
theorem dX6_refuseIfNotReadable_33 : decode cX6_refuseIfNotReadable 33 = .ok (.aload_n 0, 1) := by decide +kernel
theorem dX6_refuseIfNotReadable_34 : decode cX6_refuseIfNotReadable 34 = .ok (.invokevirtual 85, 3) := by decide +kernel
theorem dX6_refuseIfNotReadable_37 : decode cX6_refuseIfNotReadable 37 = .ok (.return_, 1) := by decide +kernel
theorem dX6_octetsIn_0 : decode cX6_octetsIn 0 = .ok (.iload_n 1, 1) := by decide +kernel
theorem dX6_octetsIn_1 : decode cX6_octetsIn 1 = .ok (.iconst (-1), 1) := by decide +kernel
theorem dX6_octetsIn_2 : decode cX6_octetsIn 2 = .ok (.if_icmp .ne 12, 3) := by decide +kernel
theorem dX6_octetsIn_5 : decode cX6_octetsIn 5 = .ok (.aload_n 0, 1) := by decide +kernel
theorem dX6_octetsIn_6 : decode cX6_octetsIn 6 = .ok (.getfield 33, 3) := by decide +kernel
theorem dX6_octetsIn_9 : decode cX6_octetsIn 9 = .ok (.iload_n 2, 1) := by decide +kernel
theorem dX6_octetsIn_10 : decode cX6_octetsIn 10 = .ok (.invokevirtual 68, 3) := by decide +kernel
theorem dX6_octetsIn_13 : decode cX6_octetsIn 13 = .ok (.ireturn, 1) := by decide +kernel
theorem dX6_octetsIn_14 : decode cX6_octetsIn 14 = .ok (.aload_n 0, 1) := by decide +kernel
theorem dX6_octetsIn_15 : decode cX6_octetsIn 15 = .ok (.iload_n 1, 1) := by decide +kernel
theorem dX6_octetsIn_16 : decode cX6_octetsIn 16 = .ok (.iload_n 2, 1) := by decide +kernel
theorem dX6_octetsIn_17 : decode cX6_octetsIn 17 = .ok (.invokevirtual 129, 3) := by decide +kernel
theorem dX6_octetsIn_20 : decode cX6_octetsIn 20 = .ok (.istore_n 3, 1) := by decide +kernel
theorem dX6_octetsIn_21 : decode cX6_octetsIn 21 = .ok (.iload_n 3, 1) := by decide +kernel
theorem dX6_octetsIn_22 : decode cX6_octetsIn 22 = .ok (.ifCond .ne 7, 3) := by decide +kernel
theorem dX6_octetsIn_25 : decode cX6_octetsIn 25 = .ok (.iconst (-1), 1) := by decide +kernel
theorem dX6_octetsIn_26 : decode cX6_octetsIn 26 = .ok (.goto 12, 3) := by decide +kernel
theorem dX6_octetsIn_29 : decode cX6_octetsIn 29 = .ok (.aload_n 0, 1) := by decide +kernel
theorem dX6_octetsIn_30 : decode cX6_octetsIn 30 = .ok (.getfield 12, 3) := by decide +kernel
theorem dX6_octetsIn_33 : decode cX6_octetsIn 33 = .ok (.iload_n 3, 1) := by decide +kernel
theorem dX6_octetsIn_34 : decode cX6_octetsIn 34 = .ok (.iconst 0, 1) := by decide +kernel
theorem dX6_octetsIn_35 : decode cX6_octetsIn 35 = .ok (.invokevirtual 132, 3) := by decide +kernel
theorem dX6_octetsIn_38 : decode cX6_octetsIn 38 = .ok (.ireturn, 1) := by decide +kernel
theorem dX6_inodeIn_0 : decode cX6_inodeIn 0 = .ok (.aload_n 0, 1) := by decide +kernel
theorem dX6_inodeIn_1 : decode cX6_inodeIn 1 = .ok (.getfield 19, 3) := by decide +kernel
theorem dX6_inodeIn_4 : decode cX6_inodeIn 4 = .ok (.iload_n 1, 1) := by decide +kernel
theorem dX6_inodeIn_5 : decode cX6_inodeIn 5 = .ok (.iload_n 2, 1) := by decide +kernel
theorem dX6_inodeIn_6 : decode cX6_inodeIn 6 = .ok (.bipush 16, 2) := by decide +kernel
theorem dX6_inodeIn_8 : decode cX6_inodeIn 8 = .ok (.idiv, 1) := by decide +kernel
theorem dX6_inodeIn_9 : decode cX6_inodeIn 9 = .ok (.invokevirtual 235, 3) := by decide +kernel
theorem dX6_inodeIn_12 : decode cX6_inodeIn 12 = .ok (.istore_n 3, 1) := by decide +kernel
theorem dX6_inodeIn_13 : decode cX6_inodeIn 13 = .ok (.iload_n 3, 1) := by decide +kernel
theorem dX6_inodeIn_14 : decode cX6_inodeIn 14 = .ok (.ifCond .ne 7, 3) := by decide +kernel
theorem dX6_inodeIn_17 : decode cX6_inodeIn 17 = .ok (.iconst 0, 1) := by decide +kernel
theorem dX6_inodeIn_18 : decode cX6_inodeIn 18 = .ok (.goto 15, 3) := by decide +kernel
theorem dX6_inodeIn_21 : decode cX6_inodeIn 21 = .ok (.aload_n 0, 1) := by decide +kernel
theorem dX6_inodeIn_22 : decode cX6_inodeIn 22 = .ok (.getfield 12, 3) := by decide +kernel
theorem dX6_inodeIn_25 : decode cX6_inodeIn 25 = .ok (.iload_n 3, 1) := by decide +kernel
theorem dX6_inodeIn_26 : decode cX6_inodeIn 26 = .ok (.iload_n 2, 1) := by decide +kernel
theorem dX6_inodeIn_27 : decode cX6_inodeIn 27 = .ok (.bipush 16, 2) := by decide +kernel
theorem dX6_inodeIn_29 : decode cX6_inodeIn 29 = .ok (.irem, 1) := by decide +kernel
theorem dX6_inodeIn_30 : decode cX6_inodeIn 30 = .ok (.invokevirtual 132, 3) := by decide +kernel
theorem dX6_inodeIn_33 : decode cX6_inodeIn 33 = .ok (.ireturn, 1) := by decide +kernel
theorem dX6_hasPlacesForPoint_0 : decode cX6_hasPlacesForPoint 0 = .ok (.aload_n 0, 1) := by decide +kernel
theorem dX6_hasPlacesForPoint_1 : decode cX6_hasPlacesForPoint 1 = .ok (.getfield 33, 3) := by decide +kernel
theorem dX6_hasPlacesForPoint_4 : decode cX6_hasPlacesForPoint 4 = .ok (.invokevirtual 168, 3) := by decide +kernel
theorem dX6_hasPlacesForPoint_7 : decode cX6_hasPlacesForPoint 7 = .ok (.aload_n 0, 1) := by decide +kernel
theorem dX6_hasPlacesForPoint_8 : decode cX6_hasPlacesForPoint 8 = .ok (.getfield 26, 3) := by decide +kernel
theorem dX6_hasPlacesForPoint_11 : decode cX6_hasPlacesForPoint 11 = .ok (.invokevirtual 214, 3) := by decide +kernel
theorem dX6_hasPlacesForPoint_14 : decode cX6_hasPlacesForPoint 14 = .ok (.if_icmp .gt 7, 3) := by decide +kernel
theorem dX6_hasPlacesForPoint_17 : decode cX6_hasPlacesForPoint 17 = .ok (.iconst 1, 1) := by decide +kernel
theorem dX6_hasPlacesForPoint_18 : decode cX6_hasPlacesForPoint 18 = .ok (.goto 4, 3) := by decide +kernel
theorem dX6_hasPlacesForPoint_21 : decode cX6_hasPlacesForPoint 21 = .ok (.iconst 0, 1) := by decide +kernel
theorem dX6_hasPlacesForPoint_22 : decode cX6_hasPlacesForPoint 22 = .ok (.ireturn, 1) := by decide +kernel
theorem dX6_makePoint_0 : decode cX6_makePoint 0 = .ok (.aload_n 0, 1) := by decide +kernel
theorem dX6_makePoint_1 : decode cX6_makePoint 1 = .ok (.invokevirtual 165, 3) := by decide +kernel
theorem dX6_makePoint_4 : decode cX6_makePoint 4 = .ok (.ifCond .ne 13, 3) := by decide +kernel
theorem dX6_makePoint_7 : decode cX6_makePoint 7 = .ok (.new 238, 3) := by decide +kernel
theorem dX6_makePoint_10 : decode cX6_makePoint 10 = .ok (.dup, 1) := by decide +kernel
theorem dX6_makePoint_11 : decode cX6_makePoint 11 = .ok (.ldc 240, 2) := by decide +kernel
theorem dX6_makePoint_13 : decode cX6_makePoint 13 = .ok (.invokespecial 242, 3) := by decide +kernel
theorem dX6_makePoint_16 : decode cX6_makePoint 16 = .ok (.athrow, 1) := by decide +kernel
theorem dX6_makePoint_17 : decode cX6_makePoint 17 = .ok (.aload_n 0, 1) := by decide +kernel
theorem dX6_makePoint_18 : decode cX6_makePoint 18 = .ok (.ldc 243, 2) := by decide +kernel
theorem dX6_makePoint_20 : decode cX6_makePoint 20 = .ok (.invokevirtual 171, 3) := by decide +kernel
theorem dX6_makePoint_23 : decode cX6_makePoint 23 = .ok (.aload_n 0, 1) := by decide +kernel
theorem dX6_makePoint_24 : decode cX6_makePoint 24 = .ok (.getfield 33, 3) := by decide +kernel
theorem dX6_makePoint_27 : decode cX6_makePoint 27 = .ok (.invokevirtual 244, 3) := by decide +kernel
theorem dX6_makePoint_30 : decode cX6_makePoint 30 = .ok (.aload_n 0, 1) := by decide +kernel
theorem dX6_makePoint_31 : decode cX6_makePoint 31 = .ok (.getfield 40, 3) := by decide +kernel
theorem dX6_makePoint_34 : decode cX6_makePoint 34 = .ok (.invokevirtual 59, 3) := by decide +kernel
theorem dX6_makePoint_37 : decode cX6_makePoint 37 = .ok (.aload_n 0, 1) := by decide +kernel
theorem dX6_makePoint_38 : decode cX6_makePoint 38 = .ok (.getfield 26, 3) := by decide +kernel
theorem dX6_makePoint_41 : decode cX6_makePoint 41 = .ok (.aload_n 0, 1) := by decide +kernel
theorem dX6_makePoint_42 : decode cX6_makePoint 42 = .ok (.getfield 19, 3) := by decide +kernel
theorem dX6_makePoint_45 : decode cX6_makePoint 45 = .ok (.aload_n 0, 1) := by decide +kernel
theorem dX6_makePoint_46 : decode cX6_makePoint 46 = .ok (.getfield 12, 3) := by decide +kernel
theorem dX6_makePoint_49 : decode cX6_makePoint 49 = .ok (.invokevirtual 60, 3) := by decide +kernel
theorem dX6_makePoint_52 : decode cX6_makePoint 52 = .ok (.return_, 1) := by decide +kernel
theorem dX6_writePoint_0 : decode cX6_writePoint 0 = .ok (.aload_n 0, 1) := by decide +kernel
theorem dX6_writePoint_1 : decode cX6_writePoint 1 = .ok (.iload_n 1, 1) := by decide +kernel
theorem dX6_writePoint_2 : decode cX6_writePoint 2 = .ok (.putfield 247, 3) := by decide +kernel
theorem dX6_writePoint_5 : decode cX6_writePoint 5 = .ok (.aload_n 0, 1) := by decide +kernel
theorem dX6_writePoint_6 : decode cX6_writePoint 6 = .ok (.getfield 26, 3) := by decide +kernel
theorem dX6_writePoint_9 : decode cX6_writePoint 9 = .ok (.invokevirtual 251, 3) := by decide +kernel
theorem dX6_writePoint_12 : decode cX6_writePoint 12 = .ok (.iconst 0, 1) := by decide +kernel
theorem dX6_writePoint_13 : decode cX6_writePoint 13 = .ok (.istore_n 2, 1) := by decide +kernel
theorem dX6_writePoint_14 : decode cX6_writePoint 14 = .ok (.iload_n 2, 1) := by decide +kernel
theorem dX6_writePoint_15 : decode cX6_writePoint 15 = .ok (.bipush 32, 2) := by decide +kernel
theorem dX6_writePoint_17 : decode cX6_writePoint 17 = .ok (.if_icmp .ge 25, 3) := by decide +kernel
theorem dX6_writePoint_20 : decode cX6_writePoint 20 = .ok (.aload_n 0, 1) := by decide +kernel
theorem dX6_writePoint_21 : decode cX6_writePoint 21 = .ok (.getfield 33, 3) := by decide +kernel
theorem dX6_writePoint_24 : decode cX6_writePoint 24 = .ok (.iload_n 2, 1) := by decide +kernel
theorem dX6_writePoint_25 : decode cX6_writePoint 25 = .ok (.invokevirtual 254, 3) := by decide +kernel
theorem dX6_writePoint_28 : decode cX6_writePoint 28 = .ok (.ifCond .eq 8, 3) := by decide +kernel
theorem dX6_writePoint_31 : decode cX6_writePoint 31 = .ok (.aload_n 0, 1) := by decide +kernel
theorem dX6_writePoint_32 : decode cX6_writePoint 32 = .ok (.iload_n 2, 1) := by decide +kernel
theorem dX6_writePoint_33 : decode cX6_writePoint 33 = .ok (.invokevirtual 257, 3) := by decide +kernel
theorem dX6_writePoint_36 : decode cX6_writePoint 36 = .ok (.iinc 2 1, 3) := by decide +kernel
theorem dX6_writePoint_39 : decode cX6_writePoint 39 = .ok (.goto (-25), 3) := by decide +kernel
theorem dX6_writePoint_42 : decode cX6_writePoint 42 = .ok (.iconst 0, 1) := by decide +kernel
theorem dX6_writePoint_43 : decode cX6_writePoint 43 = .ok (.istore_n 2, 1) := by decide +kernel
theorem dX6_writePoint_44 : decode cX6_writePoint 44 = .ok (.iload_n 2, 1) := by decide +kernel
theorem dX6_writePoint_45 : decode cX6_writePoint 45 = .ok (.iconst 2, 1) := by decide +kernel
theorem dX6_writePoint_46 : decode cX6_writePoint 46 = .ok (.if_icmp .ge 54, 3) := by decide +kernel
theorem dX6_writePoint_49 : decode cX6_writePoint 49 = .ok (.aload_n 0, 1) := by decide +kernel
theorem dX6_writePoint_50 : decode cX6_writePoint 50 = .ok (.getfield 33, 3) := by decide +kernel
theorem dX6_writePoint_53 : decode cX6_writePoint 53 = .ok (.iload_n 2, 1) := by decide +kernel
theorem dX6_writePoint_54 : decode cX6_writePoint 54 = .ok (.invokevirtual 260, 3) := by decide +kernel
theorem dX6_writePoint_57 : decode cX6_writePoint 57 = .ok (.ifCond .eq 37, 3) := by decide +kernel
theorem dX6_writePoint_60 : decode cX6_writePoint 60 = .ok (.aload_n 0, 1) := by decide +kernel
theorem dX6_writePoint_61 : decode cX6_writePoint 61 = .ok (.getfield 26, 3) := by decide +kernel
theorem dX6_writePoint_64 : decode cX6_writePoint 64 = .ok (.invokevirtual 263, 3) := by decide +kernel
theorem dX6_writePoint_67 : decode cX6_writePoint 67 = .ok (.istore_n 3, 1) := by decide +kernel
theorem dX6_writePoint_68 : decode cX6_writePoint 68 = .ok (.aload_n 0, 1) := by decide +kernel
theorem dX6_writePoint_69 : decode cX6_writePoint 69 = .ok (.getfield 33, 3) := by decide +kernel
theorem dX6_writePoint_72 : decode cX6_writePoint 72 = .ok (.iload_n 2, 1) := by decide +kernel
theorem dX6_writePoint_73 : decode cX6_writePoint 73 = .ok (.aload_n 0, 1) := by decide +kernel
theorem dX6_writePoint_74 : decode cX6_writePoint 74 = .ok (.getfield 47, 3) := by decide +kernel
theorem dX6_writePoint_77 : decode cX6_writePoint 77 = .ok (.invokevirtual 266, 3) := by decide +kernel
theorem dX6_writePoint_80 : decode cX6_writePoint 80 = .ok (.aload_n 0, 1) := by decide +kernel
theorem dX6_writePoint_81 : decode cX6_writePoint 81 = .ok (.iload_n 3, 1) := by decide +kernel
theorem dX6_writePoint_82 : decode cX6_writePoint 82 = .ok (.invokevirtual 270, 3) := by decide +kernel
theorem dX6_writePoint_85 : decode cX6_writePoint 85 = .ok (.aload_n 0, 1) := by decide +kernel
theorem dX6_writePoint_86 : decode cX6_writePoint 86 = .ok (.getfield 19, 3) := by decide +kernel
theorem dX6_writePoint_89 : decode cX6_writePoint 89 = .ok (.iload_n 2, 1) := by decide +kernel
theorem dX6_writePoint_90 : decode cX6_writePoint 90 = .ok (.iload_n 3, 1) := by decide +kernel
theorem dX6_writePoint_91 : decode cX6_writePoint 91 = .ok (.invokevirtual 273, 3) := by decide +kernel
theorem dX6_writePoint_94 : decode cX6_writePoint 94 = .ok (.iinc 2 1, 3) := by decide +kernel
theorem dX6_writePoint_97 : decode cX6_writePoint 97 = .ok (.goto (-53), 3) := by decide +kernel
theorem dX6_writePoint_100 : decode cX6_writePoint 100 = .ok (.aload_n 0, 1) := by decide +kernel
theorem dX6_writePoint_101 : decode cX6_writePoint 101 = .ok (.getfield 19, 3) := by decide +kernel
theorem dX6_writePoint_104 : decode cX6_writePoint 104 = .ok (.invokevirtual 276, 3) := by decide +kernel
theorem dX6_writePoint_107 : decode cX6_writePoint 107 = .ok (.aload_n 0, 1) := by decide +kernel
theorem dX6_writePoint_108 : decode cX6_writePoint 108 = .ok (.getfield 19, 3) := by decide +kernel
theorem dX6_writePoint_111 : decode cX6_writePoint 111 = .ok (.aload_n 0, 1) := by decide +kernel
theorem dX6_writePoint_112 : decode cX6_writePoint 112 = .ok (.getfield 47, 3) := by decide +kernel
theorem dX6_writePoint_115 : decode cX6_writePoint 115 = .ok (.invokevirtual 279, 3) := by decide +kernel
theorem dX6_writePoint_118 : decode cX6_writePoint 118 = .ok (.aload_n 0, 1) := by decide +kernel
theorem dX6_writePoint_119 : decode cX6_writePoint 119 = .ok (.iconst 0, 1) := by decide +kernel
theorem dX6_writePoint_120 : decode cX6_writePoint 120 = .ok (.invokevirtual 270, 3) := by decide +kernel
theorem dX6_writePoint_123 : decode cX6_writePoint 123 = .ok (.return_, 1) := by decide +kernel
theorem dX6_putFile_0 : decode cX6_putFile 0 = .ok (.iconst 0, 1) := by decide +kernel
theorem dX6_putFile_1 : decode cX6_putFile 1 = .ok (.istore_n 2, 1) := by decide +kernel
theorem dX6_putFile_2 : decode cX6_putFile 2 = .ok (.iload_n 2, 1) := by decide +kernel
theorem dX6_putFile_3 : decode cX6_putFile 3 = .ok (.bipush 14, 2) := by decide +kernel
theorem dX6_putFile_5 : decode cX6_putFile 5 = .ok (.if_icmp .ge 57, 3) := by decide +kernel
theorem dX6_putFile_8 : decode cX6_putFile 8 = .ok (.aload_n 0, 1) := by decide +kernel
theorem dX6_putFile_9 : decode cX6_putFile 9 = .ok (.getfield 33, 3) := by decide +kernel
theorem dX6_putFile_12 : decode cX6_putFile 12 = .ok (.iload_n 1, 1) := by decide +kernel
theorem dX6_putFile_13 : decode cX6_putFile 13 = .ok (.iload_n 2, 1) := by decide +kernel
theorem dX6_putFile_14 : decode cX6_putFile 14 = .ok (.invokevirtual 283, 3) := by decide +kernel
theorem dX6_putFile_17 : decode cX6_putFile 17 = .ok (.ifCond .eq 39, 3) := by decide +kernel
theorem dX6_putFile_20 : decode cX6_putFile 20 = .ok (.aload_n 0, 1) := by decide +kernel
theorem dX6_putFile_21 : decode cX6_putFile 21 = .ok (.getfield 26, 3) := by decide +kernel
theorem dX6_putFile_24 : decode cX6_putFile 24 = .ok (.invokevirtual 263, 3) := by decide +kernel
theorem dX6_putFile_27 : decode cX6_putFile 27 = .ok (.istore_n 3, 1) := by decide +kernel
theorem dX6_putFile_28 : decode cX6_putFile 28 = .ok (.aload_n 0, 1) := by decide +kernel
theorem dX6_putFile_29 : decode cX6_putFile 29 = .ok (.getfield 33, 3) := by decide +kernel
theorem dX6_putFile_32 : decode cX6_putFile 32 = .ok (.iload_n 1, 1) := by decide +kernel
theorem dX6_putFile_33 : decode cX6_putFile 33 = .ok (.iload_n 2, 1) := by decide +kernel
theorem dX6_putFile_34 : decode cX6_putFile 34 = .ok (.aload_n 0, 1) := by decide +kernel
theorem dX6_putFile_35 : decode cX6_putFile 35 = .ok (.getfield 47, 3) := by decide +kernel
theorem dX6_putFile_38 : decode cX6_putFile 38 = .ok (.invokevirtual 287, 3) := by decide +kernel
theorem dX6_putFile_41 : decode cX6_putFile 41 = .ok (.aload_n 0, 1) := by decide +kernel
theorem dX6_putFile_42 : decode cX6_putFile 42 = .ok (.iload_n 3, 1) := by decide +kernel
theorem dX6_putFile_43 : decode cX6_putFile 43 = .ok (.invokevirtual 270, 3) := by decide +kernel
theorem dX6_putFile_46 : decode cX6_putFile 46 = .ok (.aload_n 0, 1) := by decide +kernel
theorem dX6_putFile_47 : decode cX6_putFile 47 = .ok (.getfield 33, 3) := by decide +kernel
theorem dX6_putFile_50 : decode cX6_putFile 50 = .ok (.iload_n 1, 1) := by decide +kernel
theorem dX6_putFile_51 : decode cX6_putFile 51 = .ok (.iload_n 2, 1) := by decide +kernel
theorem dX6_putFile_52 : decode cX6_putFile 52 = .ok (.iload_n 3, 1) := by decide +kernel
theorem dX6_putFile_53 : decode cX6_putFile 53 = .ok (.invokevirtual 291, 3) := by decide +kernel
theorem dX6_putFile_56 : decode cX6_putFile 56 = .ok (.iinc 2 1, 3) := by decide +kernel
theorem dX6_putFile_59 : decode cX6_putFile 59 = .ok (.goto (-57), 3) := by decide +kernel
theorem dX6_putFile_62 : decode cX6_putFile 62 = .ok (.iconst 0, 1) := by decide +kernel
theorem dX6_putFile_63 : decode cX6_putFile 63 = .ok (.istore_n 2, 1) := by decide +kernel
theorem dX6_putFile_64 : decode cX6_putFile 64 = .ok (.aload_n 0, 1) := by decide +kernel
theorem dX6_putFile_65 : decode cX6_putFile 65 = .ok (.getfield 33, 3) := by decide +kernel
theorem dX6_putFile_68 : decode cX6_putFile 68 = .ok (.iload_n 1, 1) := by decide +kernel
theorem dX6_putFile_69 : decode cX6_putFile 69 = .ok (.invokevirtual 68, 3) := by decide +kernel
theorem dX6_putFile_72 : decode cX6_putFile 72 = .ok (.iconst (-1), 1) := by decide +kernel
theorem dX6_putFile_73 : decode cX6_putFile 73 = .ok (.if_icmp .eq 28, 3) := by decide +kernel
theorem dX6_putFile_76 : decode cX6_putFile 76 = .ok (.aload_n 0, 1) := by decide +kernel
theorem dX6_putFile_77 : decode cX6_putFile 77 = .ok (.getfield 26, 3) := by decide +kernel
theorem dX6_putFile_80 : decode cX6_putFile 80 = .ok (.invokevirtual 263, 3) := by decide +kernel
theorem dX6_putFile_83 : decode cX6_putFile 83 = .ok (.istore_n 2, 1) := by decide +kernel
theorem dX6_putFile_84 : decode cX6_putFile 84 = .ok (.aload_n 0, 1) := by decide +kernel
theorem dX6_putFile_85 : decode cX6_putFile 85 = .ok (.getfield 33, 3) := by decide +kernel
theorem dX6_putFile_88 : decode cX6_putFile 88 = .ok (.iload_n 1, 1) := by decide +kernel
theorem dX6_putFile_89 : decode cX6_putFile 89 = .ok (.aload_n 0, 1) := by decide +kernel
theorem dX6_putFile_90 : decode cX6_putFile 90 = .ok (.getfield 47, 3) := by decide +kernel
theorem dX6_putFile_93 : decode cX6_putFile 93 = .ok (.invokevirtual 295, 3) := by decide +kernel
theorem dX6_putFile_96 : decode cX6_putFile 96 = .ok (.aload_n 0, 1) := by decide +kernel
theorem dX6_putFile_97 : decode cX6_putFile 97 = .ok (.iload_n 2, 1) := by decide +kernel
theorem dX6_putFile_98 : decode cX6_putFile 98 = .ok (.invokevirtual 270, 3) := by decide +kernel
theorem dX6_putFile_101 : decode cX6_putFile 101 = .ok (.aload_n 0, 1) := by decide +kernel
theorem dX6_putFile_102 : decode cX6_putFile 102 = .ok (.getfield 33, 3) := by decide +kernel
theorem dX6_putFile_105 : decode cX6_putFile 105 = .ok (.iload_n 1, 1) := by decide +kernel
theorem dX6_putFile_106 : decode cX6_putFile 106 = .ok (.iload_n 2, 1) := by decide +kernel
theorem dX6_putFile_107 : decode cX6_putFile 107 = .ok (.invokevirtual 298, 3) := by decide +kernel
theorem dX6_putFile_110 : decode cX6_putFile 110 = .ok (.return_, 1) := by decide +kernel
theorem dX6_putAt_0 : decode cX6_putAt 0 = .ok (.aload_n 0, 1) := by decide +kernel
theorem dX6_putAt_1 : decode cX6_putAt 1 = .ok (.getfield 247, 3) := by decide +kernel
theorem dX6_putAt_4 : decode cX6_putAt 4 = .ok (.ifCond .le 25, 3) := by decide +kernel
theorem dX6_putAt_7 : decode cX6_putAt 7 = .ok (.aload_n 0, 1) := by decide +kernel
theorem dX6_putAt_8 : decode cX6_putAt 8 = .ok (.dup, 1) := by decide +kernel
theorem dX6_putAt_9 : decode cX6_putAt 9 = .ok (.getfield 247, 3) := by decide +kernel
theorem dX6_putAt_12 : decode cX6_putAt 12 = .ok (.iconst 1, 1) := by decide +kernel
theorem dX6_putAt_13 : decode cX6_putAt 13 = .ok (.isub, 1) := by decide +kernel
theorem dX6_putAt_14 : decode cX6_putAt 14 = .ok (.putfield 247, 3) := by decide +kernel
theorem dX6_putAt_17 : decode cX6_putAt 17 = .ok (.aload_n 0, 1) := by decide +kernel
theorem dX6_putAt_18 : decode cX6_putAt 18 = .ok (.getfield 12, 3) := by decide +kernel
theorem dX6_putAt_21 : decode cX6_putAt 21 = .ok (.iload_n 1, 1) := by decide +kernel
theorem dX6_putAt_22 : decode cX6_putAt 22 = .ok (.aload_n 0, 1) := by decide +kernel
theorem dX6_putAt_23 : decode cX6_putAt 23 = .ok (.getfield 47, 3) := by decide +kernel
theorem dX6_putAt_26 : decode cX6_putAt 26 = .ok (.invokevirtual 301, 3) := by decide +kernel
theorem dX6_putAt_29 : decode cX6_putAt 29 = .ok (.return_, 1) := by decide +kernel
theorem dX6_rewriteInfo_0 : decode cX6_rewriteInfo 0 = .ok (.aload_n 0, 1) := by decide +kernel
theorem dX6_rewriteInfo_1 : decode cX6_rewriteInfo 1 = .ok (.getfield 19, 3) := by decide +kernel
theorem dX6_rewriteInfo_4 : decode cX6_rewriteInfo 4 = .ok (.aload_n 0, 1) := by decide +kernel
theorem dX6_rewriteInfo_5 : decode cX6_rewriteInfo 5 = .ok (.getfield 47, 3) := by decide +kernel
theorem dX6_rewriteInfo_8 : decode cX6_rewriteInfo 8 = .ok (.invokevirtual 279, 3) := by decide +kernel
theorem dX6_rewriteInfo_11 : decode cX6_rewriteInfo 11 = .ok (.aload_n 0, 1) := by decide +kernel
theorem dX6_rewriteInfo_12 : decode cX6_rewriteInfo 12 = .ok (.getfield 12, 3) := by decide +kernel
theorem dX6_rewriteInfo_15 : decode cX6_rewriteInfo 15 = .ok (.iconst 0, 1) := by decide +kernel
theorem dX6_rewriteInfo_16 : decode cX6_rewriteInfo 16 = .ok (.aload_n 0, 1) := by decide +kernel
theorem dX6_rewriteInfo_17 : decode cX6_rewriteInfo 17 = .ok (.getfield 47, 3) := by decide +kernel
theorem dX6_rewriteInfo_20 : decode cX6_rewriteInfo 20 = .ok (.invokevirtual 301, 3) := by decide +kernel
theorem dX6_rewriteInfo_23 : decode cX6_rewriteInfo 23 = .ok (.aload_n 0, 1) := by decide +kernel
theorem dX6_rewriteInfo_24 : decode cX6_rewriteInfo 24 = .ok (.getfield 26, 3) := by decide +kernel
theorem dX6_rewriteInfo_27 : decode cX6_rewriteInfo 27 = .ok (.aload_n 0, 1) := by decide +kernel
theorem dX6_rewriteInfo_28 : decode cX6_rewriteInfo 28 = .ok (.getfield 19, 3) := by decide +kernel
theorem dX6_rewriteInfo_31 : decode cX6_rewriteInfo 31 = .ok (.aload_n 0, 1) := by decide +kernel
theorem dX6_rewriteInfo_32 : decode cX6_rewriteInfo 32 = .ok (.getfield 12, 3) := by decide +kernel
theorem dX6_rewriteInfo_35 : decode cX6_rewriteInfo 35 = .ok (.invokevirtual 60, 3) := by decide +kernel
theorem dX6_rewriteInfo_38 : decode cX6_rewriteInfo 38 = .ok (.return_, 1) := by decide +kernel
theorem dX6_readBack_0 : decode cX6_readBack 0 = .ok (.aload_n 0, 1) := by decide +kernel
theorem dX6_readBack_1 : decode cX6_readBack 1 = .ok (.getfield 19, 3) := by decide +kernel
theorem dX6_readBack_4 : decode cX6_readBack 4 = .ok (.aload_n 0, 1) := by decide +kernel
theorem dX6_readBack_5 : decode cX6_readBack 5 = .ok (.getfield 12, 3) := by decide +kernel
theorem dX6_readBack_8 : decode cX6_readBack 8 = .ok (.invokevirtual 304, 3) := by decide +kernel
theorem dX6_readBack_11 : decode cX6_readBack 11 = .ok (.aload_n 0, 1) := by decide +kernel
theorem dX6_readBack_12 : decode cX6_readBack 12 = .ok (.getfield 33, 3) := by decide +kernel
theorem dX6_readBack_15 : decode cX6_readBack 15 = .ok (.invokevirtual 58, 3) := by decide +kernel
theorem dX6_readBack_18 : decode cX6_readBack 18 = .ok (.iconst 0, 1) := by decide +kernel
theorem dX6_readBack_19 : decode cX6_readBack 19 = .ok (.istore_n 1, 1) := by decide +kernel
theorem dX6_readBack_20 : decode cX6_readBack 20 = .ok (.iload_n 1, 1) := by decide +kernel
theorem dX6_readBack_21 : decode cX6_readBack 21 = .ok (.bipush 32, 2) := by decide +kernel
theorem dX6_readBack_23 : decode cX6_readBack 23 = .ok (.if_icmp .ge 27, 3) := by decide +kernel
theorem dX6_readBack_26 : decode cX6_readBack 26 = .ok (.aload_n 0, 1) := by decide +kernel
theorem dX6_readBack_27 : decode cX6_readBack 27 = .ok (.getfield 33, 3) := by decide +kernel
theorem dX6_readBack_30 : decode cX6_readBack 30 = .ok (.iload_n 1, 1) := by decide +kernel
theorem dX6_readBack_31 : decode cX6_readBack 31 = .ok (.aload_n 0, 1) := by decide +kernel
theorem dX6_readBack_32 : decode cX6_readBack 32 = .ok (.iconst (-1), 1) := by decide +kernel
theorem dX6_readBack_33 : decode cX6_readBack 33 = .ok (.iload_n 1, 1) := by decide +kernel
theorem dX6_readBack_34 : decode cX6_readBack 34 = .ok (.invokevirtual 129, 3) := by decide +kernel
theorem dX6_readBack_37 : decode cX6_readBack 37 = .ok (.aload_n 0, 1) := by decide +kernel
theorem dX6_readBack_38 : decode cX6_readBack 38 = .ok (.getfield 12, 3) := by decide +kernel
theorem dX6_readBack_41 : decode cX6_readBack 41 = .ok (.invokevirtual 308, 3) := by decide +kernel
theorem dX6_readBack_44 : decode cX6_readBack 44 = .ok (.iinc 1 1, 3) := by decide +kernel
theorem dX6_readBack_47 : decode cX6_readBack 47 = .ok (.goto (-27), 3) := by decide +kernel
theorem dX6_readBack_50 : decode cX6_readBack 50 = .ok (.aload_n 0, 1) := by decide +kernel
theorem dX6_readBack_51 : decode cX6_readBack 51 = .ok (.getfield 26, 3) := by decide +kernel
theorem dX6_readBack_54 : decode cX6_readBack 54 = .ok (.aload_n 0, 1) := by decide +kernel
theorem dX6_readBack_55 : decode cX6_readBack 55 = .ok (.getfield 19, 3) := by decide +kernel
theorem dX6_readBack_58 : decode cX6_readBack 58 = .ok (.aload_n 0, 1) := by decide +kernel
theorem dX6_readBack_59 : decode cX6_readBack 59 = .ok (.getfield 12, 3) := by decide +kernel
theorem dX6_readBack_62 : decode cX6_readBack 62 = .ok (.invokevirtual 60, 3) := by decide +kernel
theorem dX6_readBack_65 : decode cX6_readBack 65 = .ok (.aload_n 0, 1) := by decide +kernel
theorem dX6_readBack_66 : decode cX6_readBack 66 = .ok (.getfield 40, 3) := by decide +kernel
theorem dX6_readBack_69 : decode cX6_readBack 69 = .ok (.aload_n 0, 1) := by decide +kernel
theorem dX6_readBack_70 : decode cX6_readBack 70 = .ok (.getfield 33, 3) := by decide +kernel
theorem dX6_readBack_73 : decode cX6_readBack 73 = .ok (.invokevirtual 312, 3) := by decide +kernel
theorem dX6_readBack_76 : decode cX6_readBack 76 = .ok (.return_, 1) := by decide +kernel
theorem dX7_init_0 : decode cX7_init 0 = .ok (.aload_n 0, 1) := by decide +kernel
theorem dX7_init_1 : decode cX7_init 1 = .ok (.invokespecial 1, 3) := by decide +kernel
theorem dX7_init_4 : decode cX7_init 4 = .ok (.aload_n 0, 1) := by decide +kernel
theorem dX7_init_5 : decode cX7_init 5 = .ok (.sipush 19200, 3) := by decide +kernel
theorem dX7_init_8 : decode cX7_init 8 = .ok (.newarray .int, 2) := by decide +kernel
theorem dX7_init_10 : decode cX7_init 10 = .ok (.putfield 9, 3) := by decide +kernel
theorem dX7_init_13 : decode cX7_init 13 = .ok (.aload_n 0, 1) := by decide +kernel
theorem dX7_init_14 : decode cX7_init 14 = .ok (.bipush 32, 2) := by decide +kernel
theorem dX7_init_16 : decode cX7_init 16 = .ok (.newarray .int, 2) := by decide +kernel
theorem dX7_init_18 : decode cX7_init 18 = .ok (.putfield 13, 3) := by decide +kernel
theorem dX7_init_21 : decode cX7_init 21 = .ok (.aload_n 0, 1) := by decide +kernel
theorem dX7_init_22 : decode cX7_init 22 = .ok (.bipush 32, 2) := by decide +kernel
theorem dX7_init_24 : decode cX7_init 24 = .ok (.sipush 448, 3) := by decide +kernel
theorem dX7_init_27 : decode cX7_init 27 = .ok (.multianewarray 16 2, 4) := by decide +kernel
theorem dX7_init_31 : decode cX7_init 31 = .ok (.putfield 18, 3) := by decide +kernel
theorem dX7_init_34 : decode cX7_init 34 = .ok (.aload_n 0, 1) := by decide +kernel
theorem dX7_init_35 : decode cX7_init 35 = .ok (.bipush 32, 2) := by decide +kernel
theorem dX7_init_37 : decode cX7_init 37 = .ok (.newarray .boolean, 2) := by decide +kernel
theorem dX7_init_39 : decode cX7_init 39 = .ok (.putfield 21, 3) := by decide +kernel
theorem dX7_init_42 : decode cX7_init 42 = .ok (.aload_n 0, 1) := by decide +kernel
theorem dX7_init_43 : decode cX7_init 43 = .ok (.bipush 32, 2) := by decide +kernel
theorem dX7_init_45 : decode cX7_init 45 = .ok (.bipush 14, 2) := by decide +kernel
theorem dX7_init_47 : decode cX7_init 47 = .ok (.multianewarray 25 2, 4) := by decide +kernel
theorem dX7_init_51 : decode cX7_init 51 = .ok (.putfield 27, 3) := by decide +kernel
theorem dX7_init_54 : decode cX7_init 54 = .ok (.aload_n 0, 1) := by decide +kernel
theorem dX7_init_55 : decode cX7_init 55 = .ok (.bipush 40, 2) := by decide +kernel
theorem dX7_init_57 : decode cX7_init 57 = .ok (.newarray .int, 2) := by decide +kernel
theorem dX7_init_59 : decode cX7_init 59 = .ok (.putfield 30, 3) := by decide +kernel
theorem dX7_init_62 : decode cX7_init 62 = .ok (.aload_n 0, 1) := by decide +kernel
theorem dX7_init_63 : decode cX7_init 63 = .ok (.bipush 40, 2) := by decide +kernel
theorem dX7_init_65 : decode cX7_init 65 = .ok (.newarray .int, 2) := by decide +kernel
theorem dX7_init_67 : decode cX7_init 67 = .ok (.putfield 33, 3) := by decide +kernel
theorem dX7_init_70 : decode cX7_init 70 = .ok (.aload_n 0, 1) := by decide +kernel
theorem dX7_init_71 : decode cX7_init 71 = .ok (.bipush 40, 2) := by decide +kernel
theorem dX7_init_73 : decode cX7_init 73 = .ok (.newarray .int, 2) := by decide +kernel
theorem dX7_init_75 : decode cX7_init 75 = .ok (.putfield 36, 3) := by decide +kernel
theorem dX7_init_78 : decode cX7_init 78 = .ok (.aload_n 0, 1) := by decide +kernel
theorem dX7_init_79 : decode cX7_init 79 = .ok (.bipush 40, 2) := by decide +kernel
theorem dX7_init_81 : decode cX7_init 81 = .ok (.newarray .long, 2) := by decide +kernel
theorem dX7_init_83 : decode cX7_init 83 = .ok (.putfield 39, 3) := by decide +kernel
theorem dX7_init_86 : decode cX7_init 86 = .ok (.aload_n 0, 1) := by decide +kernel
theorem dX7_init_87 : decode cX7_init 87 = .ok (.sipush 600, 3) := by decide +kernel
theorem dX7_init_90 : decode cX7_init 90 = .ok (.newarray .int, 2) := by decide +kernel
theorem dX7_init_92 : decode cX7_init 92 = .ok (.putfield 43, 3) := by decide +kernel
theorem dX7_init_95 : decode cX7_init 95 = .ok (.aload_n 0, 1) := by decide +kernel
theorem dX7_init_96 : decode cX7_init 96 = .ok (.sipush 19200, 3) := by decide +kernel
theorem dX7_init_99 : decode cX7_init 99 = .ok (.newarray .int, 2) := by decide +kernel
theorem dX7_init_101 : decode cX7_init 101 = .ok (.putfield 46, 3) := by decide +kernel
theorem dX7_init_104 : decode cX7_init 104 = .ok (.aload_n 0, 1) := by decide +kernel
theorem dX7_init_105 : decode cX7_init 105 = .ok (.bipush 32, 2) := by decide +kernel
theorem dX7_init_107 : decode cX7_init 107 = .ok (.newarray .int, 2) := by decide +kernel
theorem dX7_init_109 : decode cX7_init 109 = .ok (.putfield 49, 3) := by decide +kernel
theorem dX7_init_112 : decode cX7_init 112 = .ok (.aload_n 0, 1) := by decide +kernel
theorem dX7_init_113 : decode cX7_init 113 = .ok (.sipush 600, 3) := by decide +kernel
theorem dX7_init_116 : decode cX7_init 116 = .ok (.newarray .boolean, 2) := by decide +kernel
theorem dX7_init_118 : decode cX7_init 118 = .ok (.putfield 52, 3) := by decide +kernel
theorem dX7_init_121 : decode cX7_init 121 = .ok (.aload_n 0, 1) := by decide +kernel
theorem dX7_init_122 : decode cX7_init 122 = .ok (.invokevirtual 55, 3) := by decide +kernel
theorem dX7_init_125 : decode cX7_init 125 = .ok (.return_, 1) := by decide +kernel
theorem dX7_thrown_0 : decode cX7_thrown 0 = .ok (.aload_n 0, 1) := by decide +kernel
theorem dX7_thrown_1 : decode cX7_thrown 1 = .ok (.getfield 58, 3) := by decide +kernel
theorem dX7_thrown_4 : decode cX7_thrown 4 = .ok (.ireturn, 1) := by decide +kernel
theorem dX7_fails_0 : decode cX7_fails 0 = .ok (.aload_n 0, 1) := by decide +kernel
theorem dX7_fails_1 : decode cX7_fails 1 = .ok (.iload_n 1, 1) := by decide +kernel
theorem dX7_fails_2 : decode cX7_fails 2 = .ok (.ifCond .eq 7, 3) := by decide +kernel
theorem dX7_fails_5 : decode cX7_fails 5 = .ok (.iload_n 2, 1) := by decide +kernel
theorem dX7_fails_6 : decode cX7_fails 6 = .ok (.goto 4, 3) := by decide +kernel
theorem dX7_fails_9 : decode cX7_fails 9 = .ok (.iconst 0, 1) := by decide +kernel
theorem dX7_fails_10 : decode cX7_fails 10 = .ok (.putfield 58, 3) := by decide +kernel
theorem dX7_fails_13 : decode cX7_fails 13 = .ok (.iload_n 1, 1) := by decide +kernel
theorem dX7_fails_14 : decode cX7_fails 14 = .ok (.ireturn, 1) := by decide +kernel
theorem dX7_begin_0 : decode cX7_begin 0 = .ok (.aload_n 0, 1) := by decide +kernel
theorem dX7_begin_1 : decode cX7_begin 1 = .ok (.iconst 0, 1) := by decide +kernel
theorem dX7_begin_2 : decode cX7_begin 2 = .ok (.putfield 58, 3) := by decide +kernel
theorem dX7_begin_5 : decode cX7_begin 5 = .ok (.iconst 0, 1) := by decide +kernel
theorem dX7_begin_6 : decode cX7_begin 6 = .ok (.istore_n 1, 1) := by decide +kernel
theorem dX7_begin_7 : decode cX7_begin 7 = .ok (.iload_n 1, 1) := by decide +kernel
theorem dX7_begin_8 : decode cX7_begin 8 = .ok (.sipush 19200, 3) := by decide +kernel
theorem dX7_begin_11 : decode cX7_begin 11 = .ok (.if_icmp .ge 16, 3) := by decide +kernel
theorem dX7_begin_14 : decode cX7_begin 14 = .ok (.aload_n 0, 1) := by decide +kernel
theorem dX7_begin_15 : decode cX7_begin 15 = .ok (.getfield 9, 3) := by decide +kernel
theorem dX7_begin_18 : decode cX7_begin 18 = .ok (.iload_n 1, 1) := by decide +kernel
theorem dX7_begin_19 : decode cX7_begin 19 = .ok (.iconst 0, 1) := by decide +kernel
theorem dX7_begin_20 : decode cX7_begin 20 = .ok (.iastore, 1) := by decide +kernel
theorem dX7_begin_21 : decode cX7_begin 21 = .ok (.iinc 1 1, 3) := by decide +kernel
theorem dX7_begin_24 : decode cX7_begin 24 = .ok (.goto (-17), 3) := by decide +kernel
theorem dX7_begin_27 : decode cX7_begin 27 = .ok (.aload_n 0, 1) := by decide +kernel
theorem dX7_begin_28 : decode cX7_begin 28 = .ok (.iconst (-1), 1) := by decide +kernel
theorem dX7_begin_29 : decode cX7_begin 29 = .ok (.putfield 62, 3) := by decide +kernel
theorem dX7_begin_32 : decode cX7_begin 32 = .ok (.aload_n 0, 1) := by decide +kernel
theorem dX7_begin_33 : decode cX7_begin 33 = .ok (.sipush 150, 3) := by decide +kernel
theorem dX7_begin_36 : decode cX7_begin 36 = .ok (.putfield 65, 3) := by decide +kernel
theorem dX7_begin_39 : decode cX7_begin 39 = .ok (.aload_n 0, 1) := by decide +kernel
theorem dX7_begin_40 : decode cX7_begin 40 = .ok (.iconst 0, 1) := by decide +kernel
theorem dX7_begin_41 : decode cX7_begin 41 = .ok (.putfield 68, 3) := by decide +kernel
theorem dX7_begin_44 : decode cX7_begin 44 = .ok (.iconst 0, 1) := by decide +kernel
theorem dX7_begin_45 : decode cX7_begin 45 = .ok (.istore_n 1, 1) := by decide +kernel
theorem dX7_begin_46 : decode cX7_begin 46 = .ok (.iload_n 1, 1) := by decide +kernel
theorem dX7_begin_47 : decode cX7_begin 47 = .ok (.bipush 32, 2) := by decide +kernel
theorem dX7_begin_49 : decode cX7_begin 49 = .ok (.if_icmp .ge 15, 3) := by decide +kernel
theorem dX7_begin_52 : decode cX7_begin 52 = .ok (.aload_n 0, 1) := by decide +kernel
theorem dX7_begin_53 : decode cX7_begin 53 = .ok (.iload_n 1, 1) := by decide +kernel
theorem dX7_begin_54 : decode cX7_begin 54 = .ok (.iconst (-1), 1) := by decide +kernel
theorem dX7_begin_55 : decode cX7_begin 55 = .ok (.invokevirtual 72, 3) := by decide +kernel
theorem dX7_begin_58 : decode cX7_begin 58 = .ok (.iinc 1 1, 3) := by decide +kernel
theorem dX7_begin_61 : decode cX7_begin 61 = .ok (.goto (-15), 3) := by decide +kernel
theorem dX7_begin_64 : decode cX7_begin 64 = .ok (.aload_n 0, 1) := by decide +kernel
theorem dX7_begin_65 : decode cX7_begin 65 = .ok (.iconst 0, 1) := by decide +kernel
theorem dX7_begin_66 : decode cX7_begin 66 = .ok (.putfield 76, 3) := by decide +kernel
theorem dX7_begin_69 : decode cX7_begin 69 = .ok (.aload_n 0, 1) := by decide +kernel
theorem dX7_begin_70 : decode cX7_begin 70 = .ok (.iconst 0, 1) := by decide +kernel
theorem dX7_begin_71 : decode cX7_begin 71 = .ok (.putfield 79, 3) := by decide +kernel
theorem dX7_begin_74 : decode cX7_begin 74 = .ok (.return_, 1) := by decide +kernel
theorem dX7_forget_0 : decode cX7_forget 0 = .ok (.aload_n 0, 1) := by decide +kernel
theorem dX7_forget_1 : decode cX7_forget 1 = .ok (.getfield 13, 3) := by decide +kernel
theorem dX7_forget_4 : decode cX7_forget 4 = .ok (.iload_n 1, 1) := by decide +kernel
theorem dX7_forget_5 : decode cX7_forget 5 = .ok (.iload_n 2, 1) := by decide +kernel
theorem dX7_forget_6 : decode cX7_forget 6 = .ok (.iastore, 1) := by decide +kernel
theorem dX7_forget_7 : decode cX7_forget 7 = .ok (.aload_n 0, 1) := by decide +kernel
theorem dX7_forget_8 : decode cX7_forget 8 = .ok (.getfield 21, 3) := by decide +kernel
theorem dX7_forget_11 : decode cX7_forget 11 = .ok (.iload_n 1, 1) := by decide +kernel
theorem dX7_forget_12 : decode cX7_forget 12 = .ok (.iconst 0, 1) := by decide +kernel
theorem dX7_forget_13 : decode cX7_forget 13 = .ok (.bastore, 1) := by decide +kernel
theorem dX7_forget_14 : decode cX7_forget 14 = .ok (.iconst 0, 1) := by decide +kernel
theorem dX7_forget_15 : decode cX7_forget 15 = .ok (.istore_n 3, 1) := by decide +kernel
theorem dX7_forget_16 : decode cX7_forget 16 = .ok (.iload_n 3, 1) := by decide +kernel
theorem dX7_forget_17 : decode cX7_forget 17 = .ok (.bipush 14, 2) := by decide +kernel
theorem dX7_forget_19 : decode cX7_forget 19 = .ok (.if_icmp .ge 18, 3) := by decide +kernel
theorem dX7_forget_22 : decode cX7_forget 22 = .ok (.aload_n 0, 1) := by decide +kernel
theorem dX7_forget_23 : decode cX7_forget 23 = .ok (.getfield 27, 3) := by decide +kernel
theorem dX7_forget_26 : decode cX7_forget 26 = .ok (.iload_n 1, 1) := by decide +kernel
theorem dX7_forget_27 : decode cX7_forget 27 = .ok (.aaload, 1) := by decide +kernel
theorem dX7_forget_28 : decode cX7_forget 28 = .ok (.iload_n 3, 1) := by decide +kernel
theorem dX7_forget_29 : decode cX7_forget 29 = .ok (.iconst 0, 1) := by decide +kernel
theorem dX7_forget_30 : decode cX7_forget 30 = .ok (.bastore, 1) := by decide +kernel
theorem dX7_forget_31 : decode cX7_forget 31 = .ok (.iinc 3 1, 3) := by decide +kernel
theorem dX7_forget_34 : decode cX7_forget 34 = .ok (.goto (-18), 3) := by decide +kernel
theorem dX7_forget_37 : decode cX7_forget 37 = .ok (.return_, 1) := by decide +kernel
theorem dX7_two_0 : decode cX7_two 0 = .ok (.aload_n 0, 1) := by decide +kernel
theorem dX7_two_1 : decode cX7_two 1 = .ok (.getfield 9, 3) := by decide +kernel
theorem dX7_two_4 : decode cX7_two 4 = .ok (.iload_n 1, 1) := by decide +kernel
theorem dX7_two_5 : decode cX7_two 5 = .ok (.bipush 32, 2) := by decide +kernel
theorem dX7_two_7 : decode cX7_two 7 = .ok (.imul, 1) := by decide +kernel
theorem dX7_two_8 : decode cX7_two 8 = .ok (.iload_n 2, 1) := by decide +kernel
theorem dX7_two_9 : decode cX7_two 9 = .ok (.iadd, 1) := by decide +kernel
theorem dX7_two_10 : decode cX7_two 10 = .ok (.iaload, 1) := by decide +kernel
theorem dX7_two_11 : decode cX7_two 11 = .ok (.bipush 8, 2) := by decide +kernel
theorem dX7_two_13 : decode cX7_two 13 = .ok (.ishl, 1) := by decide +kernel
theorem dX7_two_14 : decode cX7_two 14 = .ok (.aload_n 0, 1) := by decide +kernel
theorem dX7_two_15 : decode cX7_two 15 = .ok (.getfield 9, 3) := by decide +kernel
theorem dX7_two_18 : decode cX7_two 18 = .ok (.iload_n 1, 1) := by decide +kernel
theorem dX7_two_19 : decode cX7_two 19 = .ok (.bipush 32, 2) := by decide +kernel
theorem dX7_two_21 : decode cX7_two 21 = .ok (.imul, 1) := by decide +kernel
theorem dX7_two_22 : decode cX7_two 22 = .ok (.iload_n 2, 1) := by decide +kernel
theorem dX7_two_23 : decode cX7_two 23 = .ok (.iadd, 1) := by decide +kernel
theorem dX7_two_24 : decode cX7_two 24 = .ok (.iconst 1, 1) := by decide +kernel
theorem dX7_two_25 : decode cX7_two 25 = .ok (.iadd, 1) := by decide +kernel
theorem dX7_two_26 : decode cX7_two 26 = .ok (.iaload, 1) := by decide +kernel
theorem dX7_two_27 : decode cX7_two 27 = .ok (.ior, 1) := by decide +kernel
theorem dX7_two_28 : decode cX7_two 28 = .ok (.ireturn, 1) := by decide +kernel
theorem dX7_half_0 : decode cX7_half 0 = .ok (.aload_n 0, 1) := by decide +kernel
theorem dX7_half_1 : decode cX7_half 1 = .ok (.iconst 0, 1) := by decide +kernel
theorem dX7_half_2 : decode cX7_half 2 = .ok (.bipush 8, 2) := by decide +kernel
theorem dX7_half_4 : decode cX7_half 4 = .ok (.iconst 4, 1) := by decide +kernel
theorem dX7_half_5 : decode cX7_half 5 = .ok (.iload_n 1, 1) := by decide +kernel
theorem dX7_half_6 : decode cX7_half 6 = .ok (.imul, 1) := by decide +kernel
theorem dX7_half_7 : decode cX7_half 7 = .ok (.iadd, 1) := by decide +kernel
theorem dX7_half_8 : decode cX7_half 8 = .ok (.iconst 2, 1) := by decide +kernel
theorem dX7_half_9 : decode cX7_half 9 = .ok (.iload_n 2, 1) := by decide +kernel
theorem dX7_half_10 : decode cX7_half 10 = .ok (.imul, 1) := by decide +kernel
theorem dX7_half_11 : decode cX7_half 11 = .ok (.iadd, 1) := by decide +kernel
theorem dX7_half_12 : decode cX7_half 12 = .ok (.invokevirtual 82, 3) := by decide +kernel
theorem dX7_half_15 : decode cX7_half 15 = .ok (.ireturn, 1) := by decide +kernel
theorem dX7_inodeOf_0 : decode cX7_inodeOf 0 = .ok (.aload_n 0, 1) := by decide +kernel
theorem dX7_inodeOf_1 : decode cX7_inodeOf 1 = .ok (.iload_n 1, 1) := by decide +kernel
theorem dX7_inodeOf_2 : decode cX7_inodeOf 2 = .ok (.iload_n 2, 1) := by decide +kernel
theorem dX7_inodeOf_3 : decode cX7_inodeOf 3 = .ok (.bipush 16, 2) := by decide +kernel
theorem dX7_inodeOf_5 : decode cX7_inodeOf 5 = .ok (.idiv, 1) := by decide +kernel
theorem dX7_inodeOf_6 : decode cX7_inodeOf 6 = .ok (.invokevirtual 86, 3) := by decide +kernel
theorem dX7_inodeOf_9 : decode cX7_inodeOf 9 = .ok (.istore_n 3, 1) := by decide +kernel
theorem dX7_inodeOf_10 : decode cX7_inodeOf 10 = .ok (.iload_n 3, 1) := by decide +kernel
theorem dX7_inodeOf_11 : decode cX7_inodeOf 11 = .ok (.ifCond .ne 7, 3) := by decide +kernel
theorem dX7_inodeOf_14 : decode cX7_inodeOf 14 = .ok (.iconst 0, 1) := by decide +kernel
theorem dX7_inodeOf_15 : decode cX7_inodeOf 15 = .ok (.goto 14, 3) := by decide +kernel
theorem dX7_inodeOf_18 : decode cX7_inodeOf 18 = .ok (.aload_n 0, 1) := by decide +kernel
theorem dX7_inodeOf_19 : decode cX7_inodeOf 19 = .ok (.iload_n 3, 1) := by decide +kernel
theorem dX7_inodeOf_20 : decode cX7_inodeOf 20 = .ok (.iconst 2, 1) := by decide +kernel
theorem dX7_inodeOf_21 : decode cX7_inodeOf 21 = .ok (.iload_n 2, 1) := by decide +kernel
theorem dX7_inodeOf_22 : decode cX7_inodeOf 22 = .ok (.bipush 16, 2) := by decide +kernel
theorem dX7_inodeOf_24 : decode cX7_inodeOf 24 = .ok (.irem, 1) := by decide +kernel
theorem dX7_inodeOf_25 : decode cX7_inodeOf 25 = .ok (.imul, 1) := by decide +kernel
theorem dX7_inodeOf_26 : decode cX7_inodeOf 26 = .ok (.invokevirtual 82, 3) := by decide +kernel
theorem dX7_inodeOf_29 : decode cX7_inodeOf 29 = .ok (.ireturn, 1) := by decide +kernel
theorem dX7_number_0 : decode cX7_number 0 = .ok (.aload_n 0, 1) := by decide +kernel
theorem dX7_number_1 : decode cX7_number 1 = .ok (.iconst 0, 1) := by decide +kernel
theorem dX7_number_2 : decode cX7_number 2 = .ok (.iconst 0, 1) := by decide +kernel
theorem dX7_number_3 : decode cX7_number 3 = .ok (.invokevirtual 82, 3) := by decide +kernel
theorem dX7_number_6 : decode cX7_number 6 = .ok (.bipush 16, 2) := by decide +kernel
theorem dX7_number_8 : decode cX7_number 8 = .ok (.ishl, 1) := by decide +kernel
theorem dX7_number_9 : decode cX7_number 9 = .ok (.aload_n 0, 1) := by decide +kernel
theorem dX7_number_10 : decode cX7_number 10 = .ok (.iconst 0, 1) := by decide +kernel
theorem dX7_number_11 : decode cX7_number 11 = .ok (.iconst 2, 1) := by decide +kernel
theorem dX7_number_12 : decode cX7_number 12 = .ok (.invokevirtual 82, 3) := by decide +kernel
theorem dX7_number_15 : decode cX7_number 15 = .ok (.ior, 1) := by decide +kernel
theorem dX7_number_16 : decode cX7_number 16 = .ok (.ireturn, 1) := by decide +kernel
theorem dX7_there_0 : decode cX7_there 0 = .ok (.aload_n 0, 1) := by decide +kernel
theorem dX7_there_1 : decode cX7_there 1 = .ok (.iload_n 1, 1) := by decide +kernel
theorem dX7_there_2 : decode cX7_there 2 = .ok (.iconst 0, 1) := by decide +kernel
theorem dX7_there_3 : decode cX7_there 3 = .ok (.invokevirtual 86, 3) := by decide +kernel
theorem dX7_there_6 : decode cX7_there 6 = .ok (.ifCond .ne 12, 3) := by decide +kernel
theorem dX7_there_9 : decode cX7_there 9 = .ok (.aload_n 0, 1) := by decide +kernel
theorem dX7_there_10 : decode cX7_there 10 = .ok (.iload_n 1, 1) := by decide +kernel
theorem dX7_there_11 : decode cX7_there 11 = .ok (.iconst 1, 1) := by decide +kernel
theorem dX7_there_12 : decode cX7_there 12 = .ok (.invokevirtual 86, 3) := by decide +kernel
theorem dX7_there_15 : decode cX7_there 15 = .ok (.ifCond .eq 7, 3) := by decide +kernel
theorem dX7_there_18 : decode cX7_there 18 = .ok (.iconst 1, 1) := by decide +kernel
theorem dX7_there_19 : decode cX7_there 19 = .ok (.goto 4, 3) := by decide +kernel
theorem dX7_there_22 : decode cX7_there 22 = .ok (.iconst 0, 1) := by decide +kernel
theorem dX7_there_23 : decode cX7_there 23 = .ok (.ireturn, 1) := by decide +kernel
theorem dX7_free_0 : decode cX7_free 0 = .ok (.iconst 0, 1) := by decide +kernel
theorem dX7_free_1 : decode cX7_free 1 = .ok (.istore_n 1, 1) := by decide +kernel
theorem dX7_free_2 : decode cX7_free 2 = .ok (.iload_n 1, 1) := by decide +kernel
theorem dX7_free_3 : decode cX7_free 3 = .ok (.sipush 600, 3) := by decide +kernel
theorem dX7_free_6 : decode cX7_free 6 = .ok (.if_icmp .ge 24, 3) := by decide +kernel
theorem dX7_free_9 : decode cX7_free 9 = .ok (.aload_n 0, 1) := by decide +kernel
theorem dX7_free_10 : decode cX7_free 10 = .ok (.getfield 52, 3) := by decide +kernel
theorem dX7_free_13 : decode cX7_free 13 = .ok (.iload_n 1, 1) := by decide +kernel
theorem dX7_free_14 : decode cX7_free 14 = .ok (.iload_n 1, 1) := by decide +kernel
theorem dX7_free_15 : decode cX7_free 15 = .ok (.ifCond .ne 7, 3) := by decide +kernel
theorem dX7_free_18 : decode cX7_free 18 = .ok (.iconst 1, 1) := by decide +kernel
theorem dX7_free_19 : decode cX7_free 19 = .ok (.goto 4, 3) := by decide +kernel
theorem dX7_free_22 : decode cX7_free 22 = .ok (.iconst 0, 1) := by decide +kernel
theorem dX7_free_23 : decode cX7_free 23 = .ok (.bastore, 1) := by decide +kernel
theorem dX7_free_24 : decode cX7_free 24 = .ok (.iinc 1 1, 3) := by decide +kernel
theorem dX7_free_27 : decode cX7_free 27 = .ok (.goto (-25), 3) := by decide +kernel
theorem dX7_free_30 : decode cX7_free 30 = .ok (.iconst (-1), 1) := by decide +kernel
theorem dX7_free_31 : decode cX7_free 31 = .ok (.istore_n 1, 1) := by decide +kernel
theorem dX7_free_32 : decode cX7_free 32 = .ok (.iload_n 1, 1) := by decide +kernel
theorem dX7_free_33 : decode cX7_free 33 = .ok (.iconst 5, 1) := by decide +kernel
theorem dX7_free_34 : decode cX7_free 34 = .ok (.if_icmp .ge 102, 3) := by decide +kernel
theorem dX7_free_37 : decode cX7_free 37 = .ok (.iconst 0, 1) := by decide +kernel
theorem dX7_free_38 : decode cX7_free 38 = .ok (.istore_n 2, 1) := by decide +kernel
theorem dX7_free_39 : decode cX7_free 39 = .ok (.iload_n 2, 1) := by decide +kernel
theorem dX7_free_40 : decode cX7_free 40 = .ok (.iconst 2, 1) := by decide +kernel
theorem dX7_free_41 : decode cX7_free 41 = .ok (.if_icmp .ge 21, 3) := by decide +kernel
theorem dX7_free_44 : decode cX7_free 44 = .ok (.aload_n 0, 1) := by decide +kernel
theorem dX7_free_45 : decode cX7_free 45 = .ok (.getfield 52, 3) := by decide +kernel
theorem dX7_free_48 : decode cX7_free 48 = .ok (.aload_n 0, 1) := by decide +kernel
theorem dX7_free_49 : decode cX7_free 49 = .ok (.iload_n 1, 1) := by decide +kernel
theorem dX7_free_50 : decode cX7_free 50 = .ok (.iload_n 2, 1) := by decide +kernel
theorem dX7_free_51 : decode cX7_free 51 = .ok (.invokevirtual 86, 3) := by decide +kernel
theorem dX7_free_54 : decode cX7_free 54 = .ok (.iconst 1, 1) := by decide +kernel
theorem dX7_free_55 : decode cX7_free 55 = .ok (.bastore, 1) := by decide +kernel
theorem dX7_free_56 : decode cX7_free 56 = .ok (.iinc 2 1, 3) := by decide +kernel
theorem dX7_free_59 : decode cX7_free 59 = .ok (.goto (-20), 3) := by decide +kernel
theorem dX7_free_62 : decode cX7_free 62 = .ok (.iconst 0, 1) := by decide +kernel
theorem dX7_free_63 : decode cX7_free 63 = .ok (.istore_n 2, 1) := by decide +kernel
theorem dX7_free_64 : decode cX7_free 64 = .ok (.iload_n 2, 1) := by decide +kernel
theorem dX7_free_65 : decode cX7_free 65 = .ok (.bipush 32, 2) := by decide +kernel
theorem dX7_free_67 : decode cX7_free 67 = .ok (.if_icmp .ge 63, 3) := by decide +kernel
theorem dX7_free_70 : decode cX7_free 70 = .ok (.aload_n 0, 1) := by decide +kernel
theorem dX7_free_71 : decode cX7_free 71 = .ok (.iload_n 1, 1) := by decide +kernel
theorem dX7_free_72 : decode cX7_free 72 = .ok (.iload_n 2, 1) := by decide +kernel
theorem dX7_free_73 : decode cX7_free 73 = .ok (.invokevirtual 89, 3) := by decide +kernel
theorem dX7_free_76 : decode cX7_free 76 = .ok (.istore_n 3, 1) := by decide +kernel
theorem dX7_free_77 : decode cX7_free 77 = .ok (.iload_n 3, 1) := by decide +kernel
theorem dX7_free_78 : decode cX7_free 78 = .ok (.ifCond .ne 6, 3) := by decide +kernel
theorem dX7_free_81 : decode cX7_free 81 = .ok (.goto 43, 3) := by decide +kernel
theorem dX7_free_84 : decode cX7_free 84 = .ok (.aload_n 0, 1) := by decide +kernel
theorem dX7_free_85 : decode cX7_free 85 = .ok (.getfield 52, 3) := by decide +kernel
theorem dX7_free_88 : decode cX7_free 88 = .ok (.iload_n 3, 1) := by decide +kernel
theorem dX7_free_89 : decode cX7_free 89 = .ok (.iconst 1, 1) := by decide +kernel
theorem dX7_free_90 : decode cX7_free 90 = .ok (.bastore, 1) := by decide +kernel
theorem dX7_free_91 : decode cX7_free 91 = .ok (.iconst 0, 1) := by decide +kernel
theorem dX7_free_92 : decode cX7_free 92 = .ok (.istore 4, 2) := by decide +kernel
theorem dX7_free_94 : decode cX7_free 94 = .ok (.iload 4, 2) := by decide +kernel
theorem dX7_free_96 : decode cX7_free 96 = .ok (.bipush 14, 2) := by decide +kernel
theorem dX7_free_98 : decode cX7_free 98 = .ok (.if_icmp .ge 26, 3) := by decide +kernel
theorem dX7_free_101 : decode cX7_free 101 = .ok (.aload_n 0, 1) := by decide +kernel
theorem dX7_free_102 : decode cX7_free 102 = .ok (.getfield 52, 3) := by decide +kernel
theorem dX7_free_105 : decode cX7_free 105 = .ok (.aload_n 0, 1) := by decide +kernel
theorem dX7_free_106 : decode cX7_free 106 = .ok (.iload_n 3, 1) := by decide +kernel
theorem dX7_free_107 : decode cX7_free 107 = .ok (.iconst 2, 1) := by decide +kernel
theorem dX7_free_108 : decode cX7_free 108 = .ok (.iconst 2, 1) := by decide +kernel
theorem dX7_free_109 : decode cX7_free 109 = .ok (.iload 4, 2) := by decide +kernel
theorem dX7_free_111 : decode cX7_free 111 = .ok (.imul, 1) := by decide +kernel
theorem dX7_free_112 : decode cX7_free 112 = .ok (.iadd, 1) := by decide +kernel
theorem dX7_free_113 : decode cX7_free 113 = .ok (.invokevirtual 82, 3) := by decide +kernel
theorem dX7_free_116 : decode cX7_free 116 = .ok (.iconst 1, 1) := by decide +kernel
theorem dX7_free_117 : decode cX7_free 117 = .ok (.bastore, 1) := by decide +kernel
theorem dX7_free_118 : decode cX7_free 118 = .ok (.iinc 4 1, 3) := by decide +kernel
theorem dX7_free_121 : decode cX7_free 121 = .ok (.goto (-27), 3) := by decide +kernel
theorem dX7_free_124 : decode cX7_free 124 = .ok (.iinc 2 1, 3) := by decide +kernel
theorem dX7_free_127 : decode cX7_free 127 = .ok (.goto (-63), 3) := by decide +kernel
theorem dX7_free_130 : decode cX7_free 130 = .ok (.iinc 1 1, 3) := by decide +kernel
theorem dX7_free_133 : decode cX7_free 133 = .ok (.goto (-101), 3) := by decide +kernel
theorem dX7_free_136 : decode cX7_free 136 = .ok (.return_, 1) := by decide +kernel
theorem dX7_noFile_0 : decode cX7_noFile 0 = .ok (.iload_n 1, 1) := by decide +kernel
theorem dX7_noFile_1 : decode cX7_noFile 1 = .ok (.ifCond .lt 9, 3) := by decide +kernel
theorem dX7_noFile_4 : decode cX7_noFile 4 = .ok (.iload_n 1, 1) := by decide +kernel
theorem dX7_noFile_5 : decode cX7_noFile 5 = .ok (.bipush 32, 2) := by decide +kernel
theorem dX7_noFile_7 : decode cX7_noFile 7 = .ok (.if_icmp .lt 7, 3) := by decide +kernel
theorem dX7_noFile_10 : decode cX7_noFile 10 = .ok (.iconst 1, 1) := by decide +kernel
theorem dX7_noFile_11 : decode cX7_noFile 11 = .ok (.goto 4, 3) := by decide +kernel
theorem dX7_noFile_14 : decode cX7_noFile 14 = .ok (.iconst 0, 1) := by decide +kernel
theorem dX7_noFile_15 : decode cX7_noFile 15 = .ok (.ireturn, 1) := by decide +kernel
theorem dX7_written_0 : decode cX7_written 0 = .ok (.aload_n 0, 1) := by decide +kernel
theorem dX7_written_1 : decode cX7_written 1 = .ok (.getfield 13, 3) := by decide +kernel
theorem dX7_written_4 : decode cX7_written 4 = .ok (.iload_n 1, 1) := by decide +kernel
theorem dX7_written_5 : decode cX7_written 5 = .ok (.iaload, 1) := by decide +kernel
theorem dX7_written_6 : decode cX7_written 6 = .ok (.ifCond .ge 10, 3) := by decide +kernel
theorem dX7_written_9 : decode cX7_written 9 = .ok (.aload_n 0, 1) := by decide +kernel
theorem dX7_written_10 : decode cX7_written 10 = .ok (.getfield 13, 3) := by decide +kernel
theorem dX7_written_13 : decode cX7_written 13 = .ok (.iload_n 1, 1) := by decide +kernel
theorem dX7_written_14 : decode cX7_written 14 = .ok (.iconst 0, 1) := by decide +kernel
theorem dX7_written_15 : decode cX7_written 15 = .ok (.iastore, 1) := by decide +kernel
theorem dX7_written_16 : decode cX7_written 16 = .ok (.iconst 0, 1) := by decide +kernel
theorem dX7_written_17 : decode cX7_written 17 = .ok (.istore 5, 2) := by decide +kernel
theorem dX7_written_19 : decode cX7_written 19 = .ok (.iload 5, 2) := by decide +kernel
theorem dX7_written_21 : decode cX7_written 21 = .ok (.bipush 8, 2) := by decide +kernel
theorem dX7_written_23 : decode cX7_written 23 = .ok (.if_icmp .ge 35, 3) := by decide +kernel
theorem dX7_written_26 : decode cX7_written 26 = .ok (.aload_n 0, 1) := by decide +kernel
theorem dX7_written_27 : decode cX7_written 27 = .ok (.getfield 18, 3) := by decide +kernel
theorem dX7_written_30 : decode cX7_written 30 = .ok (.iload_n 1, 1) := by decide +kernel
theorem dX7_written_31 : decode cX7_written 31 = .ok (.aaload, 1) := by decide +kernel
theorem dX7_written_32 : decode cX7_written 32 = .ok (.iload_n 2, 1) := by decide +kernel
theorem dX7_written_33 : decode cX7_written 33 = .ok (.iload 5, 2) := by decide +kernel
theorem dX7_written_35 : decode cX7_written 35 = .ok (.iadd, 1) := by decide +kernel
theorem dX7_written_36 : decode cX7_written 36 = .ok (.lload_n 3, 1) := by decide +kernel
theorem dX7_written_37 : decode cX7_written 37 = .ok (.bipush 56, 2) := by decide +kernel
theorem dX7_written_39 : decode cX7_written 39 = .ok (.bipush 8, 2) := by decide +kernel
theorem dX7_written_41 : decode cX7_written 41 = .ok (.iload 5, 2) := by decide +kernel
theorem dX7_written_43 : decode cX7_written 43 = .ok (.imul, 1) := by decide +kernel
theorem dX7_written_44 : decode cX7_written 44 = .ok (.isub, 1) := by decide +kernel
theorem dX7_written_45 : decode cX7_written 45 = .ok (.lushr, 1) := by decide +kernel
theorem dX7_written_46 : decode cX7_written 46 = .ok (.l2i, 1) := by decide +kernel
theorem dX7_written_47 : decode cX7_written 47 = .ok (.sipush 255, 3) := by decide +kernel
theorem dX7_written_50 : decode cX7_written 50 = .ok (.iand, 1) := by decide +kernel
theorem dX7_written_51 : decode cX7_written 51 = .ok (.iastore, 1) := by decide +kernel
theorem dX7_written_52 : decode cX7_written 52 = .ok (.iinc 5 1, 3) := by decide +kernel
theorem dX7_written_55 : decode cX7_written 55 = .ok (.goto (-36), 3) := by decide +kernel
theorem dX7_written_58 : decode cX7_written 58 = .ok (.aload_n 0, 1) := by decide +kernel
theorem dX7_written_59 : decode cX7_written 59 = .ok (.getfield 13, 3) := by decide +kernel
theorem dX7_written_62 : decode cX7_written 62 = .ok (.iload_n 1, 1) := by decide +kernel
theorem dX7_written_63 : decode cX7_written 63 = .ok (.aload_n 0, 1) := by decide +kernel
theorem dX7_written_64 : decode cX7_written 64 = .ok (.getfield 13, 3) := by decide +kernel
theorem dX7_written_67 : decode cX7_written 67 = .ok (.iload_n 1, 1) := by decide +kernel
theorem dX7_written_68 : decode cX7_written 68 = .ok (.iaload, 1) := by decide +kernel
theorem dX7_written_69 : decode cX7_written 69 = .ok (.iload_n 2, 1) := by decide +kernel
theorem dX7_written_70 : decode cX7_written 70 = .ok (.bipush 8, 2) := by decide +kernel
theorem dX7_written_72 : decode cX7_written 72 = .ok (.iadd, 1) := by decide +kernel
theorem dX7_written_73 : decode cX7_written 73 = .ok (.invokestatic 92, 3) := by decide +kernel
theorem dX7_written_76 : decode cX7_written 76 = .ok (.iastore, 1) := by decide +kernel
theorem dX7_written_77 : decode cX7_written 77 = .ok (.aload_n 0, 1) := by decide +kernel
theorem dX7_written_78 : decode cX7_written 78 = .ok (.getfield 21, 3) := by decide +kernel
theorem dX7_written_81 : decode cX7_written 81 = .ok (.iload_n 1, 1) := by decide +kernel
theorem dX7_written_82 : decode cX7_written 82 = .ok (.iconst 1, 1) := by decide +kernel
theorem dX7_written_83 : decode cX7_written 83 = .ok (.bastore, 1) := by decide +kernel
theorem dX7_written_84 : decode cX7_written 84 = .ok (.aload_n 0, 1) := by decide +kernel
theorem dX7_written_85 : decode cX7_written 85 = .ok (.getfield 27, 3) := by decide +kernel
theorem dX7_written_88 : decode cX7_written 88 = .ok (.iload_n 1, 1) := by decide +kernel
theorem dX7_written_89 : decode cX7_written 89 = .ok (.aaload, 1) := by decide +kernel
theorem dX7_written_90 : decode cX7_written 90 = .ok (.iload_n 2, 1) := by decide +kernel
theorem dX7_written_91 : decode cX7_written 91 = .ok (.bipush 32, 2) := by decide +kernel
theorem dX7_written_93 : decode cX7_written 93 = .ok (.idiv, 1) := by decide +kernel
theorem dX7_written_94 : decode cX7_written 94 = .ok (.iconst 1, 1) := by decide +kernel
theorem dX7_written_95 : decode cX7_written 95 = .ok (.bastore, 1) := by decide +kernel
theorem dX7_written_96 : decode cX7_written 96 = .ok (.aload_n 0, 1) := by decide +kernel
theorem dX7_written_97 : decode cX7_written 97 = .ok (.getfield 27, 3) := by decide +kernel
theorem dX7_written_100 : decode cX7_written 100 = .ok (.iload_n 1, 1) := by decide +kernel
theorem dX7_written_101 : decode cX7_written 101 = .ok (.aaload, 1) := by decide +kernel
theorem dX7_written_102 : decode cX7_written 102 = .ok (.iload_n 2, 1) := by decide +kernel
theorem dX7_written_103 : decode cX7_written 103 = .ok (.bipush 7, 2) := by decide +kernel
theorem dX7_written_105 : decode cX7_written 105 = .ok (.iadd, 1) := by decide +kernel
theorem dX7_written_106 : decode cX7_written 106 = .ok (.bipush 32, 2) := by decide +kernel
theorem dX7_written_108 : decode cX7_written 108 = .ok (.idiv, 1) := by decide +kernel
theorem dX7_written_109 : decode cX7_written 109 = .ok (.iconst 1, 1) := by decide +kernel
theorem dX7_written_110 : decode cX7_written 110 = .ok (.bastore, 1) := by decide +kernel
theorem dX7_written_111 : decode cX7_written 111 = .ok (.return_, 1) := by decide +kernel
theorem dX7_cutTo_0 : decode cX7_cutTo 0 = .ok (.aload_n 0, 1) := by decide +kernel
theorem dX7_cutTo_1 : decode cX7_cutTo 1 = .ok (.getfield 13, 3) := by decide +kernel
theorem dX7_cutTo_4 : decode cX7_cutTo 4 = .ok (.iload_n 1, 1) := by decide +kernel
theorem dX7_cutTo_5 : decode cX7_cutTo 5 = .ok (.iload_n 2, 1) := by decide +kernel
theorem dX7_cutTo_6 : decode cX7_cutTo 6 = .ok (.iastore, 1) := by decide +kernel
theorem dX7_cutTo_7 : decode cX7_cutTo 7 = .ok (.aload_n 0, 1) := by decide +kernel
theorem dX7_cutTo_8 : decode cX7_cutTo 8 = .ok (.getfield 21, 3) := by decide +kernel
theorem dX7_cutTo_11 : decode cX7_cutTo 11 = .ok (.iload_n 1, 1) := by decide +kernel
theorem dX7_cutTo_12 : decode cX7_cutTo 12 = .ok (.iconst 1, 1) := by decide +kernel
theorem dX7_cutTo_13 : decode cX7_cutTo 13 = .ok (.bastore, 1) := by decide +kernel
theorem dX7_cutTo_14 : decode cX7_cutTo 14 = .ok (.iload_n 2, 1) := by decide +kernel
theorem dX7_cutTo_15 : decode cX7_cutTo 15 = .ok (.bipush 32, 2) := by decide +kernel
theorem dX7_cutTo_17 : decode cX7_cutTo 17 = .ok (.iadd, 1) := by decide +kernel
theorem dX7_cutTo_18 : decode cX7_cutTo 18 = .ok (.iconst 1, 1) := by decide +kernel
theorem dX7_cutTo_19 : decode cX7_cutTo 19 = .ok (.isub, 1) := by decide +kernel
theorem dX7_cutTo_20 : decode cX7_cutTo 20 = .ok (.bipush 32, 2) := by decide +kernel
theorem dX7_cutTo_22 : decode cX7_cutTo 22 = .ok (.idiv, 1) := by decide +kernel
theorem dX7_cutTo_23 : decode cX7_cutTo 23 = .ok (.istore_n 3, 1) := by decide +kernel
theorem dX7_cutTo_24 : decode cX7_cutTo 24 = .ok (.iload_n 3, 1) := by decide +kernel
theorem dX7_cutTo_25 : decode cX7_cutTo 25 = .ok (.bipush 14, 2) := by decide +kernel
theorem dX7_cutTo_27 : decode cX7_cutTo 27 = .ok (.if_icmp .ge 18, 3) := by decide +kernel
theorem dX7_cutTo_30 : decode cX7_cutTo 30 = .ok (.aload_n 0, 1) := by decide +kernel
theorem dX7_cutTo_31 : decode cX7_cutTo 31 = .ok (.getfield 27, 3) := by decide +kernel
theorem dX7_cutTo_34 : decode cX7_cutTo 34 = .ok (.iload_n 1, 1) := by decide +kernel
theorem dX7_cutTo_35 : decode cX7_cutTo 35 = .ok (.aaload, 1) := by decide +kernel
theorem dX7_cutTo_36 : decode cX7_cutTo 36 = .ok (.iload_n 3, 1) := by decide +kernel
theorem dX7_cutTo_37 : decode cX7_cutTo 37 = .ok (.iconst 0, 1) := by decide +kernel
theorem dX7_cutTo_38 : decode cX7_cutTo 38 = .ok (.bastore, 1) := by decide +kernel
theorem dX7_cutTo_39 : decode cX7_cutTo 39 = .ok (.iinc 3 1, 3) := by decide +kernel
theorem dX7_cutTo_42 : decode cX7_cutTo 42 = .ok (.goto (-18), 3) := by decide +kernel
theorem dX7_cutTo_45 : decode cX7_cutTo 45 = .ok (.return_, 1) := by decide +kernel
theorem dX7_none_0 : decode cX7_none 0 = .ok (.aload_n 0, 1) := by decide +kernel
theorem dX7_none_1 : decode cX7_none 1 = .ok (.iload_n 1, 1) := by decide +kernel
theorem dX7_none_2 : decode cX7_none 2 = .ok (.iconst (-1), 1) := by decide +kernel
theorem dX7_none_3 : decode cX7_none 3 = .ok (.invokevirtual 72, 3) := by decide +kernel
theorem dX7_none_6 : decode cX7_none 6 = .ok (.aload_n 0, 1) := by decide +kernel
theorem dX7_none_7 : decode cX7_none 7 = .ok (.getfield 21, 3) := by decide +kernel
theorem dX7_none_10 : decode cX7_none 10 = .ok (.iload_n 1, 1) := by decide +kernel
theorem dX7_none_11 : decode cX7_none 11 = .ok (.iconst 1, 1) := by decide +kernel
theorem dX7_none_12 : decode cX7_none 12 = .ok (.bastore, 1) := by decide +kernel
theorem dX7_none_13 : decode cX7_none 13 = .ok (.return_, 1) := by decide +kernel
theorem dX7_done_0 : decode cX7_done 0 = .ok (.iload_n 1, 1) := by decide +kernel
theorem dX7_done_1 : decode cX7_done 1 = .ok (.ifCond .ne 14, 3) := by decide +kernel
theorem dX7_done_4 : decode cX7_done 4 = .ok (.aload_n 0, 1) := by decide +kernel
theorem dX7_done_5 : decode cX7_done 5 = .ok (.iload_n 2, 1) := by decide +kernel
theorem dX7_done_6 : decode cX7_done 6 = .ok (.iload_n 3, 1) := by decide +kernel
theorem dX7_done_7 : decode cX7_done 7 = .ok (.lload 4, 2) := by decide +kernel
theorem dX7_done_9 : decode cX7_done 9 = .ok (.invokevirtual 97, 3) := by decide +kernel
theorem dX7_done_12 : decode cX7_done 12 = .ok (.goto 22, 3) := by decide +kernel
theorem dX7_done_15 : decode cX7_done 15 = .ok (.iload_n 1, 1) := by decide +kernel
theorem dX7_done_16 : decode cX7_done 16 = .ok (.iconst 1, 1) := by decide +kernel
theorem dX7_done_17 : decode cX7_done 17 = .ok (.if_icmp .ne 12, 3) := by decide +kernel
theorem dX7_done_20 : decode cX7_done 20 = .ok (.aload_n 0, 1) := by decide +kernel
theorem dX7_done_21 : decode cX7_done 21 = .ok (.iload_n 2, 1) := by decide +kernel
theorem dX7_done_22 : decode cX7_done 22 = .ok (.iload_n 3, 1) := by decide +kernel
theorem dX7_done_23 : decode cX7_done 23 = .ok (.invokevirtual 100, 3) := by decide +kernel
theorem dX7_done_26 : decode cX7_done 26 = .ok (.goto 8, 3) := by decide +kernel
theorem dX7_done_29 : decode cX7_done 29 = .ok (.aload_n 0, 1) := by decide +kernel
theorem dX7_done_30 : decode cX7_done 30 = .ok (.iload_n 2, 1) := by decide +kernel
theorem dX7_done_31 : decode cX7_done 31 = .ok (.invokevirtual 103, 3) := by decide +kernel
theorem dX7_done_34 : decode cX7_done 34 = .ok (.return_, 1) := by decide +kernel
theorem dX7_change_0 : decode cX7_change 0 = .ok (.aload_n 0, 1) := by decide +kernel
theorem dX7_change_1 : decode cX7_change 1 = .ok (.getfield 76, 3) := by decide +kernel
theorem dX7_change_4 : decode cX7_change 4 = .ok (.bipush 40, 2) := by decide +kernel
theorem dX7_change_6 : decode cX7_change 6 = .ok (.if_icmp .ne 25, 3) := by decide +kernel
theorem dX7_change_9 : decode cX7_change 9 = .ok (.aload_n 0, 1) := by decide +kernel
theorem dX7_change_10 : decode cX7_change 10 = .ok (.invokevirtual 107, 3) := by decide +kernel
theorem dX7_change_13 : decode cX7_change 13 = .ok (.ifCond .ne 9, 3) := by decide +kernel
theorem dX7_change_16 : decode cX7_change 16 = .ok (.aload_n 0, 1) := by decide +kernel
theorem dX7_change_17 : decode cX7_change 17 = .ok (.iconst 3, 1) := by decide +kernel
theorem dX7_change_18 : decode cX7_change 18 = .ok (.putfield 58, 3) := by decide +kernel
theorem dX7_change_21 : decode cX7_change 21 = .ok (.return_, 1) := by decide +kernel
theorem dX7_change_22 : decode cX7_change 22 = .ok (.aload_n 0, 1) := by decide +kernel
theorem dX7_change_23 : decode cX7_change 23 = .ok (.aload_n 0, 1) := by decide +kernel
theorem dX7_change_24 : decode cX7_change 24 = .ok (.getfield 111, 3) := by decide +kernel
theorem dX7_change_27 : decode cX7_change 27 = .ok (.invokevirtual 114, 3) := by decide +kernel
theorem dX7_change_30 : decode cX7_change 30 = .ok (.pop, 1) := by decide +kernel
theorem dX7_change_31 : decode cX7_change 31 = .ok (.aload_n 0, 1) := by decide +kernel
theorem dX7_change_32 : decode cX7_change 32 = .ok (.iconst 0, 1) := by decide +kernel
theorem dX7_change_33 : decode cX7_change 33 = .ok (.putfield 58, 3) := by decide +kernel
theorem dX7_change_36 : decode cX7_change 36 = .ok (.aload_n 0, 1) := by decide +kernel
theorem dX7_change_37 : decode cX7_change 37 = .ok (.getfield 30, 3) := by decide +kernel
theorem dX7_change_40 : decode cX7_change 40 = .ok (.aload_n 0, 1) := by decide +kernel
theorem dX7_change_41 : decode cX7_change 41 = .ok (.getfield 76, 3) := by decide +kernel
theorem dX7_change_44 : decode cX7_change 44 = .ok (.iload_n 1, 1) := by decide +kernel
theorem dX7_change_45 : decode cX7_change 45 = .ok (.iastore, 1) := by decide +kernel
theorem dX7_change_46 : decode cX7_change 46 = .ok (.aload_n 0, 1) := by decide +kernel
theorem dX7_change_47 : decode cX7_change 47 = .ok (.getfield 33, 3) := by decide +kernel
theorem dX7_change_50 : decode cX7_change 50 = .ok (.aload_n 0, 1) := by decide +kernel
theorem dX7_change_51 : decode cX7_change 51 = .ok (.getfield 76, 3) := by decide +kernel
theorem dX7_change_54 : decode cX7_change 54 = .ok (.iload_n 2, 1) := by decide +kernel
theorem dX7_change_55 : decode cX7_change 55 = .ok (.iastore, 1) := by decide +kernel
theorem dX7_change_56 : decode cX7_change 56 = .ok (.aload_n 0, 1) := by decide +kernel
theorem dX7_change_57 : decode cX7_change 57 = .ok (.getfield 36, 3) := by decide +kernel
theorem dX7_change_60 : decode cX7_change 60 = .ok (.aload_n 0, 1) := by decide +kernel
theorem dX7_change_61 : decode cX7_change 61 = .ok (.getfield 76, 3) := by decide +kernel
theorem dX7_change_64 : decode cX7_change 64 = .ok (.iload_n 3, 1) := by decide +kernel
theorem dX7_change_65 : decode cX7_change 65 = .ok (.iastore, 1) := by decide +kernel
theorem dX7_change_66 : decode cX7_change 66 = .ok (.aload_n 0, 1) := by decide +kernel
theorem dX7_change_67 : decode cX7_change 67 = .ok (.getfield 39, 3) := by decide +kernel
theorem dX7_change_70 : decode cX7_change 70 = .ok (.aload_n 0, 1) := by decide +kernel
theorem dX7_change_71 : decode cX7_change 71 = .ok (.dup, 1) := by decide +kernel
theorem dX7_change_72 : decode cX7_change 72 = .ok (.getfield 76, 3) := by decide +kernel
theorem dX7_change_75 : decode cX7_change 75 = .ok (.dup_x1, 1) := by decide +kernel
theorem dX7_change_76 : decode cX7_change 76 = .ok (.iconst 1, 1) := by decide +kernel
theorem dX7_change_77 : decode cX7_change 77 = .ok (.iadd, 1) := by decide +kernel
theorem dX7_change_78 : decode cX7_change 78 = .ok (.putfield 76, 3) := by decide +kernel
theorem dX7_change_81 : decode cX7_change 81 = .ok (.lload 4, 2) := by decide +kernel
theorem dX7_change_83 : decode cX7_change 83 = .ok (.lastore, 1) := by decide +kernel
theorem dX7_change_84 : decode cX7_change 84 = .ok (.aload_n 0, 1) := by decide +kernel
theorem dX7_change_85 : decode cX7_change 85 = .ok (.iload_n 1, 1) := by decide +kernel
theorem dX7_change_86 : decode cX7_change 86 = .ok (.iload_n 2, 1) := by decide +kernel
theorem dX7_change_87 : decode cX7_change 87 = .ok (.iload_n 3, 1) := by decide +kernel
theorem dX7_change_88 : decode cX7_change 88 = .ok (.lload 4, 2) := by decide +kernel
theorem dX7_change_90 : decode cX7_change 90 = .ok (.invokevirtual 118, 3) := by decide +kernel
theorem dX7_change_93 : decode cX7_change 93 = .ok (.return_, 1) := by decide +kernel
theorem dX7_write_0 : decode cX7_write 0 = .ok (.aload_n 0, 1) := by decide +kernel
theorem dX7_write_1 : decode cX7_write 1 = .ok (.aload_n 0, 1) := by decide +kernel
theorem dX7_write_2 : decode cX7_write 2 = .ok (.iload_n 1, 1) := by decide +kernel
theorem dX7_write_3 : decode cX7_write 3 = .ok (.invokevirtual 122, 3) := by decide +kernel
theorem dX7_write_6 : decode cX7_write 6 = .ok (.ifCond .ne 28, 3) := by decide +kernel
theorem dX7_write_9 : decode cX7_write 9 = .ok (.iload_n 2, 1) := by decide +kernel
theorem dX7_write_10 : decode cX7_write 10 = .ok (.ifCond .lt 24, 3) := by decide +kernel
theorem dX7_write_13 : decode cX7_write 13 = .ok (.iload_n 2, 1) := by decide +kernel
theorem dX7_write_14 : decode cX7_write 14 = .ok (.aload_n 0, 1) := by decide +kernel
theorem dX7_write_15 : decode cX7_write 15 = .ok (.getfield 13, 3) := by decide +kernel
theorem dX7_write_18 : decode cX7_write 18 = .ok (.iload_n 1, 1) := by decide +kernel
theorem dX7_write_19 : decode cX7_write 19 = .ok (.iaload, 1) := by decide +kernel
theorem dX7_write_20 : decode cX7_write 20 = .ok (.iconst 0, 1) := by decide +kernel
theorem dX7_write_21 : decode cX7_write 21 = .ok (.invokestatic 92, 3) := by decide +kernel
theorem dX7_write_24 : decode cX7_write 24 = .ok (.if_icmp .gt 10, 3) := by decide +kernel
theorem dX7_write_27 : decode cX7_write 27 = .ok (.iload_n 2, 1) := by decide +kernel
theorem dX7_write_28 : decode cX7_write 28 = .ok (.sipush 440, 3) := by decide +kernel
theorem dX7_write_31 : decode cX7_write 31 = .ok (.if_icmp .le 7, 3) := by decide +kernel
theorem dX7_write_34 : decode cX7_write 34 = .ok (.iconst 1, 1) := by decide +kernel
theorem dX7_write_35 : decode cX7_write 35 = .ok (.goto 4, 3) := by decide +kernel
theorem dX7_write_38 : decode cX7_write 38 = .ok (.iconst 0, 1) := by decide +kernel
theorem dX7_write_39 : decode cX7_write 39 = .ok (.iconst 1, 1) := by decide +kernel
theorem dX7_write_40 : decode cX7_write 40 = .ok (.invokevirtual 125, 3) := by decide +kernel
theorem dX7_write_43 : decode cX7_write 43 = .ok (.ifCond .eq 5, 3) := by decide +kernel
theorem dX7_write_46 : decode cX7_write 46 = .ok (.iconst 0, 1) := by decide +kernel
theorem dX7_write_47 : decode cX7_write 47 = .ok (.ireturn, 1) := by decide +kernel
theorem dX7_write_48 : decode cX7_write 48 = .ok (.aload_n 0, 1) := by decide +kernel
theorem dX7_write_49 : decode cX7_write 49 = .ok (.aload_n 0, 1) := by decide +kernel
theorem dX7_write_50 : decode cX7_write 50 = .ok (.getfield 68, 3) := by decide +kernel
theorem dX7_write_53 : decode cX7_write 53 = .ok (.iconst 2, 1) := by decide +kernel
theorem dX7_write_54 : decode cX7_write 54 = .ok (.invokevirtual 125, 3) := by decide +kernel
theorem dX7_write_57 : decode cX7_write 57 = .ok (.ifCond .eq 5, 3) := by decide +kernel
theorem dX7_write_60 : decode cX7_write 60 = .ok (.iconst 0, 1) := by decide +kernel
theorem dX7_write_61 : decode cX7_write 61 = .ok (.ireturn, 1) := by decide +kernel
theorem dX7_write_62 : decode cX7_write 62 = .ok (.aload_n 0, 1) := by decide +kernel
theorem dX7_write_63 : decode cX7_write 63 = .ok (.iconst 0, 1) := by decide +kernel
theorem dX7_write_64 : decode cX7_write 64 = .ok (.iload_n 1, 1) := by decide +kernel
theorem dX7_write_65 : decode cX7_write 65 = .ok (.iload_n 2, 1) := by decide +kernel
theorem dX7_write_66 : decode cX7_write 66 = .ok (.lload_n 3, 1) := by decide +kernel
theorem dX7_write_67 : decode cX7_write 67 = .ok (.invokevirtual 129, 3) := by decide +kernel
theorem dX7_write_70 : decode cX7_write 70 = .ok (.aload_n 0, 1) := by decide +kernel
theorem dX7_write_71 : decode cX7_write 71 = .ok (.getfield 13, 3) := by decide +kernel
theorem dX7_write_74 : decode cX7_write 74 = .ok (.iload_n 1, 1) := by decide +kernel
theorem dX7_write_75 : decode cX7_write 75 = .ok (.iaload, 1) := by decide +kernel
theorem dX7_write_76 : decode cX7_write 76 = .ok (.ireturn, 1) := by decide +kernel
theorem dX7_cut_0 : decode cX7_cut 0 = .ok (.aload_n 0, 1) := by decide +kernel
theorem dX7_cut_1 : decode cX7_cut 1 = .ok (.aload_n 0, 1) := by decide +kernel
theorem dX7_cut_2 : decode cX7_cut 2 = .ok (.iload_n 1, 1) := by decide +kernel
theorem dX7_cut_3 : decode cX7_cut 3 = .ok (.invokevirtual 122, 3) := by decide +kernel
theorem dX7_cut_6 : decode cX7_cut 6 = .ok (.ifCond .ne 26, 3) := by decide +kernel
theorem dX7_cut_9 : decode cX7_cut 9 = .ok (.aload_n 0, 1) := by decide +kernel
theorem dX7_cut_10 : decode cX7_cut 10 = .ok (.getfield 13, 3) := by decide +kernel
theorem dX7_cut_13 : decode cX7_cut 13 = .ok (.iload_n 1, 1) := by decide +kernel
theorem dX7_cut_14 : decode cX7_cut 14 = .ok (.iaload, 1) := by decide +kernel
theorem dX7_cut_15 : decode cX7_cut 15 = .ok (.ifCond .lt 17, 3) := by decide +kernel
theorem dX7_cut_18 : decode cX7_cut 18 = .ok (.iload_n 2, 1) := by decide +kernel
theorem dX7_cut_19 : decode cX7_cut 19 = .ok (.ifCond .lt 13, 3) := by decide +kernel
theorem dX7_cut_22 : decode cX7_cut 22 = .ok (.iload_n 2, 1) := by decide +kernel
theorem dX7_cut_23 : decode cX7_cut 23 = .ok (.aload_n 0, 1) := by decide +kernel
theorem dX7_cut_24 : decode cX7_cut 24 = .ok (.getfield 13, 3) := by decide +kernel
theorem dX7_cut_27 : decode cX7_cut 27 = .ok (.iload_n 1, 1) := by decide +kernel
theorem dX7_cut_28 : decode cX7_cut 28 = .ok (.iaload, 1) := by decide +kernel
theorem dX7_cut_29 : decode cX7_cut 29 = .ok (.if_icmp .le 7, 3) := by decide +kernel
theorem dX7_cut_32 : decode cX7_cut 32 = .ok (.iconst 1, 1) := by decide +kernel
theorem dX7_cut_33 : decode cX7_cut 33 = .ok (.goto 4, 3) := by decide +kernel
theorem dX7_cut_36 : decode cX7_cut 36 = .ok (.iconst 0, 1) := by decide +kernel
theorem dX7_cut_37 : decode cX7_cut 37 = .ok (.iconst 1, 1) := by decide +kernel
theorem dX7_cut_38 : decode cX7_cut 38 = .ok (.invokevirtual 125, 3) := by decide +kernel
theorem dX7_cut_41 : decode cX7_cut 41 = .ok (.ifCond .eq 4, 3) := by decide +kernel
theorem dX7_cut_44 : decode cX7_cut 44 = .ok (.return_, 1) := by decide +kernel
theorem dX7_cut_45 : decode cX7_cut 45 = .ok (.aload_n 0, 1) := by decide +kernel
theorem dX7_cut_46 : decode cX7_cut 46 = .ok (.aload_n 0, 1) := by decide +kernel
theorem dX7_cut_47 : decode cX7_cut 47 = .ok (.getfield 68, 3) := by decide +kernel
theorem dX7_cut_50 : decode cX7_cut 50 = .ok (.iconst 2, 1) := by decide +kernel
theorem dX7_cut_51 : decode cX7_cut 51 = .ok (.invokevirtual 125, 3) := by decide +kernel
theorem dX7_cut_54 : decode cX7_cut 54 = .ok (.ifCond .eq 4, 3) := by decide +kernel
theorem dX7_cut_57 : decode cX7_cut 57 = .ok (.return_, 1) := by decide +kernel
theorem dX7_cut_58 : decode cX7_cut 58 = .ok (.aload_n 0, 1) := by decide +kernel
theorem dX7_cut_59 : decode cX7_cut 59 = .ok (.iconst 1, 1) := by decide +kernel
theorem dX7_cut_60 : decode cX7_cut 60 = .ok (.iload_n 1, 1) := by decide +kernel
theorem dX7_cut_61 : decode cX7_cut 61 = .ok (.iload_n 2, 1) := by decide +kernel
theorem dX7_cut_62 : decode cX7_cut 62 = .ok (.lconst 0, 1) := by decide +kernel
theorem dX7_cut_63 : decode cX7_cut 63 = .ok (.invokevirtual 129, 3) := by decide +kernel
theorem dX7_cut_66 : decode cX7_cut 66 = .ok (.return_, 1) := by decide +kernel
theorem dX7_remove_0 : decode cX7_remove 0 = .ok (.aload_n 0, 1) := by decide +kernel
theorem dX7_remove_1 : decode cX7_remove 1 = .ok (.aload_n 0, 1) := by decide +kernel
theorem dX7_remove_2 : decode cX7_remove 2 = .ok (.iload_n 1, 1) := by decide +kernel
theorem dX7_remove_3 : decode cX7_remove 3 = .ok (.invokevirtual 122, 3) := by decide +kernel
theorem dX7_remove_6 : decode cX7_remove 6 = .ok (.ifCond .ne 12, 3) := by decide +kernel
theorem dX7_remove_9 : decode cX7_remove 9 = .ok (.aload_n 0, 1) := by decide +kernel
theorem dX7_remove_10 : decode cX7_remove 10 = .ok (.getfield 13, 3) := by decide +kernel
theorem dX7_remove_13 : decode cX7_remove 13 = .ok (.iload_n 1, 1) := by decide +kernel
theorem dX7_remove_14 : decode cX7_remove 14 = .ok (.iaload, 1) := by decide +kernel
theorem dX7_remove_15 : decode cX7_remove 15 = .ok (.ifCond .ge 7, 3) := by decide +kernel
theorem dX7_remove_18 : decode cX7_remove 18 = .ok (.iconst 1, 1) := by decide +kernel
theorem dX7_remove_19 : decode cX7_remove 19 = .ok (.goto 4, 3) := by decide +kernel
theorem dX7_remove_22 : decode cX7_remove 22 = .ok (.iconst 0, 1) := by decide +kernel
theorem dX7_remove_23 : decode cX7_remove 23 = .ok (.iconst 1, 1) := by decide +kernel
theorem dX7_remove_24 : decode cX7_remove 24 = .ok (.invokevirtual 125, 3) := by decide +kernel
theorem dX7_remove_27 : decode cX7_remove 27 = .ok (.ifCond .eq 4, 3) := by decide +kernel
theorem dX7_remove_30 : decode cX7_remove 30 = .ok (.return_, 1) := by decide +kernel
theorem dX7_remove_31 : decode cX7_remove 31 = .ok (.aload_n 0, 1) := by decide +kernel
theorem dX7_remove_32 : decode cX7_remove 32 = .ok (.aload_n 0, 1) := by decide +kernel
theorem dX7_remove_33 : decode cX7_remove 33 = .ok (.getfield 68, 3) := by decide +kernel
theorem dX7_remove_36 : decode cX7_remove 36 = .ok (.iconst 2, 1) := by decide +kernel
theorem dX7_remove_37 : decode cX7_remove 37 = .ok (.invokevirtual 125, 3) := by decide +kernel
theorem dX7_remove_40 : decode cX7_remove 40 = .ok (.ifCond .eq 4, 3) := by decide +kernel
theorem dX7_remove_43 : decode cX7_remove 43 = .ok (.return_, 1) := by decide +kernel
theorem dX7_remove_44 : decode cX7_remove 44 = .ok (.aload_n 0, 1) := by decide +kernel
theorem dX7_remove_45 : decode cX7_remove 45 = .ok (.iconst 2, 1) := by decide +kernel
theorem dX7_remove_46 : decode cX7_remove 46 = .ok (.iload_n 1, 1) := by decide +kernel
theorem dX7_remove_47 : decode cX7_remove 47 = .ok (.iconst 0, 1) := by decide +kernel
theorem dX7_remove_48 : decode cX7_remove 48 = .ok (.lconst 0, 1) := by decide +kernel
theorem dX7_remove_49 : decode cX7_remove 49 = .ok (.invokevirtual 129, 3) := by decide +kernel
theorem dX7_remove_52 : decode cX7_remove 52 = .ok (.return_, 1) := by decide +kernel
theorem dX7_fresh_0 : decode cX7_fresh 0 = .ok (.iconst 1, 1) := by decide +kernel
theorem dX7_fresh_1 : decode cX7_fresh 1 = .ok (.istore_n 1, 1) := by decide +kernel
theorem dX7_fresh_2 : decode cX7_fresh 2 = .ok (.iload_n 1, 1) := by decide +kernel
theorem dX7_fresh_3 : decode cX7_fresh 3 = .ok (.sipush 600, 3) := by decide +kernel
theorem dX7_fresh_6 : decode cX7_fresh 6 = .ok (.if_icmp .ge 27, 3) := by decide +kernel
theorem dX7_fresh_9 : decode cX7_fresh 9 = .ok (.aload_n 0, 1) := by decide +kernel
theorem dX7_fresh_10 : decode cX7_fresh 10 = .ok (.getfield 52, 3) := by decide +kernel
theorem dX7_fresh_13 : decode cX7_fresh 13 = .ok (.iload_n 1, 1) := by decide +kernel
theorem dX7_fresh_14 : decode cX7_fresh 14 = .ok (.baload, 1) := by decide +kernel
theorem dX7_fresh_15 : decode cX7_fresh 15 = .ok (.ifCond .ne 12, 3) := by decide +kernel
theorem dX7_fresh_18 : decode cX7_fresh 18 = .ok (.aload_n 0, 1) := by decide +kernel
theorem dX7_fresh_19 : decode cX7_fresh 19 = .ok (.getfield 52, 3) := by decide +kernel
theorem dX7_fresh_22 : decode cX7_fresh 22 = .ok (.iload_n 1, 1) := by decide +kernel
theorem dX7_fresh_23 : decode cX7_fresh 23 = .ok (.iconst 1, 1) := by decide +kernel
theorem dX7_fresh_24 : decode cX7_fresh 24 = .ok (.bastore, 1) := by decide +kernel
theorem dX7_fresh_25 : decode cX7_fresh 25 = .ok (.iload_n 1, 1) := by decide +kernel
theorem dX7_fresh_26 : decode cX7_fresh 26 = .ok (.ireturn, 1) := by decide +kernel
theorem dX7_fresh_27 : decode cX7_fresh 27 = .ok (.iinc 1 1, 3) := by decide +kernel
theorem dX7_fresh_30 : decode cX7_fresh 30 = .ok (.goto (-28), 3) := by decide +kernel
theorem dX7_fresh_33 : decode cX7_fresh 33 = .ok (.iconst (-1), 1) := by decide +kernel
theorem dX7_fresh_34 : decode cX7_fresh 34 = .ok (.ireturn, 1) := by decide +kernel
theorem dX7_next_0 : decode cX7_next 0 = .ok (.iload_n 1, 1) := by decide +kernel
theorem dX7_next_1 : decode cX7_next 1 = .ok (.ifCond .ge 5, 3) := by decide +kernel
theorem dX7_next_4 : decode cX7_next 4 = .ok (.iconst 0, 1) := by decide +kernel
theorem dX7_next_5 : decode cX7_next 5 = .ok (.ireturn, 1) := by decide +kernel
theorem dX7_next_6 : decode cX7_next 6 = .ok (.aload_n 0, 1) := by decide +kernel
theorem dX7_next_7 : decode cX7_next 7 = .ok (.getfield 43, 3) := by decide +kernel
theorem dX7_next_10 : decode cX7_next 10 = .ok (.aload_n 0, 1) := by decide +kernel
theorem dX7_next_11 : decode cX7_next 11 = .ok (.getfield 111, 3) := by decide +kernel
theorem dX7_next_14 : decode cX7_next 14 = .ok (.iload_n 1, 1) := by decide +kernel
theorem dX7_next_15 : decode cX7_next 15 = .ok (.iastore, 1) := by decide +kernel
theorem dX7_next_16 : decode cX7_next 16 = .ok (.iconst 0, 1) := by decide +kernel
theorem dX7_next_17 : decode cX7_next 17 = .ok (.istore_n 2, 1) := by decide +kernel
theorem dX7_next_18 : decode cX7_next 18 = .ok (.iload_n 2, 1) := by decide +kernel
theorem dX7_next_19 : decode cX7_next 19 = .ok (.bipush 32, 2) := by decide +kernel
theorem dX7_next_21 : decode cX7_next 21 = .ok (.if_icmp .ge 24, 3) := by decide +kernel
theorem dX7_next_24 : decode cX7_next 24 = .ok (.aload_n 0, 1) := by decide +kernel
theorem dX7_next_25 : decode cX7_next 25 = .ok (.getfield 46, 3) := by decide +kernel
theorem dX7_next_28 : decode cX7_next 28 = .ok (.aload_n 0, 1) := by decide +kernel
theorem dX7_next_29 : decode cX7_next 29 = .ok (.getfield 111, 3) := by decide +kernel
theorem dX7_next_32 : decode cX7_next 32 = .ok (.bipush 32, 2) := by decide +kernel
theorem dX7_next_34 : decode cX7_next 34 = .ok (.imul, 1) := by decide +kernel
theorem dX7_next_35 : decode cX7_next 35 = .ok (.iload_n 2, 1) := by decide +kernel
theorem dX7_next_36 : decode cX7_next 36 = .ok (.iadd, 1) := by decide +kernel
theorem dX7_next_37 : decode cX7_next 37 = .ok (.iconst 0, 1) := by decide +kernel
theorem dX7_next_38 : decode cX7_next 38 = .ok (.iastore, 1) := by decide +kernel
theorem dX7_next_39 : decode cX7_next 39 = .ok (.iinc 2 1, 3) := by decide +kernel
theorem dX7_next_42 : decode cX7_next 42 = .ok (.goto (-24), 3) := by decide +kernel
theorem dX7_next_45 : decode cX7_next 45 = .ok (.aload_n 0, 1) := by decide +kernel
theorem dX7_next_46 : decode cX7_next 46 = .ok (.dup, 1) := by decide +kernel
theorem dX7_next_47 : decode cX7_next 47 = .ok (.getfield 111, 3) := by decide +kernel
theorem dX7_next_50 : decode cX7_next 50 = .ok (.iconst 1, 1) := by decide +kernel
theorem dX7_next_51 : decode cX7_next 51 = .ok (.iadd, 1) := by decide +kernel
theorem dX7_next_52 : decode cX7_next 52 = .ok (.putfield 111, 3) := by decide +kernel
theorem dX7_next_55 : decode cX7_next 55 = .ok (.iconst 1, 1) := by decide +kernel
theorem dX7_next_56 : decode cX7_next 56 = .ok (.ireturn, 1) := by decide +kernel
theorem dX7_put_0 : decode cX7_put 0 = .ok (.aload_n 0, 1) := by decide +kernel
theorem dX7_put_1 : decode cX7_put 1 = .ok (.getfield 46, 3) := by decide +kernel
theorem dX7_put_4 : decode cX7_put 4 = .ok (.aload_n 0, 1) := by decide +kernel
theorem dX7_put_5 : decode cX7_put 5 = .ok (.getfield 111, 3) := by decide +kernel
theorem dX7_put_8 : decode cX7_put 8 = .ok (.iconst 1, 1) := by decide +kernel
theorem dX7_put_9 : decode cX7_put 9 = .ok (.isub, 1) := by decide +kernel
theorem dX7_put_10 : decode cX7_put 10 = .ok (.bipush 32, 2) := by decide +kernel
theorem dX7_put_12 : decode cX7_put 12 = .ok (.imul, 1) := by decide +kernel
theorem dX7_put_13 : decode cX7_put 13 = .ok (.iload_n 1, 1) := by decide +kernel
theorem dX7_put_14 : decode cX7_put 14 = .ok (.iadd, 1) := by decide +kernel
theorem dX7_put_15 : decode cX7_put 15 = .ok (.iload_n 2, 1) := by decide +kernel
theorem dX7_put_16 : decode cX7_put 16 = .ok (.bipush 8, 2) := by decide +kernel
theorem dX7_put_18 : decode cX7_put 18 = .ok (.ishr, 1) := by decide +kernel
theorem dX7_put_19 : decode cX7_put 19 = .ok (.sipush 255, 3) := by decide +kernel
theorem dX7_put_22 : decode cX7_put 22 = .ok (.iand, 1) := by decide +kernel
theorem dX7_put_23 : decode cX7_put 23 = .ok (.iastore, 1) := by decide +kernel
theorem dX7_put_24 : decode cX7_put 24 = .ok (.aload_n 0, 1) := by decide +kernel
theorem dX7_put_25 : decode cX7_put 25 = .ok (.getfield 46, 3) := by decide +kernel
theorem dX7_put_28 : decode cX7_put 28 = .ok (.aload_n 0, 1) := by decide +kernel
theorem dX7_put_29 : decode cX7_put 29 = .ok (.getfield 111, 3) := by decide +kernel
theorem dX7_put_32 : decode cX7_put 32 = .ok (.iconst 1, 1) := by decide +kernel
theorem dX7_put_33 : decode cX7_put 33 = .ok (.isub, 1) := by decide +kernel
theorem dX7_put_34 : decode cX7_put 34 = .ok (.bipush 32, 2) := by decide +kernel
theorem dX7_put_36 : decode cX7_put 36 = .ok (.imul, 1) := by decide +kernel
theorem dX7_put_37 : decode cX7_put 37 = .ok (.iload_n 1, 1) := by decide +kernel
theorem dX7_put_38 : decode cX7_put 38 = .ok (.iadd, 1) := by decide +kernel
theorem dX7_put_39 : decode cX7_put 39 = .ok (.iconst 1, 1) := by decide +kernel
theorem dX7_put_40 : decode cX7_put 40 = .ok (.iadd, 1) := by decide +kernel
theorem dX7_put_41 : decode cX7_put 41 = .ok (.iload_n 2, 1) := by decide +kernel
theorem dX7_put_42 : decode cX7_put 42 = .ok (.sipush 255, 3) := by decide +kernel
theorem dX7_put_45 : decode cX7_put 45 = .ok (.iand, 1) := by decide +kernel
theorem dX7_put_46 : decode cX7_put 46 = .ok (.iastore, 1) := by decide +kernel
theorem dX7_put_47 : decode cX7_put 47 = .ok (.return_, 1) := by decide +kernel
theorem dX7_plan_0 : decode cX7_plan 0 = .ok (.aload_n 0, 1) := by decide +kernel
theorem dX7_plan_1 : decode cX7_plan 1 = .ok (.invokevirtual 132, 3) := by decide +kernel
theorem dX7_plan_4 : decode cX7_plan 4 = .ok (.aload_n 0, 1) := by decide +kernel
theorem dX7_plan_5 : decode cX7_plan 5 = .ok (.iconst 0, 1) := by decide +kernel
theorem dX7_plan_6 : decode cX7_plan 6 = .ok (.putfield 111, 3) := by decide +kernel
theorem dX7_plan_9 : decode cX7_plan 9 = .ok (.bipush 14, 2) := by decide +kernel
theorem dX7_plan_11 : decode cX7_plan 11 = .ok (.newarray .int, 2) := by decide +kernel
theorem dX7_plan_13 : decode cX7_plan 13 = .ok (.astore_n 1, 1) := by decide +kernel
theorem dX7_plan_14 : decode cX7_plan 14 = .ok (.iconst 0, 1) := by decide +kernel
theorem dX7_plan_15 : decode cX7_plan 15 = .ok (.istore_n 2, 1) := by decide +kernel
theorem dX7_plan_16 : decode cX7_plan 16 = .ok (.iload_n 2, 1) := by decide +kernel
theorem dX7_plan_17 : decode cX7_plan 17 = .ok (.bipush 32, 2) := by decide +kernel
theorem dX7_plan_19 : decode cX7_plan 19 = .ok (.if_icmp .ge 292, 3) := by decide +kernel
theorem dX7_plan_22 : decode cX7_plan 22 = .ok (.aload_n 0, 1) := by decide +kernel
theorem dX7_plan_23 : decode cX7_plan 23 = .ok (.getfield 49, 3) := by decide +kernel
theorem dX7_plan_26 : decode cX7_plan 26 = .ok (.iload_n 2, 1) := by decide +kernel
theorem dX7_plan_27 : decode cX7_plan 27 = .ok (.aload_n 0, 1) := by decide +kernel
theorem dX7_plan_28 : decode cX7_plan 28 = .ok (.iconst (-1), 1) := by decide +kernel
theorem dX7_plan_29 : decode cX7_plan 29 = .ok (.iload_n 2, 1) := by decide +kernel
theorem dX7_plan_30 : decode cX7_plan 30 = .ok (.invokevirtual 89, 3) := by decide +kernel
theorem dX7_plan_33 : decode cX7_plan 33 = .ok (.iastore, 1) := by decide +kernel
theorem dX7_plan_34 : decode cX7_plan 34 = .ok (.aload_n 0, 1) := by decide +kernel
theorem dX7_plan_35 : decode cX7_plan 35 = .ok (.getfield 21, 3) := by decide +kernel
theorem dX7_plan_38 : decode cX7_plan 38 = .ok (.iload_n 2, 1) := by decide +kernel
theorem dX7_plan_39 : decode cX7_plan 39 = .ok (.baload, 1) := by decide +kernel
theorem dX7_plan_40 : decode cX7_plan 40 = .ok (.ifCond .ne 6, 3) := by decide +kernel
theorem dX7_plan_43 : decode cX7_plan 43 = .ok (.goto 262, 3) := by decide +kernel
theorem dX7_plan_46 : decode cX7_plan 46 = .ok (.aload_n 0, 1) := by decide +kernel
theorem dX7_plan_47 : decode cX7_plan 47 = .ok (.getfield 13, 3) := by decide +kernel
theorem dX7_plan_50 : decode cX7_plan 50 = .ok (.iload_n 2, 1) := by decide +kernel
theorem dX7_plan_51 : decode cX7_plan 51 = .ok (.iaload, 1) := by decide +kernel
theorem dX7_plan_52 : decode cX7_plan 52 = .ok (.iconst 0, 1) := by decide +kernel
theorem dX7_plan_53 : decode cX7_plan 53 = .ok (.invokestatic 92, 3) := by decide +kernel
theorem dX7_plan_56 : decode cX7_plan 56 = .ok (.bipush 32, 2) := by decide +kernel
theorem dX7_plan_58 : decode cX7_plan 58 = .ok (.iadd, 1) := by decide +kernel
theorem dX7_plan_59 : decode cX7_plan 59 = .ok (.iconst 1, 1) := by decide +kernel
theorem dX7_plan_60 : decode cX7_plan 60 = .ok (.isub, 1) := by decide +kernel
theorem dX7_plan_61 : decode cX7_plan 61 = .ok (.bipush 32, 2) := by decide +kernel
theorem dX7_plan_63 : decode cX7_plan 63 = .ok (.idiv, 1) := by decide +kernel
theorem dX7_plan_64 : decode cX7_plan 64 = .ok (.istore_n 3, 1) := by decide +kernel
theorem dX7_plan_65 : decode cX7_plan 65 = .ok (.iconst 0, 1) := by decide +kernel
theorem dX7_plan_66 : decode cX7_plan 66 = .ok (.istore 4, 2) := by decide +kernel
theorem dX7_plan_68 : decode cX7_plan 68 = .ok (.iload 4, 2) := by decide +kernel
theorem dX7_plan_70 : decode cX7_plan 70 = .ok (.iload_n 3, 1) := by decide +kernel
theorem dX7_plan_71 : decode cX7_plan 71 = .ok (.if_icmp .ge 150, 3) := by decide +kernel
theorem dX7_plan_74 : decode cX7_plan 74 = .ok (.aload_n 1, 1) := by decide +kernel
theorem dX7_plan_75 : decode cX7_plan 75 = .ok (.iload 4, 2) := by decide +kernel
theorem dX7_plan_77 : decode cX7_plan 77 = .ok (.aload_n 0, 1) := by decide +kernel
theorem dX7_plan_78 : decode cX7_plan 78 = .ok (.getfield 27, 3) := by decide +kernel
theorem dX7_plan_81 : decode cX7_plan 81 = .ok (.iload_n 2, 1) := by decide +kernel
theorem dX7_plan_82 : decode cX7_plan 82 = .ok (.aaload, 1) := by decide +kernel
theorem dX7_plan_83 : decode cX7_plan 83 = .ok (.iload 4, 2) := by decide +kernel
theorem dX7_plan_85 : decode cX7_plan 85 = .ok (.baload, 1) := by decide +kernel
theorem dX7_plan_86 : decode cX7_plan 86 = .ok (.ifCond .ne 12, 3) := by decide +kernel
theorem dX7_plan_89 : decode cX7_plan 89 = .ok (.aload_n 0, 1) := by decide +kernel
theorem dX7_plan_90 : decode cX7_plan 90 = .ok (.getfield 49, 3) := by decide +kernel
theorem dX7_plan_93 : decode cX7_plan 93 = .ok (.iload_n 2, 1) := by decide +kernel
theorem dX7_plan_94 : decode cX7_plan 94 = .ok (.iaload, 1) := by decide +kernel
theorem dX7_plan_95 : decode cX7_plan 95 = .ok (.ifCond .ne 7, 3) := by decide +kernel
theorem dX7_plan_98 : decode cX7_plan 98 = .ok (.iconst (-1), 1) := by decide +kernel
theorem dX7_plan_99 : decode cX7_plan 99 = .ok (.goto 19, 3) := by decide +kernel
theorem dX7_plan_102 : decode cX7_plan 102 = .ok (.aload_n 0, 1) := by decide +kernel
theorem dX7_plan_103 : decode cX7_plan 103 = .ok (.aload_n 0, 1) := by decide +kernel
theorem dX7_plan_104 : decode cX7_plan 104 = .ok (.getfield 49, 3) := by decide +kernel
theorem dX7_plan_107 : decode cX7_plan 107 = .ok (.iload_n 2, 1) := by decide +kernel
theorem dX7_plan_108 : decode cX7_plan 108 = .ok (.iaload, 1) := by decide +kernel
theorem dX7_plan_109 : decode cX7_plan 109 = .ok (.iconst 2, 1) := by decide +kernel
theorem dX7_plan_110 : decode cX7_plan 110 = .ok (.iconst 2, 1) := by decide +kernel
theorem dX7_plan_111 : decode cX7_plan 111 = .ok (.iload 4, 2) := by decide +kernel
theorem dX7_plan_113 : decode cX7_plan 113 = .ok (.imul, 1) := by decide +kernel
theorem dX7_plan_114 : decode cX7_plan 114 = .ok (.iadd, 1) := by decide +kernel
theorem dX7_plan_115 : decode cX7_plan 115 = .ok (.invokevirtual 82, 3) := by decide +kernel
theorem dX7_plan_118 : decode cX7_plan 118 = .ok (.iastore, 1) := by decide +kernel
theorem dX7_plan_119 : decode cX7_plan 119 = .ok (.aload_n 1, 1) := by decide +kernel
theorem dX7_plan_120 : decode cX7_plan 120 = .ok (.iload 4, 2) := by decide +kernel
theorem dX7_plan_122 : decode cX7_plan 122 = .ok (.iaload, 1) := by decide +kernel
theorem dX7_plan_123 : decode cX7_plan 123 = .ok (.ifCond .le 6, 3) := by decide +kernel
theorem dX7_plan_126 : decode cX7_plan 126 = .ok (.goto 89, 3) := by decide +kernel
theorem dX7_plan_129 : decode cX7_plan 129 = .ok (.aload_n 1, 1) := by decide +kernel
theorem dX7_plan_130 : decode cX7_plan 130 = .ok (.iload 4, 2) := by decide +kernel
theorem dX7_plan_132 : decode cX7_plan 132 = .ok (.aload_n 0, 1) := by decide +kernel
theorem dX7_plan_133 : decode cX7_plan 133 = .ok (.invokevirtual 135, 3) := by decide +kernel
theorem dX7_plan_136 : decode cX7_plan 136 = .ok (.iastore, 1) := by decide +kernel
theorem dX7_plan_137 : decode cX7_plan 137 = .ok (.aload_n 0, 1) := by decide +kernel
theorem dX7_plan_138 : decode cX7_plan 138 = .ok (.aload_n 1, 1) := by decide +kernel
theorem dX7_plan_139 : decode cX7_plan 139 = .ok (.iload 4, 2) := by decide +kernel
theorem dX7_plan_141 : decode cX7_plan 141 = .ok (.iaload, 1) := by decide +kernel
theorem dX7_plan_142 : decode cX7_plan 142 = .ok (.invokevirtual 139, 3) := by decide +kernel
theorem dX7_plan_145 : decode cX7_plan 145 = .ok (.ifCond .ne 5, 3) := by decide +kernel
theorem dX7_plan_148 : decode cX7_plan 148 = .ok (.iconst 0, 1) := by decide +kernel
theorem dX7_plan_149 : decode cX7_plan 149 = .ok (.ireturn, 1) := by decide +kernel
theorem dX7_plan_150 : decode cX7_plan 150 = .ok (.iconst 0, 1) := by decide +kernel
theorem dX7_plan_151 : decode cX7_plan 151 = .ok (.istore 5, 2) := by decide +kernel
theorem dX7_plan_153 : decode cX7_plan 153 = .ok (.iload 5, 2) := by decide +kernel
theorem dX7_plan_155 : decode cX7_plan 155 = .ok (.bipush 32, 2) := by decide +kernel
theorem dX7_plan_157 : decode cX7_plan 157 = .ok (.if_icmp .ge 58, 3) := by decide +kernel
theorem dX7_plan_160 : decode cX7_plan 160 = .ok (.iload 4, 2) := by decide +kernel
theorem dX7_plan_162 : decode cX7_plan 162 = .ok (.bipush 32, 2) := by decide +kernel
theorem dX7_plan_164 : decode cX7_plan 164 = .ok (.imul, 1) := by decide +kernel
theorem dX7_plan_165 : decode cX7_plan 165 = .ok (.iload 5, 2) := by decide +kernel
theorem dX7_plan_167 : decode cX7_plan 167 = .ok (.iadd, 1) := by decide +kernel
theorem dX7_plan_168 : decode cX7_plan 168 = .ok (.aload_n 0, 1) := by decide +kernel
theorem dX7_plan_169 : decode cX7_plan 169 = .ok (.getfield 13, 3) := by decide +kernel
theorem dX7_plan_172 : decode cX7_plan 172 = .ok (.iload_n 2, 1) := by decide +kernel
theorem dX7_plan_173 : decode cX7_plan 173 = .ok (.iaload, 1) := by decide +kernel
theorem dX7_plan_174 : decode cX7_plan 174 = .ok (.if_icmp .ge 41, 3) := by decide +kernel
theorem dX7_plan_177 : decode cX7_plan 177 = .ok (.aload_n 0, 1) := by decide +kernel
theorem dX7_plan_178 : decode cX7_plan 178 = .ok (.getfield 46, 3) := by decide +kernel
theorem dX7_plan_181 : decode cX7_plan 181 = .ok (.aload_n 0, 1) := by decide +kernel
theorem dX7_plan_182 : decode cX7_plan 182 = .ok (.getfield 111, 3) := by decide +kernel
theorem dX7_plan_185 : decode cX7_plan 185 = .ok (.iconst 1, 1) := by decide +kernel
theorem dX7_plan_186 : decode cX7_plan 186 = .ok (.isub, 1) := by decide +kernel
theorem dX7_plan_187 : decode cX7_plan 187 = .ok (.bipush 32, 2) := by decide +kernel
theorem dX7_plan_189 : decode cX7_plan 189 = .ok (.imul, 1) := by decide +kernel
theorem dX7_plan_190 : decode cX7_plan 190 = .ok (.iload 5, 2) := by decide +kernel
theorem dX7_plan_192 : decode cX7_plan 192 = .ok (.iadd, 1) := by decide +kernel
theorem dX7_plan_193 : decode cX7_plan 193 = .ok (.aload_n 0, 1) := by decide +kernel
theorem dX7_plan_194 : decode cX7_plan 194 = .ok (.getfield 18, 3) := by decide +kernel
theorem dX7_plan_197 : decode cX7_plan 197 = .ok (.iload_n 2, 1) := by decide +kernel
theorem dX7_plan_198 : decode cX7_plan 198 = .ok (.aaload, 1) := by decide +kernel
theorem dX7_plan_199 : decode cX7_plan 199 = .ok (.iload 4, 2) := by decide +kernel
theorem dX7_plan_201 : decode cX7_plan 201 = .ok (.bipush 32, 2) := by decide +kernel
theorem dX7_plan_203 : decode cX7_plan 203 = .ok (.imul, 1) := by decide +kernel
theorem dX7_plan_204 : decode cX7_plan 204 = .ok (.iload 5, 2) := by decide +kernel
theorem dX7_plan_206 : decode cX7_plan 206 = .ok (.iadd, 1) := by decide +kernel
theorem dX7_plan_207 : decode cX7_plan 207 = .ok (.iaload, 1) := by decide +kernel
theorem dX7_plan_208 : decode cX7_plan 208 = .ok (.iastore, 1) := by decide +kernel
theorem dX7_plan_209 : decode cX7_plan 209 = .ok (.iinc 5 1, 3) := by decide +kernel
theorem dX7_plan_212 : decode cX7_plan 212 = .ok (.goto (-59), 3) := by decide +kernel
theorem dX7_plan_215 : decode cX7_plan 215 = .ok (.iinc 4 1, 3) := by decide +kernel
theorem dX7_plan_218 : decode cX7_plan 218 = .ok (.goto (-150), 3) := by decide +kernel
theorem dX7_plan_221 : decode cX7_plan 221 = .ok (.aload_n 0, 1) := by decide +kernel
theorem dX7_plan_222 : decode cX7_plan 222 = .ok (.getfield 13, 3) := by decide +kernel
theorem dX7_plan_225 : decode cX7_plan 225 = .ok (.iload_n 2, 1) := by decide +kernel
theorem dX7_plan_226 : decode cX7_plan 226 = .ok (.iaload, 1) := by decide +kernel
theorem dX7_plan_227 : decode cX7_plan 227 = .ok (.ifCond .ge 13, 3) := by decide +kernel
theorem dX7_plan_230 : decode cX7_plan 230 = .ok (.aload_n 0, 1) := by decide +kernel
theorem dX7_plan_231 : decode cX7_plan 231 = .ok (.getfield 49, 3) := by decide +kernel
theorem dX7_plan_234 : decode cX7_plan 234 = .ok (.iload_n 2, 1) := by decide +kernel
theorem dX7_plan_235 : decode cX7_plan 235 = .ok (.iconst 0, 1) := by decide +kernel
theorem dX7_plan_236 : decode cX7_plan 236 = .ok (.iastore, 1) := by decide +kernel
theorem dX7_plan_237 : decode cX7_plan 237 = .ok (.goto 68, 3) := by decide +kernel
theorem dX7_plan_240 : decode cX7_plan 240 = .ok (.aload_n 0, 1) := by decide +kernel
theorem dX7_plan_241 : decode cX7_plan 241 = .ok (.getfield 49, 3) := by decide +kernel
theorem dX7_plan_244 : decode cX7_plan 244 = .ok (.iload_n 2, 1) := by decide +kernel
theorem dX7_plan_245 : decode cX7_plan 245 = .ok (.aload_n 0, 1) := by decide +kernel
theorem dX7_plan_246 : decode cX7_plan 246 = .ok (.invokevirtual 135, 3) := by decide +kernel
theorem dX7_plan_249 : decode cX7_plan 249 = .ok (.iastore, 1) := by decide +kernel
theorem dX7_plan_250 : decode cX7_plan 250 = .ok (.aload_n 0, 1) := by decide +kernel
theorem dX7_plan_251 : decode cX7_plan 251 = .ok (.aload_n 0, 1) := by decide +kernel
theorem dX7_plan_252 : decode cX7_plan 252 = .ok (.getfield 49, 3) := by decide +kernel
theorem dX7_plan_255 : decode cX7_plan 255 = .ok (.iload_n 2, 1) := by decide +kernel
theorem dX7_plan_256 : decode cX7_plan 256 = .ok (.iaload, 1) := by decide +kernel
theorem dX7_plan_257 : decode cX7_plan 257 = .ok (.invokevirtual 139, 3) := by decide +kernel
theorem dX7_plan_260 : decode cX7_plan 260 = .ok (.ifCond .ne 5, 3) := by decide +kernel
theorem dX7_plan_263 : decode cX7_plan 263 = .ok (.iconst 0, 1) := by decide +kernel
theorem dX7_plan_264 : decode cX7_plan 264 = .ok (.ireturn, 1) := by decide +kernel
theorem dX7_plan_265 : decode cX7_plan 265 = .ok (.aload_n 0, 1) := by decide +kernel
theorem dX7_plan_266 : decode cX7_plan 266 = .ok (.iconst 0, 1) := by decide +kernel
theorem dX7_plan_267 : decode cX7_plan 267 = .ok (.aload_n 0, 1) := by decide +kernel
theorem dX7_plan_268 : decode cX7_plan 268 = .ok (.getfield 13, 3) := by decide +kernel
theorem dX7_plan_271 : decode cX7_plan 271 = .ok (.iload_n 2, 1) := by decide +kernel
theorem dX7_plan_272 : decode cX7_plan 272 = .ok (.iaload, 1) := by decide +kernel
theorem dX7_plan_273 : decode cX7_plan 273 = .ok (.invokevirtual 142, 3) := by decide +kernel
theorem dX7_plan_276 : decode cX7_plan 276 = .ok (.iconst 0, 1) := by decide +kernel
theorem dX7_plan_277 : decode cX7_plan 277 = .ok (.istore 4, 2) := by decide +kernel
theorem dX7_plan_279 : decode cX7_plan 279 = .ok (.iload 4, 2) := by decide +kernel
theorem dX7_plan_281 : decode cX7_plan 281 = .ok (.iload_n 3, 1) := by decide +kernel
theorem dX7_plan_282 : decode cX7_plan 282 = .ok (.if_icmp .ge 23, 3) := by decide +kernel
theorem dX7_plan_285 : decode cX7_plan 285 = .ok (.aload_n 0, 1) := by decide +kernel
theorem dX7_plan_286 : decode cX7_plan 286 = .ok (.iconst 2, 1) := by decide +kernel
theorem dX7_plan_287 : decode cX7_plan 287 = .ok (.iconst 2, 1) := by decide +kernel
theorem dX7_plan_288 : decode cX7_plan 288 = .ok (.iload 4, 2) := by decide +kernel
theorem dX7_plan_290 : decode cX7_plan 290 = .ok (.imul, 1) := by decide +kernel
theorem dX7_plan_291 : decode cX7_plan 291 = .ok (.iadd, 1) := by decide +kernel
theorem dX7_plan_292 : decode cX7_plan 292 = .ok (.aload_n 1, 1) := by decide +kernel
theorem dX7_plan_293 : decode cX7_plan 293 = .ok (.iload 4, 2) := by decide +kernel
theorem dX7_plan_295 : decode cX7_plan 295 = .ok (.iaload, 1) := by decide +kernel
theorem dX7_plan_296 : decode cX7_plan 296 = .ok (.invokevirtual 142, 3) := by decide +kernel
theorem dX7_plan_299 : decode cX7_plan 299 = .ok (.iinc 4 1, 3) := by decide +kernel
theorem dX7_plan_302 : decode cX7_plan 302 = .ok (.goto (-23), 3) := by decide +kernel
theorem dX7_plan_305 : decode cX7_plan 305 = .ok (.iinc 2 1, 3) := by decide +kernel
theorem dX7_plan_308 : decode cX7_plan 308 = .ok (.goto (-292), 3) := by decide +kernel
theorem dX7_plan_311 : decode cX7_plan 311 = .ok (.iconst 2, 1) := by decide +kernel
theorem dX7_plan_312 : decode cX7_plan 312 = .ok (.newarray .int, 2) := by decide +kernel
theorem dX7_plan_314 : decode cX7_plan 314 = .ok (.astore_n 2, 1) := by decide +kernel
theorem dX7_plan_315 : decode cX7_plan 315 = .ok (.iconst 0, 1) := by decide +kernel
theorem dX7_plan_316 : decode cX7_plan 316 = .ok (.istore_n 3, 1) := by decide +kernel
theorem dX7_plan_317 : decode cX7_plan 317 = .ok (.iload_n 3, 1) := by decide +kernel
theorem dX7_plan_318 : decode cX7_plan 318 = .ok (.iconst 2, 1) := by decide +kernel
theorem dX7_plan_319 : decode cX7_plan 319 = .ok (.if_icmp .ge 120, 3) := by decide +kernel
theorem dX7_plan_322 : decode cX7_plan 322 = .ok (.iconst 0, 1) := by decide +kernel
theorem dX7_plan_323 : decode cX7_plan 323 = .ok (.istore 4, 2) := by decide +kernel
theorem dX7_plan_325 : decode cX7_plan 325 = .ok (.bipush 16, 2) := by decide +kernel
theorem dX7_plan_327 : decode cX7_plan 327 = .ok (.iload_n 3, 1) := by decide +kernel
theorem dX7_plan_328 : decode cX7_plan 328 = .ok (.imul, 1) := by decide +kernel
theorem dX7_plan_329 : decode cX7_plan 329 = .ok (.istore 5, 2) := by decide +kernel
theorem dX7_plan_331 : decode cX7_plan 331 = .ok (.iload 5, 2) := by decide +kernel
theorem dX7_plan_333 : decode cX7_plan 333 = .ok (.bipush 16, 2) := by decide +kernel
theorem dX7_plan_335 : decode cX7_plan 335 = .ok (.iload_n 3, 1) := by decide +kernel
theorem dX7_plan_336 : decode cX7_plan 336 = .ok (.imul, 1) := by decide +kernel
theorem dX7_plan_337 : decode cX7_plan 337 = .ok (.bipush 16, 2) := by decide +kernel
theorem dX7_plan_339 : decode cX7_plan 339 = .ok (.iadd, 1) := by decide +kernel
theorem dX7_plan_340 : decode cX7_plan 340 = .ok (.if_icmp .ge 21, 3) := by decide +kernel
theorem dX7_plan_343 : decode cX7_plan 343 = .ok (.iload 4, 2) := by decide +kernel
theorem dX7_plan_345 : decode cX7_plan 345 = .ok (.aload_n 0, 1) := by decide +kernel
theorem dX7_plan_346 : decode cX7_plan 346 = .ok (.getfield 21, 3) := by decide +kernel
theorem dX7_plan_349 : decode cX7_plan 349 = .ok (.iload 5, 2) := by decide +kernel
theorem dX7_plan_351 : decode cX7_plan 351 = .ok (.baload, 1) := by decide +kernel
theorem dX7_plan_352 : decode cX7_plan 352 = .ok (.ior, 1) := by decide +kernel
theorem dX7_plan_353 : decode cX7_plan 353 = .ok (.istore 4, 2) := by decide +kernel
theorem dX7_plan_355 : decode cX7_plan 355 = .ok (.iinc 5 1, 3) := by decide +kernel
theorem dX7_plan_358 : decode cX7_plan 358 = .ok (.goto (-27), 3) := by decide +kernel
theorem dX7_plan_361 : decode cX7_plan 361 = .ok (.aload_n 2, 1) := by decide +kernel
theorem dX7_plan_362 : decode cX7_plan 362 = .ok (.iload_n 3, 1) := by decide +kernel
theorem dX7_plan_363 : decode cX7_plan 363 = .ok (.aload_n 0, 1) := by decide +kernel
theorem dX7_plan_364 : decode cX7_plan 364 = .ok (.iconst (-1), 1) := by decide +kernel
theorem dX7_plan_365 : decode cX7_plan 365 = .ok (.iload_n 3, 1) := by decide +kernel
theorem dX7_plan_366 : decode cX7_plan 366 = .ok (.invokevirtual 86, 3) := by decide +kernel
theorem dX7_plan_369 : decode cX7_plan 369 = .ok (.iastore, 1) := by decide +kernel
theorem dX7_plan_370 : decode cX7_plan 370 = .ok (.iload 4, 2) := by decide +kernel
theorem dX7_plan_372 : decode cX7_plan 372 = .ok (.ifCond .ne 6, 3) := by decide +kernel
theorem dX7_plan_375 : decode cX7_plan 375 = .ok (.goto 58, 3) := by decide +kernel
theorem dX7_plan_378 : decode cX7_plan 378 = .ok (.aload_n 2, 1) := by decide +kernel
theorem dX7_plan_379 : decode cX7_plan 379 = .ok (.iload_n 3, 1) := by decide +kernel
theorem dX7_plan_380 : decode cX7_plan 380 = .ok (.aload_n 0, 1) := by decide +kernel
theorem dX7_plan_381 : decode cX7_plan 381 = .ok (.invokevirtual 135, 3) := by decide +kernel
theorem dX7_plan_384 : decode cX7_plan 384 = .ok (.iastore, 1) := by decide +kernel
theorem dX7_plan_385 : decode cX7_plan 385 = .ok (.aload_n 0, 1) := by decide +kernel
theorem dX7_plan_386 : decode cX7_plan 386 = .ok (.aload_n 2, 1) := by decide +kernel
theorem dX7_plan_387 : decode cX7_plan 387 = .ok (.iload_n 3, 1) := by decide +kernel
theorem dX7_plan_388 : decode cX7_plan 388 = .ok (.iaload, 1) := by decide +kernel
theorem dX7_plan_389 : decode cX7_plan 389 = .ok (.invokevirtual 139, 3) := by decide +kernel
theorem dX7_plan_392 : decode cX7_plan 392 = .ok (.ifCond .ne 5, 3) := by decide +kernel
theorem dX7_plan_395 : decode cX7_plan 395 = .ok (.iconst 0, 1) := by decide +kernel
theorem dX7_plan_396 : decode cX7_plan 396 = .ok (.ireturn, 1) := by decide +kernel
theorem dX7_plan_397 : decode cX7_plan 397 = .ok (.iconst 0, 1) := by decide +kernel
theorem dX7_plan_398 : decode cX7_plan 398 = .ok (.istore 5, 2) := by decide +kernel
theorem dX7_plan_400 : decode cX7_plan 400 = .ok (.iload 5, 2) := by decide +kernel
theorem dX7_plan_402 : decode cX7_plan 402 = .ok (.bipush 16, 2) := by decide +kernel
theorem dX7_plan_404 : decode cX7_plan 404 = .ok (.if_icmp .ge 29, 3) := by decide +kernel
theorem dX7_plan_407 : decode cX7_plan 407 = .ok (.aload_n 0, 1) := by decide +kernel
theorem dX7_plan_408 : decode cX7_plan 408 = .ok (.iconst 2, 1) := by decide +kernel
theorem dX7_plan_409 : decode cX7_plan 409 = .ok (.iload 5, 2) := by decide +kernel
theorem dX7_plan_411 : decode cX7_plan 411 = .ok (.imul, 1) := by decide +kernel
theorem dX7_plan_412 : decode cX7_plan 412 = .ok (.aload_n 0, 1) := by decide +kernel
theorem dX7_plan_413 : decode cX7_plan 413 = .ok (.getfield 49, 3) := by decide +kernel
theorem dX7_plan_416 : decode cX7_plan 416 = .ok (.bipush 16, 2) := by decide +kernel
theorem dX7_plan_418 : decode cX7_plan 418 = .ok (.iload_n 3, 1) := by decide +kernel
theorem dX7_plan_419 : decode cX7_plan 419 = .ok (.imul, 1) := by decide +kernel
theorem dX7_plan_420 : decode cX7_plan 420 = .ok (.iload 5, 2) := by decide +kernel
theorem dX7_plan_422 : decode cX7_plan 422 = .ok (.iadd, 1) := by decide +kernel
theorem dX7_plan_423 : decode cX7_plan 423 = .ok (.iaload, 1) := by decide +kernel
theorem dX7_plan_424 : decode cX7_plan 424 = .ok (.invokevirtual 142, 3) := by decide +kernel
theorem dX7_plan_427 : decode cX7_plan 427 = .ok (.iinc 5 1, 3) := by decide +kernel
theorem dX7_plan_430 : decode cX7_plan 430 = .ok (.goto (-30), 3) := by decide +kernel
theorem dX7_plan_433 : decode cX7_plan 433 = .ok (.iinc 3 1, 3) := by decide +kernel
theorem dX7_plan_436 : decode cX7_plan 436 = .ok (.goto (-119), 3) := by decide +kernel
theorem dX7_plan_439 : decode cX7_plan 439 = .ok (.aload_n 0, 1) := by decide +kernel
theorem dX7_plan_440 : decode cX7_plan 440 = .ok (.iconst 0, 1) := by decide +kernel
theorem dX7_plan_441 : decode cX7_plan 441 = .ok (.invokevirtual 139, 3) := by decide +kernel
theorem dX7_plan_444 : decode cX7_plan 444 = .ok (.pop, 1) := by decide +kernel
theorem dX7_plan_445 : decode cX7_plan 445 = .ok (.iconst 0, 1) := by decide +kernel
theorem dX7_plan_446 : decode cX7_plan 446 = .ok (.istore_n 3, 1) := by decide +kernel
theorem dX7_plan_447 : decode cX7_plan 447 = .ok (.iload_n 3, 1) := by decide +kernel
theorem dX7_plan_448 : decode cX7_plan 448 = .ok (.bipush 32, 2) := by decide +kernel
theorem dX7_plan_450 : decode cX7_plan 450 = .ok (.if_icmp .ge 31, 3) := by decide +kernel
theorem dX7_plan_453 : decode cX7_plan 453 = .ok (.aload_n 0, 1) := by decide +kernel
theorem dX7_plan_454 : decode cX7_plan 454 = .ok (.getfield 46, 3) := by decide +kernel
theorem dX7_plan_457 : decode cX7_plan 457 = .ok (.aload_n 0, 1) := by decide +kernel
theorem dX7_plan_458 : decode cX7_plan 458 = .ok (.getfield 111, 3) := by decide +kernel
theorem dX7_plan_461 : decode cX7_plan 461 = .ok (.iconst 1, 1) := by decide +kernel
theorem dX7_plan_462 : decode cX7_plan 462 = .ok (.isub, 1) := by decide +kernel
theorem dX7_plan_463 : decode cX7_plan 463 = .ok (.bipush 32, 2) := by decide +kernel
theorem dX7_plan_465 : decode cX7_plan 465 = .ok (.imul, 1) := by decide +kernel
theorem dX7_plan_466 : decode cX7_plan 466 = .ok (.iload_n 3, 1) := by decide +kernel
theorem dX7_plan_467 : decode cX7_plan 467 = .ok (.iadd, 1) := by decide +kernel
theorem dX7_plan_468 : decode cX7_plan 468 = .ok (.aload_n 0, 1) := by decide +kernel
theorem dX7_plan_469 : decode cX7_plan 469 = .ok (.getfield 9, 3) := by decide +kernel
theorem dX7_plan_472 : decode cX7_plan 472 = .ok (.iload_n 3, 1) := by decide +kernel
theorem dX7_plan_473 : decode cX7_plan 473 = .ok (.iaload, 1) := by decide +kernel
theorem dX7_plan_474 : decode cX7_plan 474 = .ok (.iastore, 1) := by decide +kernel
theorem dX7_plan_475 : decode cX7_plan 475 = .ok (.iinc 3 1, 3) := by decide +kernel
theorem dX7_plan_478 : decode cX7_plan 478 = .ok (.goto (-31), 3) := by decide +kernel
theorem dX7_plan_481 : decode cX7_plan 481 = .ok (.aload_n 0, 1) := by decide +kernel
theorem dX7_plan_482 : decode cX7_plan 482 = .ok (.invokevirtual 145, 3) := by decide +kernel
theorem dX7_plan_485 : decode cX7_plan 485 = .ok (.iconst 1, 1) := by decide +kernel
theorem dX7_plan_486 : decode cX7_plan 486 = .ok (.iadd, 1) := by decide +kernel
theorem dX7_plan_487 : decode cX7_plan 487 = .ok (.istore_n 3, 1) := by decide +kernel
theorem dX7_plan_488 : decode cX7_plan 488 = .ok (.aload_n 0, 1) := by decide +kernel
theorem dX7_plan_489 : decode cX7_plan 489 = .ok (.iconst 0, 1) := by decide +kernel
theorem dX7_plan_490 : decode cX7_plan 490 = .ok (.iload_n 3, 1) := by decide +kernel
theorem dX7_plan_491 : decode cX7_plan 491 = .ok (.bipush 16, 2) := by decide +kernel
theorem dX7_plan_493 : decode cX7_plan 493 = .ok (.ishr, 1) := by decide +kernel
theorem dX7_plan_494 : decode cX7_plan 494 = .ok (.invokevirtual 142, 3) := by decide +kernel
theorem dX7_plan_497 : decode cX7_plan 497 = .ok (.aload_n 0, 1) := by decide +kernel
theorem dX7_plan_498 : decode cX7_plan 498 = .ok (.iconst 2, 1) := by decide +kernel
theorem dX7_plan_499 : decode cX7_plan 499 = .ok (.iload_n 3, 1) := by decide +kernel
theorem dX7_plan_500 : decode cX7_plan 500 = .ok (.invokevirtual 142, 3) := by decide +kernel
theorem dX7_plan_503 : decode cX7_plan 503 = .ok (.aload_n 0, 1) := by decide +kernel
theorem dX7_plan_504 : decode cX7_plan 504 = .ok (.iconst 4, 1) := by decide +kernel
theorem dX7_plan_505 : decode cX7_plan 505 = .ok (.aload_n 2, 1) := by decide +kernel
theorem dX7_plan_506 : decode cX7_plan 506 = .ok (.iconst 0, 1) := by decide +kernel
theorem dX7_plan_507 : decode cX7_plan 507 = .ok (.iaload, 1) := by decide +kernel
