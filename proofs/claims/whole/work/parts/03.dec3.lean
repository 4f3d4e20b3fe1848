/-! decode rows -/
theorem dX7_set_33 : decode cX7_set 33 = .ok (.iconst (-1), 1) := by decide +kernel
theorem dX7_set_34 : decode cX7_set 34 = .ok (.goto 11, 3) := by decide +kernel
theorem dX7_set_37 : decode cX7_set 37 = .ok (.iload 4, 2) := by decide +kernel
theorem dX7_set_39 : decode cX7_set 39 = .ok (.sipush 999, 3) := by decide +kernel
theorem dX7_set_42 : decode cX7_set 42 = .ok (.invokestatic 94, 3) := by decide +kernel
theorem dX7_set_45 : decode cX7_set 45 = .ok (.istore 6, 2) := by decide +kernel
theorem dX7_set_47 : decode cX7_set 47 = .ok (.iload 6, 2) := by decide +kernel
theorem dX7_set_49 : decode cX7_set 49 = .ok (.ifCond .eq 10, 3) := by decide +kernel
theorem dX7_set_52 : decode cX7_set 52 = .ok (.aload_n 0, 1) := by decide +kernel
theorem dX7_set_53 : decode cX7_set 53 = .ok (.iload 6, 2) := by decide +kernel
theorem dX7_set_55 : decode cX7_set 55 = .ok (.invokevirtual 61, 3) := by decide +kernel
theorem dX7_set_58 : decode cX7_set 58 = .ok (.ireturn, 1) := by decide +kernel
theorem dX7_set_59 : decode cX7_set 59 = .ok (.aload_n 0, 1) := by decide +kernel
theorem dX7_set_60 : decode cX7_set 60 = .ok (.getfield 19, 3) := by decide +kernel
theorem dX7_set_63 : decode cX7_set 63 = .ok (.aload_n 0, 1) := by decide +kernel
theorem dX7_set_64 : decode cX7_set 64 = .ok (.getfield 10, 3) := by decide +kernel
theorem dX7_set_67 : decode cX7_set 67 = .ok (.invokevirtual 216, 3) := by decide +kernel
theorem dX7_set_70 : decode cX7_set 70 = .ok (.iconst 0, 1) := by decide +kernel
theorem dX7_set_71 : decode cX7_set 71 = .ok (.istore 7, 2) := by decide +kernel
theorem dX7_set_73 : decode cX7_set 73 = .ok (.iload 7, 2) := by decide +kernel
theorem dX7_set_75 : decode cX7_set 75 = .ok (.bipush 99, 2) := by decide +kernel
theorem dX7_set_77 : decode cX7_set 77 = .ok (.if_icmp .gt 43, 3) := by decide +kernel
theorem dX7_set_80 : decode cX7_set 80 = .ok (.aload_n 0, 1) := by decide +kernel
theorem dX7_set_81 : decode cX7_set 81 = .ok (.getfield 19, 3) := by decide +kernel
theorem dX7_set_84 : decode cX7_set 84 = .ok (.iload_n 1, 1) := by decide +kernel
theorem dX7_set_85 : decode cX7_set 85 = .ok (.iload_n 2, 1) := by decide +kernel
theorem dX7_set_86 : decode cX7_set 86 = .ok (.iload 7, 2) := by decide +kernel
theorem dX7_set_88 : decode cX7_set 88 = .ok (.invokevirtual 230, 3) := by decide +kernel
theorem dX7_set_91 : decode cX7_set 91 = .ok (.aload_n 0, 1) := by decide +kernel
theorem dX7_set_92 : decode cX7_set 92 = .ok (.getfield 25, 3) := by decide +kernel
theorem dX7_set_95 : decode cX7_set 95 = .ok (.aload_n 0, 1) := by decide +kernel
theorem dX7_set_96 : decode cX7_set 96 = .ok (.getfield 19, 3) := by decide +kernel
theorem dX7_set_99 : decode cX7_set 99 = .ok (.iload_n 3, 1) := by decide +kernel
theorem dX7_set_100 : decode cX7_set 100 = .ok (.invokevirtual 162, 3) := by decide +kernel
theorem dX7_set_103 : decode cX7_set 103 = .ok (.invokevirtual 227, 3) := by decide +kernel
theorem dX7_set_106 : decode cX7_set 106 = .ok (.iload 4, 2) := by decide +kernel
theorem dX7_set_108 : decode cX7_set 108 = .ok (.if_icmp .ne 6, 3) := by decide +kernel
theorem dX7_set_111 : decode cX7_set 111 = .ok (.iload 7, 2) := by decide +kernel
theorem dX7_set_113 : decode cX7_set 113 = .ok (.ireturn, 1) := by decide +kernel
theorem dX7_set_114 : decode cX7_set 114 = .ok (.iinc 7 1, 3) := by decide +kernel
theorem dX7_set_117 : decode cX7_set 117 = .ok (.goto (-44), 3) := by decide +kernel
theorem dX7_set_120 : decode cX7_set 120 = .ok (.bipush (-9), 2) := by decide +kernel
theorem dX7_set_122 : decode cX7_set 122 = .ok (.ireturn, 1) := by decide +kernel
theorem dX7_byManner_0 : decode cX7_byManner 0 = .ok (.iload_n 1, 1) := by decide +kernel
theorem dX7_byManner_1 : decode cX7_byManner 1 = .ok (.invokestatic 108, 3) := by decide +kernel
theorem dX7_byManner_4 : decode cX7_byManner 4 = .ok (.ifCond .eq 7, 3) := by decide +kernel
theorem dX7_byManner_7 : decode cX7_byManner 7 = .ok (.iconst (-1), 1) := by decide +kernel
theorem dX7_byManner_8 : decode cX7_byManner 8 = .ok (.goto 10, 3) := by decide +kernel
theorem dX7_byManner_11 : decode cX7_byManner 11 = .ok (.iload_n 2, 1) := by decide +kernel
theorem dX7_byManner_12 : decode cX7_byManner 12 = .ok (.sipush 999, 3) := by decide +kernel
theorem dX7_byManner_15 : decode cX7_byManner 15 = .ok (.invokestatic 94, 3) := by decide +kernel
theorem dX7_byManner_18 : decode cX7_byManner 18 = .ok (.istore_n 3, 1) := by decide +kernel
theorem dX7_byManner_19 : decode cX7_byManner 19 = .ok (.iload_n 3, 1) := by decide +kernel
theorem dX7_byManner_20 : decode cX7_byManner 20 = .ok (.ifCond .eq 9, 3) := by decide +kernel
theorem dX7_byManner_23 : decode cX7_byManner 23 = .ok (.aload_n 0, 1) := by decide +kernel
theorem dX7_byManner_24 : decode cX7_byManner 24 = .ok (.iload_n 3, 1) := by decide +kernel
theorem dX7_byManner_25 : decode cX7_byManner 25 = .ok (.invokevirtual 61, 3) := by decide +kernel
theorem dX7_byManner_28 : decode cX7_byManner 28 = .ok (.ireturn, 1) := by decide +kernel
theorem dX7_byManner_29 : decode cX7_byManner 29 = .ok (.iconst 0, 1) := by decide +kernel
theorem dX7_byManner_30 : decode cX7_byManner 30 = .ok (.istore 4, 2) := by decide +kernel
theorem dX7_byManner_32 : decode cX7_byManner 32 = .ok (.aload_n 0, 1) := by decide +kernel
theorem dX7_byManner_33 : decode cX7_byManner 33 = .ok (.getfield 19, 3) := by decide +kernel
theorem dX7_byManner_36 : decode cX7_byManner 36 = .ok (.aload_n 0, 1) := by decide +kernel
theorem dX7_byManner_37 : decode cX7_byManner 37 = .ok (.getfield 10, 3) := by decide +kernel
theorem dX7_byManner_40 : decode cX7_byManner 40 = .ok (.invokevirtual 216, 3) := by decide +kernel
theorem dX7_byManner_43 : decode cX7_byManner 43 = .ok (.iconst 0, 1) := by decide +kernel
theorem dX7_byManner_44 : decode cX7_byManner 44 = .ok (.istore 5, 2) := by decide +kernel
theorem dX7_byManner_46 : decode cX7_byManner 46 = .ok (.iload 5, 2) := by decide +kernel
theorem dX7_byManner_48 : decode cX7_byManner 48 = .ok (.iconst 5, 1) := by decide +kernel
theorem dX7_byManner_49 : decode cX7_byManner 49 = .ok (.if_icmp .ge 48, 3) := by decide +kernel
theorem dX7_byManner_52 : decode cX7_byManner 52 = .ok (.aload_n 0, 1) := by decide +kernel
theorem dX7_byManner_53 : decode cX7_byManner 53 = .ok (.getfield 19, 3) := by decide +kernel
theorem dX7_byManner_56 : decode cX7_byManner 56 = .ok (.getfield 111, 3) := by decide +kernel
theorem dX7_byManner_59 : decode cX7_byManner 59 = .ok (.iload_n 1, 1) := by decide +kernel
theorem dX7_byManner_60 : decode cX7_byManner 60 = .ok (.iload 5, 2) := by decide +kernel
theorem dX7_byManner_62 : decode cX7_byManner 62 = .ok (.iastore, 1) := by decide +kernel
theorem dX7_byManner_63 : decode cX7_byManner 63 = .ok (.aload_n 0, 1) := by decide +kernel
theorem dX7_byManner_64 : decode cX7_byManner 64 = .ok (.getfield 25, 3) := by decide +kernel
theorem dX7_byManner_67 : decode cX7_byManner 67 = .ok (.aload_n 0, 1) := by decide +kernel
theorem dX7_byManner_68 : decode cX7_byManner 68 = .ok (.getfield 19, 3) := by decide +kernel
theorem dX7_byManner_71 : decode cX7_byManner 71 = .ok (.iload_n 1, 1) := by decide +kernel
theorem dX7_byManner_72 : decode cX7_byManner 72 = .ok (.invokevirtual 162, 3) := by decide +kernel
theorem dX7_byManner_75 : decode cX7_byManner 75 = .ok (.invokevirtual 227, 3) := by decide +kernel
theorem dX7_byManner_78 : decode cX7_byManner 78 = .ok (.iload_n 2, 1) := by decide +kernel
theorem dX7_byManner_79 : decode cX7_byManner 79 = .ok (.if_icmp .ne 12, 3) := by decide +kernel
theorem dX7_byManner_82 : decode cX7_byManner 82 = .ok (.iload 4, 2) := by decide +kernel
theorem dX7_byManner_84 : decode cX7_byManner 84 = .ok (.iconst 1, 1) := by decide +kernel
theorem dX7_byManner_85 : decode cX7_byManner 85 = .ok (.iload 5, 2) := by decide +kernel
theorem dX7_byManner_87 : decode cX7_byManner 87 = .ok (.ishl, 1) := by decide +kernel
theorem dX7_byManner_88 : decode cX7_byManner 88 = .ok (.ior, 1) := by decide +kernel
theorem dX7_byManner_89 : decode cX7_byManner 89 = .ok (.istore 4, 2) := by decide +kernel
theorem dX7_byManner_91 : decode cX7_byManner 91 = .ok (.iinc 5 1, 3) := by decide +kernel
theorem dX7_byManner_94 : decode cX7_byManner 94 = .ok (.goto (-48), 3) := by decide +kernel
theorem dX7_byManner_97 : decode cX7_byManner 97 = .ok (.iload 4, 2) := by decide +kernel
theorem dX7_byManner_99 : decode cX7_byManner 99 = .ok (.ireturn, 1) := by decide +kernel
theorem dX7_fewest_0 : decode cX7_fewest 0 = .ok (.aload_n 0, 1) := by decide +kernel
theorem dX7_fewest_1 : decode cX7_fewest 1 = .ok (.invokevirtual 233, 3) := by decide +kernel
theorem dX7_fewest_4 : decode cX7_fewest 4 = .ok (.aload_n 0, 1) := by decide +kernel
theorem dX7_fewest_5 : decode cX7_fewest 5 = .ok (.getfield 19, 3) := by decide +kernel
theorem dX7_fewest_8 : decode cX7_fewest 8 = .ok (.aload_n 0, 1) := by decide +kernel
theorem dX7_fewest_9 : decode cX7_fewest 9 = .ok (.getfield 10, 3) := by decide +kernel
theorem dX7_fewest_12 : decode cX7_fewest 12 = .ok (.invokevirtual 216, 3) := by decide +kernel
theorem dX7_fewest_15 : decode cX7_fewest 15 = .ok (.iconst 0, 1) := by decide +kernel
theorem dX7_fewest_16 : decode cX7_fewest 16 = .ok (.istore_n 1, 1) := by decide +kernel
theorem dX7_fewest_17 : decode cX7_fewest 17 = .ok (.iload_n 1, 1) := by decide +kernel
theorem dX7_fewest_18 : decode cX7_fewest 18 = .ok (.bipush 6, 2) := by decide +kernel
theorem dX7_fewest_20 : decode cX7_fewest 20 = .ok (.if_icmp .gt 41, 3) := by decide +kernel
theorem dX7_fewest_23 : decode cX7_fewest 23 = .ok (.iconst 0, 1) := by decide +kernel
theorem dX7_fewest_24 : decode cX7_fewest 24 = .ok (.istore_n 2, 1) := by decide +kernel
theorem dX7_fewest_25 : decode cX7_fewest 25 = .ok (.iload_n 2, 1) := by decide +kernel
theorem dX7_fewest_26 : decode cX7_fewest 26 = .ok (.bipush 64, 2) := by decide +kernel
theorem dX7_fewest_28 : decode cX7_fewest 28 = .ok (.if_icmp .ge 27, 3) := by decide +kernel
theorem dX7_fewest_31 : decode cX7_fewest 31 = .ok (.iload_n 2, 1) := by decide +kernel
theorem dX7_fewest_32 : decode cX7_fewest 32 = .ok (.invokestatic 148, 3) := by decide +kernel
theorem dX7_fewest_35 : decode cX7_fewest 35 = .ok (.iload_n 1, 1) := by decide +kernel
theorem dX7_fewest_36 : decode cX7_fewest 36 = .ok (.if_icmp .ne 13, 3) := by decide +kernel
theorem dX7_fewest_39 : decode cX7_fewest 39 = .ok (.aload_n 0, 1) := by decide +kernel
theorem dX7_fewest_40 : decode cX7_fewest 40 = .ok (.iload_n 2, 1) := by decide +kernel
theorem dX7_fewest_41 : decode cX7_fewest 41 = .ok (.invokevirtual 236, 3) := by decide +kernel
theorem dX7_fewest_44 : decode cX7_fewest 44 = .ok (.ifCond .eq 5, 3) := by decide +kernel
theorem dX7_fewest_47 : decode cX7_fewest 47 = .ok (.iload_n 2, 1) := by decide +kernel
theorem dX7_fewest_48 : decode cX7_fewest 48 = .ok (.ireturn, 1) := by decide +kernel
theorem dX7_fewest_49 : decode cX7_fewest 49 = .ok (.iinc 2 1, 3) := by decide +kernel
theorem dX7_fewest_52 : decode cX7_fewest 52 = .ok (.goto (-27), 3) := by decide +kernel
theorem dX7_fewest_55 : decode cX7_fewest 55 = .ok (.iinc 1 1, 3) := by decide +kernel
theorem dX7_fewest_58 : decode cX7_fewest 58 = .ok (.goto (-41), 3) := by decide +kernel
theorem dX7_fewest_61 : decode cX7_fewest 61 = .ok (.bipush (-9), 2) := by decide +kernel
theorem dX7_fewest_63 : decode cX7_fewest 63 = .ok (.ireturn, 1) := by decide +kernel
theorem dX7_since_0 : decode cX7_since 0 = .ok (.aload_n 0, 1) := by decide +kernel
theorem dX7_since_1 : decode cX7_since 1 = .ok (.getfield 239, 3) := by decide +kernel
theorem dX7_since_4 : decode cX7_since 4 = .ok (.ifCond .ne 10, 3) := by decide +kernel
theorem dX7_since_7 : decode cX7_since 7 = .ok (.aload_n 0, 1) := by decide +kernel
theorem dX7_since_8 : decode cX7_since 8 = .ok (.bipush (-3), 2) := by decide +kernel
theorem dX7_since_10 : decode cX7_since 10 = .ok (.invokevirtual 61, 3) := by decide +kernel
theorem dX7_since_13 : decode cX7_since 13 = .ok (.ireturn, 1) := by decide +kernel
theorem dX7_since_14 : decode cX7_since 14 = .ok (.aload_n 0, 1) := by decide +kernel
theorem dX7_since_15 : decode cX7_since 15 = .ok (.invokevirtual 233, 3) := by decide +kernel
theorem dX7_since_18 : decode cX7_since 18 = .ok (.iconst 0, 1) := by decide +kernel
theorem dX7_since_19 : decode cX7_since 19 = .ok (.istore_n 1, 1) := by decide +kernel
theorem dX7_since_20 : decode cX7_since 20 = .ok (.iconst 0, 1) := by decide +kernel
theorem dX7_since_21 : decode cX7_since 21 = .ok (.istore_n 2, 1) := by decide +kernel
theorem dX7_since_22 : decode cX7_since 22 = .ok (.iload_n 2, 1) := by decide +kernel
theorem dX7_since_23 : decode cX7_since 23 = .ok (.bipush 8, 2) := by decide +kernel
theorem dX7_since_25 : decode cX7_since 25 = .ok (.if_icmp .ge 39, 3) := by decide +kernel
theorem dX7_since_28 : decode cX7_since 28 = .ok (.aload_n 0, 1) := by decide +kernel
theorem dX7_since_29 : decode cX7_since 29 = .ok (.getfield 52, 3) := by decide +kernel
theorem dX7_since_32 : decode cX7_since 32 = .ok (.iload_n 2, 1) := by decide +kernel
theorem dX7_since_33 : decode cX7_since 33 = .ok (.aaload, 1) := by decide +kernel
theorem dX7_since_34 : decode cX7_since 34 = .ok (.aload_n 0, 1) := by decide +kernel
theorem dX7_since_35 : decode cX7_since 35 = .ok (.getfield 25, 3) := by decide +kernel
theorem dX7_since_38 : decode cX7_since 38 = .ok (.aload_n 0, 1) := by decide +kernel
theorem dX7_since_39 : decode cX7_since 39 = .ok (.getfield 16, 3) := by decide +kernel
theorem dX7_since_42 : decode cX7_since 42 = .ok (.iload_n 2, 1) := by decide +kernel
theorem dX7_since_43 : decode cX7_since 43 = .ok (.invokevirtual 162, 3) := by decide +kernel
theorem dX7_since_46 : decode cX7_since 46 = .ok (.invokevirtual 220, 3) := by decide +kernel
theorem dX7_since_49 : decode cX7_since 49 = .ok (.ifCond .ne 9, 3) := by decide +kernel
theorem dX7_since_52 : decode cX7_since 52 = .ok (.iload_n 1, 1) := by decide +kernel
theorem dX7_since_53 : decode cX7_since 53 = .ok (.iconst 1, 1) := by decide +kernel
theorem dX7_since_54 : decode cX7_since 54 = .ok (.iload_n 2, 1) := by decide +kernel
theorem dX7_since_55 : decode cX7_since 55 = .ok (.ishl, 1) := by decide +kernel
theorem dX7_since_56 : decode cX7_since 56 = .ok (.ior, 1) := by decide +kernel
theorem dX7_since_57 : decode cX7_since 57 = .ok (.istore_n 1, 1) := by decide +kernel
theorem dX7_since_58 : decode cX7_since 58 = .ok (.iinc 2 1, 3) := by decide +kernel
theorem dX7_since_61 : decode cX7_since 61 = .ok (.goto (-39), 3) := by decide +kernel
theorem dX7_since_64 : decode cX7_since 64 = .ok (.iload_n 1, 1) := by decide +kernel
theorem dX7_since_65 : decode cX7_since 65 = .ok (.ireturn, 1) := by decide +kernel
theorem dX7_missing_0 : decode cX7_missing 0 = .ok (.iload_n 1, 1) := by decide +kernel
theorem dX7_missing_1 : decode cX7_missing 1 = .ok (.invokestatic 108, 3) := by decide +kernel
theorem dX7_missing_4 : decode cX7_missing 4 = .ok (.ifCond .eq 9, 3) := by decide +kernel
theorem dX7_missing_7 : decode cX7_missing 7 = .ok (.aload_n 0, 1) := by decide +kernel
theorem dX7_missing_8 : decode cX7_missing 8 = .ok (.iconst (-1), 1) := by decide +kernel
theorem dX7_missing_9 : decode cX7_missing 9 = .ok (.invokevirtual 243, 3) := by decide +kernel
theorem dX7_missing_12 : decode cX7_missing 12 = .ok (.lreturn, 1) := by decide +kernel
theorem dX7_missing_13 : decode cX7_missing 13 = .ok (.iload_n 2, 1) := by decide +kernel
theorem dX7_missing_14 : decode cX7_missing 14 = .ok (.ifCond .lt 8, 3) := by decide +kernel
theorem dX7_missing_17 : decode cX7_missing 17 = .ok (.iload_n 3, 1) := by decide +kernel
theorem dX7_missing_18 : decode cX7_missing 18 = .ok (.iconst 2, 1) := by decide +kernel
theorem dX7_missing_19 : decode cX7_missing 19 = .ok (.if_icmp .ge 10, 3) := by decide +kernel
theorem dX7_missing_22 : decode cX7_missing 22 = .ok (.aload_n 0, 1) := by decide +kernel
theorem dX7_missing_23 : decode cX7_missing 23 = .ok (.bipush (-4), 2) := by decide +kernel
theorem dX7_missing_25 : decode cX7_missing 25 = .ok (.invokevirtual 243, 3) := by decide +kernel
theorem dX7_missing_28 : decode cX7_missing 28 = .ok (.lreturn, 1) := by decide +kernel
theorem dX7_missing_29 : decode cX7_missing 29 = .ok (.iload_n 2, 1) := by decide +kernel
theorem dX7_missing_30 : decode cX7_missing 30 = .ok (.sipush 999, 3) := by decide +kernel
theorem dX7_missing_33 : decode cX7_missing 33 = .ok (.if_icmp .gt 9, 3) := by decide +kernel
theorem dX7_missing_36 : decode cX7_missing 36 = .ok (.iload_n 3, 1) := by decide +kernel
theorem dX7_missing_37 : decode cX7_missing 37 = .ok (.bipush 20, 2) := by decide +kernel
theorem dX7_missing_39 : decode cX7_missing 39 = .ok (.if_icmp .le 10, 3) := by decide +kernel
theorem dX7_missing_42 : decode cX7_missing 42 = .ok (.aload_n 0, 1) := by decide +kernel
theorem dX7_missing_43 : decode cX7_missing 43 = .ok (.bipush (-6), 2) := by decide +kernel
theorem dX7_missing_45 : decode cX7_missing 45 = .ok (.invokevirtual 243, 3) := by decide +kernel
theorem dX7_missing_48 : decode cX7_missing 48 = .ok (.lreturn, 1) := by decide +kernel
theorem dX7_missing_49 : decode cX7_missing 49 = .ok (.iload 4, 2) := by decide +kernel
theorem dX7_missing_51 : decode cX7_missing 51 = .ok (.ifCond .lt 9, 3) := by decide +kernel
theorem dX7_missing_54 : decode cX7_missing 54 = .ok (.iload 4, 2) := by decide +kernel
theorem dX7_missing_56 : decode cX7_missing 56 = .ok (.iconst 1, 1) := by decide +kernel
theorem dX7_missing_57 : decode cX7_missing 57 = .ok (.if_icmp .le 10, 3) := by decide +kernel
theorem dX7_missing_60 : decode cX7_missing 60 = .ok (.aload_n 0, 1) := by decide +kernel
theorem dX7_missing_61 : decode cX7_missing 61 = .ok (.bipush (-2), 2) := by decide +kernel
theorem dX7_missing_63 : decode cX7_missing 63 = .ok (.invokevirtual 243, 3) := by decide +kernel
theorem dX7_missing_66 : decode cX7_missing 66 = .ok (.lreturn, 1) := by decide +kernel
theorem dX7_missing_67 : decode cX7_missing 67 = .ok (.lconst 0, 1) := by decide +kernel
theorem dX7_missing_68 : decode cX7_missing 68 = .ok (.lstore 5, 2) := by decide +kernel
theorem dX7_missing_70 : decode cX7_missing 70 = .ok (.aload_n 0, 1) := by decide +kernel
theorem dX7_missing_71 : decode cX7_missing 71 = .ok (.getfield 19, 3) := by decide +kernel
theorem dX7_missing_74 : decode cX7_missing 74 = .ok (.aload_n 0, 1) := by decide +kernel
theorem dX7_missing_75 : decode cX7_missing 75 = .ok (.getfield 10, 3) := by decide +kernel
theorem dX7_missing_78 : decode cX7_missing 78 = .ok (.invokevirtual 216, 3) := by decide +kernel
theorem dX7_missing_81 : decode cX7_missing 81 = .ok (.iconst 0, 1) := by decide +kernel
theorem dX7_missing_82 : decode cX7_missing 82 = .ok (.istore 7, 2) := by decide +kernel
theorem dX7_missing_84 : decode cX7_missing 84 = .ok (.iload 7, 2) := by decide +kernel
theorem dX7_missing_86 : decode cX7_missing 86 = .ok (.bipush 64, 2) := by decide +kernel
theorem dX7_missing_88 : decode cX7_missing 88 = .ok (.if_icmp .ge 69, 3) := by decide +kernel
theorem dX7_missing_91 : decode cX7_missing 91 = .ok (.aload_n 0, 1) := by decide +kernel
theorem dX7_missing_92 : decode cX7_missing 92 = .ok (.getfield 19, 3) := by decide +kernel
theorem dX7_missing_95 : decode cX7_missing 95 = .ok (.iload 7, 2) := by decide +kernel
theorem dX7_missing_97 : decode cX7_missing 97 = .ok (.putfield 224, 3) := by decide +kernel
theorem dX7_missing_100 : decode cX7_missing 100 = .ok (.iload 7, 2) := by decide +kernel
theorem dX7_missing_102 : decode cX7_missing 102 = .ok (.aload_n 0, 1) := by decide +kernel
theorem dX7_missing_103 : decode cX7_missing 103 = .ok (.getfield 10, 3) := by decide +kernel
theorem dX7_missing_106 : decode cX7_missing 106 = .ok (.getfield 224, 3) := by decide +kernel
theorem dX7_missing_109 : decode cX7_missing 109 = .ok (.iconst (-1), 1) := by decide +kernel
theorem dX7_missing_110 : decode cX7_missing 110 = .ok (.ixor, 1) := by decide +kernel
theorem dX7_missing_111 : decode cX7_missing 111 = .ok (.iand, 1) := by decide +kernel
theorem dX7_missing_112 : decode cX7_missing 112 = .ok (.ifCond .ne 39, 3) := by decide +kernel
theorem dX7_missing_115 : decode cX7_missing 115 = .ok (.aload_n 0, 1) := by decide +kernel
theorem dX7_missing_116 : decode cX7_missing 116 = .ok (.getfield 25, 3) := by decide +kernel
theorem dX7_missing_119 : decode cX7_missing 119 = .ok (.aload_n 0, 1) := by decide +kernel
theorem dX7_missing_120 : decode cX7_missing 120 = .ok (.getfield 19, 3) := by decide +kernel
theorem dX7_missing_123 : decode cX7_missing 123 = .ok (.iload_n 1, 1) := by decide +kernel
theorem dX7_missing_124 : decode cX7_missing 124 = .ok (.invokevirtual 162, 3) := by decide +kernel
theorem dX7_missing_127 : decode cX7_missing 127 = .ok (.invokevirtual 227, 3) := by decide +kernel
theorem dX7_missing_130 : decode cX7_missing 130 = .ok (.iload_n 2, 1) := by decide +kernel
theorem dX7_missing_131 : decode cX7_missing 131 = .ok (.if_icmp .ne 20, 3) := by decide +kernel
theorem dX7_missing_134 : decode cX7_missing 134 = .ok (.lload 5, 2) := by decide +kernel
theorem dX7_missing_136 : decode cX7_missing 136 = .ok (.iload_n 3, 1) := by decide +kernel
theorem dX7_missing_137 : decode cX7_missing 137 = .ok (.iconst 1, 1) := by decide +kernel
theorem dX7_missing_138 : decode cX7_missing 138 = .ok (.isub, 1) := by decide +kernel
theorem dX7_missing_139 : decode cX7_missing 139 = .ok (.i2l, 1) := by decide +kernel
theorem dX7_missing_140 : decode cX7_missing 140 = .ok (.iload 7, 2) := by decide +kernel
theorem dX7_missing_142 : decode cX7_missing 142 = .ok (.invokestatic 148, 3) := by decide +kernel
theorem dX7_missing_145 : decode cX7_missing 145 = .ok (.invokestatic 247, 3) := by decide +kernel
theorem dX7_missing_148 : decode cX7_missing 148 = .ok (.ladd, 1) := by decide +kernel
theorem dX7_missing_149 : decode cX7_missing 149 = .ok (.lstore 5, 2) := by decide +kernel
theorem dX7_missing_151 : decode cX7_missing 151 = .ok (.iinc 7 1, 3) := by decide +kernel
theorem dX7_missing_154 : decode cX7_missing 154 = .ok (.goto (-70), 3) := by decide +kernel
theorem dX7_missing_157 : decode cX7_missing 157 = .ok (.lload 5, 2) := by decide +kernel
theorem dX7_missing_159 : decode cX7_missing 159 = .ok (.iload_n 3, 1) := by decide +kernel
theorem dX7_missing_160 : decode cX7_missing 160 = .ok (.i2l, 1) := by decide +kernel
theorem dX7_missing_161 : decode cX7_missing 161 = .ok (.aload_n 0, 1) := by decide +kernel
theorem dX7_missing_162 : decode cX7_missing 162 = .ok (.getfield 10, 3) := by decide +kernel
theorem dX7_missing_165 : decode cX7_missing 165 = .ok (.getfield 224, 3) := by decide +kernel
theorem dX7_missing_168 : decode cX7_missing 168 = .ok (.invokestatic 148, 3) := by decide +kernel
theorem dX7_missing_171 : decode cX7_missing 171 = .ok (.invokestatic 247, 3) := by decide +kernel
theorem dX7_missing_174 : decode cX7_missing 174 = .ok (.iload 4, 2) := by decide +kernel
theorem dX7_missing_176 : decode cX7_missing 176 = .ok (.invokestatic 251, 3) := by decide +kernel
theorem dX7_missing_179 : decode cX7_missing 179 = .ok (.lreturn, 1) := by decide +kernel
theorem dX7_mean_0 : decode cX7_mean 0 = .ok (.iload_n 1, 1) := by decide +kernel
theorem dX7_mean_1 : decode cX7_mean 1 = .ok (.ifCond .lt 8, 3) := by decide +kernel
theorem dX7_mean_4 : decode cX7_mean 4 = .ok (.iload_n 1, 1) := by decide +kernel
theorem dX7_mean_5 : decode cX7_mean 5 = .ok (.iconst 1, 1) := by decide +kernel
theorem dX7_mean_6 : decode cX7_mean 6 = .ok (.if_icmp .le 10, 3) := by decide +kernel
theorem dX7_mean_9 : decode cX7_mean 9 = .ok (.aload_n 0, 1) := by decide +kernel
theorem dX7_mean_10 : decode cX7_mean 10 = .ok (.bipush (-2), 2) := by decide +kernel
theorem dX7_mean_12 : decode cX7_mean 12 = .ok (.invokevirtual 243, 3) := by decide +kernel
theorem dX7_mean_15 : decode cX7_mean 15 = .ok (.lreturn, 1) := by decide +kernel
theorem dX7_mean_16 : decode cX7_mean 16 = .ok (.lconst 0, 1) := by decide +kernel
theorem dX7_mean_17 : decode cX7_mean 17 = .ok (.lstore_n 2, 1) := by decide +kernel
theorem dX7_mean_18 : decode cX7_mean 18 = .ok (.lconst 0, 1) := by decide +kernel
theorem dX7_mean_19 : decode cX7_mean 19 = .ok (.lstore 4, 2) := by decide +kernel
theorem dX7_mean_21 : decode cX7_mean 21 = .ok (.iconst 0, 1) := by decide +kernel
theorem dX7_mean_22 : decode cX7_mean 22 = .ok (.istore 6, 2) := by decide +kernel
theorem dX7_mean_24 : decode cX7_mean 24 = .ok (.iload 6, 2) := by decide +kernel
theorem dX7_mean_26 : decode cX7_mean 26 = .ok (.bipush 8, 2) := by decide +kernel
theorem dX7_mean_28 : decode cX7_mean 28 = .ok (.if_icmp .ge 46, 3) := by decide +kernel
theorem dX7_mean_31 : decode cX7_mean 31 = .ok (.aload_n 0, 1) := by decide +kernel
theorem dX7_mean_32 : decode cX7_mean 32 = .ok (.getfield 25, 3) := by decide +kernel
theorem dX7_mean_35 : decode cX7_mean 35 = .ok (.aload_n 0, 1) := by decide +kernel
theorem dX7_mean_36 : decode cX7_mean 36 = .ok (.getfield 10, 3) := by decide +kernel
theorem dX7_mean_39 : decode cX7_mean 39 = .ok (.iload 6, 2) := by decide +kernel
theorem dX7_mean_41 : decode cX7_mean 41 = .ok (.invokevirtual 162, 3) := by decide +kernel
theorem dX7_mean_44 : decode cX7_mean 44 = .ok (.invokevirtual 227, 3) := by decide +kernel
theorem dX7_mean_47 : decode cX7_mean 47 = .ok (.istore 7, 2) := by decide +kernel
theorem dX7_mean_49 : decode cX7_mean 49 = .ok (.iload 7, 2) := by decide +kernel
theorem dX7_mean_51 : decode cX7_mean 51 = .ok (.bipush (-9), 2) := by decide +kernel
theorem dX7_mean_53 : decode cX7_mean 53 = .ok (.if_icmp .eq 15, 3) := by decide +kernel
theorem dX7_mean_56 : decode cX7_mean 56 = .ok (.lload_n 2, 1) := by decide +kernel
theorem dX7_mean_57 : decode cX7_mean 57 = .ok (.iload 7, 2) := by decide +kernel
theorem dX7_mean_59 : decode cX7_mean 59 = .ok (.i2l, 1) := by decide +kernel
theorem dX7_mean_60 : decode cX7_mean 60 = .ok (.ladd, 1) := by decide +kernel
theorem dX7_mean_61 : decode cX7_mean 61 = .ok (.lstore_n 2, 1) := by decide +kernel
theorem dX7_mean_62 : decode cX7_mean 62 = .ok (.lload 4, 2) := by decide +kernel
theorem dX7_mean_64 : decode cX7_mean 64 = .ok (.lconst 1, 1) := by decide +kernel
theorem dX7_mean_65 : decode cX7_mean 65 = .ok (.ladd, 1) := by decide +kernel
theorem dX7_mean_66 : decode cX7_mean 66 = .ok (.lstore 4, 2) := by decide +kernel
theorem dX7_mean_68 : decode cX7_mean 68 = .ok (.iinc 6 1, 3) := by decide +kernel
theorem dX7_mean_71 : decode cX7_mean 71 = .ok (.goto (-47), 3) := by decide +kernel
theorem dX7_mean_74 : decode cX7_mean 74 = .ok (.lload_n 2, 1) := by decide +kernel
theorem dX7_mean_75 : decode cX7_mean 75 = .ok (.lload 4, 2) := by decide +kernel
theorem dX7_mean_77 : decode cX7_mean 77 = .ok (.iload_n 1, 1) := by decide +kernel
theorem dX7_mean_78 : decode cX7_mean 78 = .ok (.invokestatic 251, 3) := by decide +kernel
theorem dX7_mean_81 : decode cX7_mean 81 = .ok (.lreturn, 1) := by decide +kernel
theorem dX7_whatIs_0 : decode cX7_whatIs 0 = .ok (.iload_n 1, 1) := by decide +kernel
theorem dX7_whatIs_1 : decode cX7_whatIs 1 = .ok (.invokestatic 83, 3) := by decide +kernel
theorem dX7_whatIs_4 : decode cX7_whatIs 4 = .ok (.ifCond .eq 9, 3) := by decide +kernel
theorem dX7_whatIs_7 : decode cX7_whatIs 7 = .ok (.aload_n 0, 1) := by decide +kernel
theorem dX7_whatIs_8 : decode cX7_whatIs 8 = .ok (.iconst (-1), 1) := by decide +kernel
theorem dX7_whatIs_9 : decode cX7_whatIs 9 = .ok (.invokevirtual 61, 3) := by decide +kernel
theorem dX7_whatIs_12 : decode cX7_whatIs 12 = .ok (.ireturn, 1) := by decide +kernel
theorem dX7_whatIs_13 : decode cX7_whatIs 13 = .ok (.iload_n 2, 1) := by decide +kernel
theorem dX7_whatIs_14 : decode cX7_whatIs 14 = .ok (.ifCond .lt 8, 3) := by decide +kernel
theorem dX7_whatIs_17 : decode cX7_whatIs 17 = .ok (.iload_n 2, 1) := by decide +kernel
theorem dX7_whatIs_18 : decode cX7_whatIs 18 = .ok (.iconst 1, 1) := by decide +kernel
theorem dX7_whatIs_19 : decode cX7_whatIs 19 = .ok (.if_icmp .le 10, 3) := by decide +kernel
theorem dX7_whatIs_22 : decode cX7_whatIs 22 = .ok (.aload_n 0, 1) := by decide +kernel
theorem dX7_whatIs_23 : decode cX7_whatIs 23 = .ok (.bipush (-2), 2) := by decide +kernel
theorem dX7_whatIs_25 : decode cX7_whatIs 25 = .ok (.invokevirtual 61, 3) := by decide +kernel
theorem dX7_whatIs_28 : decode cX7_whatIs 28 = .ok (.ireturn, 1) := by decide +kernel
theorem dX7_whatIs_29 : decode cX7_whatIs 29 = .ok (.iconst 0, 1) := by decide +kernel
theorem dX7_whatIs_30 : decode cX7_whatIs 30 = .ok (.istore_n 3, 1) := by decide +kernel
theorem dX7_whatIs_31 : decode cX7_whatIs 31 = .ok (.iload_n 2, 1) := by decide +kernel
theorem dX7_whatIs_32 : decode cX7_whatIs 32 = .ok (.ifCond .ne 8, 3) := by decide +kernel
theorem dX7_whatIs_35 : decode cX7_whatIs 35 = .ok (.bipush 6, 2) := by decide +kernel
theorem dX7_whatIs_37 : decode cX7_whatIs 37 = .ok (.goto 5, 3) := by decide +kernel
theorem dX7_whatIs_40 : decode cX7_whatIs 40 = .ok (.bipush 10, 2) := by decide +kernel
theorem dX7_whatIs_42 : decode cX7_whatIs 42 = .ok (.istore 4, 2) := by decide +kernel
theorem dX7_whatIs_44 : decode cX7_whatIs 44 = .ok (.aload_n 0, 1) := by decide +kernel
theorem dX7_whatIs_45 : decode cX7_whatIs 45 = .ok (.getfield 19, 3) := by decide +kernel
theorem dX7_whatIs_48 : decode cX7_whatIs 48 = .ok (.aload_n 0, 1) := by decide +kernel
theorem dX7_whatIs_49 : decode cX7_whatIs 49 = .ok (.getfield 10, 3) := by decide +kernel
theorem dX7_whatIs_52 : decode cX7_whatIs 52 = .ok (.invokevirtual 216, 3) := by decide +kernel
theorem dX7_whatIs_55 : decode cX7_whatIs 55 = .ok (.iconst 0, 1) := by decide +kernel
theorem dX7_whatIs_56 : decode cX7_whatIs 56 = .ok (.istore 5, 2) := by decide +kernel
theorem dX7_whatIs_58 : decode cX7_whatIs 58 = .ok (.iload 5, 2) := by decide +kernel
theorem dX7_whatIs_60 : decode cX7_whatIs 60 = .ok (.iload 4, 2) := by decide +kernel
theorem dX7_whatIs_62 : decode cX7_whatIs 62 = .ok (.if_icmp .ge 81, 3) := by decide +kernel
theorem dX7_whatIs_65 : decode cX7_whatIs 65 = .ok (.iload_n 2, 1) := by decide +kernel
theorem dX7_whatIs_66 : decode cX7_whatIs 66 = .ok (.ifCond .ne 8, 3) := by decide +kernel
theorem dX7_whatIs_69 : decode cX7_whatIs 69 = .ok (.iload 5, 2) := by decide +kernel
theorem dX7_whatIs_71 : decode cX7_whatIs 71 = .ok (.goto 12, 3) := by decide +kernel
theorem dX7_whatIs_74 : decode cX7_whatIs 74 = .ok (.aload_n 0, 1) := by decide +kernel
theorem dX7_whatIs_75 : decode cX7_whatIs 75 = .ok (.getfield 10, 3) := by decide +kernel
theorem dX7_whatIs_78 : decode cX7_whatIs 78 = .ok (.getfield 98, 3) := by decide +kernel
theorem dX7_whatIs_81 : decode cX7_whatIs 81 = .ok (.iload_n 1, 1) := by decide +kernel
theorem dX7_whatIs_82 : decode cX7_whatIs 82 = .ok (.iaload, 1) := by decide +kernel
theorem dX7_whatIs_83 : decode cX7_whatIs 83 = .ok (.istore 6, 2) := by decide +kernel
theorem dX7_whatIs_85 : decode cX7_whatIs 85 = .ok (.iload_n 2, 1) := by decide +kernel
theorem dX7_whatIs_86 : decode cX7_whatIs 86 = .ok (.ifCond .ne 15, 3) := by decide +kernel
theorem dX7_whatIs_89 : decode cX7_whatIs 89 = .ok (.aload_n 0, 1) := by decide +kernel
theorem dX7_whatIs_90 : decode cX7_whatIs 90 = .ok (.getfield 10, 3) := by decide +kernel
theorem dX7_whatIs_93 : decode cX7_whatIs 93 = .ok (.getfield 101, 3) := by decide +kernel
theorem dX7_whatIs_96 : decode cX7_whatIs 96 = .ok (.iload_n 1, 1) := by decide +kernel
theorem dX7_whatIs_97 : decode cX7_whatIs 97 = .ok (.iaload, 1) := by decide +kernel
theorem dX7_whatIs_98 : decode cX7_whatIs 98 = .ok (.goto 5, 3) := by decide +kernel
theorem dX7_whatIs_101 : decode cX7_whatIs 101 = .ok (.iload 5, 2) := by decide +kernel
theorem dX7_whatIs_103 : decode cX7_whatIs 103 = .ok (.istore 7, 2) := by decide +kernel
theorem dX7_whatIs_105 : decode cX7_whatIs 105 = .ok (.aload_n 0, 1) := by decide +kernel
theorem dX7_whatIs_106 : decode cX7_whatIs 106 = .ok (.getfield 19, 3) := by decide +kernel
theorem dX7_whatIs_109 : decode cX7_whatIs 109 = .ok (.iload_n 1, 1) := by decide +kernel
theorem dX7_whatIs_110 : decode cX7_whatIs 110 = .ok (.iload 6, 2) := by decide +kernel
theorem dX7_whatIs_112 : decode cX7_whatIs 112 = .ok (.iload 7, 2) := by decide +kernel
theorem dX7_whatIs_114 : decode cX7_whatIs 114 = .ok (.invokevirtual 104, 3) := by decide +kernel
theorem dX7_whatIs_117 : decode cX7_whatIs 117 = .ok (.aload_n 0, 1) := by decide +kernel
theorem dX7_whatIs_118 : decode cX7_whatIs 118 = .ok (.aload_n 0, 1) := by decide +kernel
theorem dX7_whatIs_119 : decode cX7_whatIs 119 = .ok (.getfield 19, 3) := by decide +kernel
theorem dX7_whatIs_122 : decode cX7_whatIs 122 = .ok (.invokevirtual 255, 3) := by decide +kernel
theorem dX7_whatIs_125 : decode cX7_whatIs 125 = .ok (.bipush (-9), 2) := by decide +kernel
theorem dX7_whatIs_127 : decode cX7_whatIs 127 = .ok (.if_icmp .ne 10, 3) := by decide +kernel
theorem dX7_whatIs_130 : decode cX7_whatIs 130 = .ok (.iload_n 3, 1) := by decide +kernel
theorem dX7_whatIs_131 : decode cX7_whatIs 131 = .ok (.iconst 1, 1) := by decide +kernel
theorem dX7_whatIs_132 : decode cX7_whatIs 132 = .ok (.iload 5, 2) := by decide +kernel
theorem dX7_whatIs_134 : decode cX7_whatIs 134 = .ok (.ishl, 1) := by decide +kernel
theorem dX7_whatIs_135 : decode cX7_whatIs 135 = .ok (.ior, 1) := by decide +kernel
theorem dX7_whatIs_136 : decode cX7_whatIs 136 = .ok (.istore_n 3, 1) := by decide +kernel
theorem dX7_whatIs_137 : decode cX7_whatIs 137 = .ok (.iinc 5 1, 3) := by decide +kernel
theorem dX7_whatIs_140 : decode cX7_whatIs 140 = .ok (.goto (-82), 3) := by decide +kernel
theorem dX7_whatIs_143 : decode cX7_whatIs 143 = .ok (.iload_n 3, 1) := by decide +kernel
theorem dX7_whatIs_144 : decode cX7_whatIs 144 = .ok (.ireturn, 1) := by decide +kernel
theorem dX7_row_0 : decode cX7_row 0 = .ok (.iload_n 1, 1) := by decide +kernel
theorem dX7_row_1 : decode cX7_row 1 = .ok (.ifCond .ge 10, 3) := by decide +kernel
theorem dX7_row_4 : decode cX7_row 4 = .ok (.aload_n 0, 1) := by decide +kernel
theorem dX7_row_5 : decode cX7_row 5 = .ok (.bipush (-4), 2) := by decide +kernel
theorem dX7_row_7 : decode cX7_row 7 = .ok (.invokevirtual 61, 3) := by decide +kernel
theorem dX7_row_10 : decode cX7_row 10 = .ok (.ireturn, 1) := by decide +kernel
theorem dX7_row_11 : decode cX7_row 11 = .ok (.iload_n 1, 1) := by decide +kernel
theorem dX7_row_12 : decode cX7_row 12 = .ok (.bipush 100, 2) := by decide +kernel
theorem dX7_row_14 : decode cX7_row 14 = .ok (.if_icmp .gt 15, 3) := by decide +kernel
theorem dX7_row_17 : decode cX7_row 17 = .ok (.aload_n 0, 1) := by decide +kernel
theorem dX7_row_18 : decode cX7_row 18 = .ok (.getfield 39, 3) := by decide +kernel
theorem dX7_row_21 : decode cX7_row 21 = .ok (.getfield 259, 3) := by decide +kernel
theorem dX7_row_24 : decode cX7_row 24 = .ok (.bipush 8, 2) := by decide +kernel
theorem dX7_row_26 : decode cX7_row 26 = .ok (.if_icmp .lt 10, 3) := by decide +kernel
theorem dX7_row_29 : decode cX7_row 29 = .ok (.aload_n 0, 1) := by decide +kernel
theorem dX7_row_30 : decode cX7_row 30 = .ok (.bipush (-6), 2) := by decide +kernel
theorem dX7_row_32 : decode cX7_row 32 = .ok (.invokevirtual 61, 3) := by decide +kernel
theorem dX7_row_35 : decode cX7_row 35 = .ok (.ireturn, 1) := by decide +kernel
theorem dX7_row_36 : decode cX7_row 36 = .ok (.aload_n 0, 1) := by decide +kernel
theorem dX7_row_37 : decode cX7_row 37 = .ok (.getfield 39, 3) := by decide +kernel
theorem dX7_row_40 : decode cX7_row 40 = .ok (.iload_n 1, 1) := by decide +kernel
theorem dX7_row_41 : decode cX7_row 41 = .ok (.invokevirtual 262, 3) := by decide +kernel
theorem dX7_row_44 : decode cX7_row 44 = .ok (.ireturn, 1) := by decide +kernel
theorem dX7_judge_0 : decode cX7_judge 0 = .ok (.aload_n 0, 1) := by decide +kernel
theorem dX7_judge_1 : decode cX7_judge 1 = .ok (.aload_n 0, 1) := by decide +kernel
theorem dX7_judge_2 : decode cX7_judge 2 = .ok (.getfield 10, 3) := by decide +kernel
theorem dX7_judge_5 : decode cX7_judge 5 = .ok (.invokevirtual 255, 3) := by decide +kernel
theorem dX7_judge_8 : decode cX7_judge 8 = .ok (.istore_n 1, 1) := by decide +kernel
theorem dX7_judge_9 : decode cX7_judge 9 = .ok (.aload_n 0, 1) := by decide +kernel
theorem dX7_judge_10 : decode cX7_judge 10 = .ok (.getfield 39, 3) := by decide +kernel
theorem dX7_judge_13 : decode cX7_judge 13 = .ok (.iconst 0, 1) := by decide +kernel
theorem dX7_judge_14 : decode cX7_judge 14 = .ok (.putfield 259, 3) := by decide +kernel
theorem dX7_judge_17 : decode cX7_judge 17 = .ok (.iload_n 1, 1) := by decide +kernel
theorem dX7_judge_18 : decode cX7_judge 18 = .ok (.ireturn, 1) := by decide +kernel
theorem dX7_clear_0 : decode cX7_clear 0 = .ok (.aload_n 0, 1) := by decide +kernel
theorem dX7_clear_1 : decode cX7_clear 1 = .ok (.getfield 39, 3) := by decide +kernel
theorem dX7_clear_4 : decode cX7_clear 4 = .ok (.getfield 259, 3) := by decide +kernel
theorem dX7_clear_7 : decode cX7_clear 7 = .ok (.istore_n 1, 1) := by decide +kernel
theorem dX7_clear_8 : decode cX7_clear 8 = .ok (.aload_n 0, 1) := by decide +kernel
theorem dX7_clear_9 : decode cX7_clear 9 = .ok (.getfield 39, 3) := by decide +kernel
theorem dX7_clear_12 : decode cX7_clear 12 = .ok (.iconst 0, 1) := by decide +kernel
theorem dX7_clear_13 : decode cX7_clear 13 = .ok (.putfield 259, 3) := by decide +kernel
theorem dX7_clear_16 : decode cX7_clear 16 = .ok (.iload_n 1, 1) := by decide +kernel
theorem dX7_clear_17 : decode cX7_clear 17 = .ok (.ireturn, 1) := by decide +kernel
theorem dX7_lots_0 : decode cX7_lots 0 = .ok (.iload_n 1, 1) := by decide +kernel
theorem dX7_lots_1 : decode cX7_lots 1 = .ok (.iconst 1, 1) := by decide +kernel
theorem dX7_lots_2 : decode cX7_lots 2 = .ok (.if_icmp .ge 10, 3) := by decide +kernel
theorem dX7_lots_5 : decode cX7_lots 5 = .ok (.aload_n 0, 1) := by decide +kernel
theorem dX7_lots_6 : decode cX7_lots 6 = .ok (.bipush (-4), 2) := by decide +kernel
theorem dX7_lots_8 : decode cX7_lots 8 = .ok (.invokevirtual 61, 3) := by decide +kernel
theorem dX7_lots_11 : decode cX7_lots 11 = .ok (.ireturn, 1) := by decide +kernel
theorem dX7_lots_12 : decode cX7_lots 12 = .ok (.iload_n 1, 1) := by decide +kernel
theorem dX7_lots_13 : decode cX7_lots 13 = .ok (.bipush 20, 2) := by decide +kernel
theorem dX7_lots_15 : decode cX7_lots 15 = .ok (.if_icmp .le 10, 3) := by decide +kernel
theorem dX7_lots_18 : decode cX7_lots 18 = .ok (.aload_n 0, 1) := by decide +kernel
theorem dX7_lots_19 : decode cX7_lots 19 = .ok (.bipush (-6), 2) := by decide +kernel
theorem dX7_lots_21 : decode cX7_lots 21 = .ok (.invokevirtual 61, 3) := by decide +kernel
theorem dX7_lots_24 : decode cX7_lots 24 = .ok (.ireturn, 1) := by decide +kernel
theorem dX7_lots_25 : decode cX7_lots 25 = .ok (.iload_n 3, 1) := by decide +kernel
theorem dX7_lots_26 : decode cX7_lots 26 = .ok (.ifCond .lt 8, 3) := by decide +kernel
theorem dX7_lots_29 : decode cX7_lots 29 = .ok (.iload_n 3, 1) := by decide +kernel
theorem dX7_lots_30 : decode cX7_lots 30 = .ok (.iconst 1, 1) := by decide +kernel
theorem dX7_lots_31 : decode cX7_lots 31 = .ok (.if_icmp .le 10, 3) := by decide +kernel
theorem dX7_lots_34 : decode cX7_lots 34 = .ok (.aload_n 0, 1) := by decide +kernel
theorem dX7_lots_35 : decode cX7_lots 35 = .ok (.bipush (-2), 2) := by decide +kernel
theorem dX7_lots_37 : decode cX7_lots 37 = .ok (.invokevirtual 61, 3) := by decide +kernel
theorem dX7_lots_40 : decode cX7_lots 40 = .ok (.ireturn, 1) := by decide +kernel
theorem dX7_lots_41 : decode cX7_lots 41 = .ok (.iconst 0, 1) := by decide +kernel
theorem dX7_lots_42 : decode cX7_lots 42 = .ok (.istore 4, 2) := by decide +kernel
theorem dX7_lots_44 : decode cX7_lots 44 = .ok (.aload_n 0, 1) := by decide +kernel
theorem dX7_lots_45 : decode cX7_lots 45 = .ok (.getfield 46, 3) := by decide +kernel
theorem dX7_lots_48 : decode cX7_lots 48 = .ok (.iload_n 2, 1) := by decide +kernel
theorem dX7_lots_49 : decode cX7_lots 49 = .ok (.putfield 263, 3) := by decide +kernel
theorem dX7_lots_52 : decode cX7_lots 52 = .ok (.iconst 0, 1) := by decide +kernel
theorem dX7_lots_53 : decode cX7_lots 53 = .ok (.istore 5, 2) := by decide +kernel
theorem dX7_lots_55 : decode cX7_lots 55 = .ok (.iload 5, 2) := by decide +kernel
theorem dX7_lots_57 : decode cX7_lots 57 = .ok (.iload_n 1, 1) := by decide +kernel
theorem dX7_lots_58 : decode cX7_lots 58 = .ok (.if_icmp .ge 44, 3) := by decide +kernel
theorem dX7_lots_61 : decode cX7_lots 61 = .ok (.aload_n 0, 1) := by decide +kernel
theorem dX7_lots_62 : decode cX7_lots 62 = .ok (.invokevirtual 266, 3) := by decide +kernel
theorem dX7_lots_65 : decode cX7_lots 65 = .ok (.iload 4, 2) := by decide +kernel
theorem dX7_lots_67 : decode cX7_lots 67 = .ok (.iload_n 3, 1) := by decide +kernel
theorem dX7_lots_68 : decode cX7_lots 68 = .ok (.ifCond .ne 14, 3) := by decide +kernel
theorem dX7_lots_71 : decode cX7_lots 71 = .ok (.aload_n 0, 1) := by decide +kernel
theorem dX7_lots_72 : decode cX7_lots 72 = .ok (.aload_n 0, 1) := by decide +kernel
theorem dX7_lots_73 : decode cX7_lots 73 = .ok (.getfield 19, 3) := by decide +kernel
theorem dX7_lots_76 : decode cX7_lots 76 = .ok (.invokevirtual 269, 3) := by decide +kernel
theorem dX7_lots_79 : decode cX7_lots 79 = .ok (.goto 14, 3) := by decide +kernel
theorem dX7_lots_82 : decode cX7_lots 82 = .ok (.aload_n 0, 1) := by decide +kernel
theorem dX7_lots_83 : decode cX7_lots 83 = .ok (.aload_n 0, 1) := by decide +kernel
theorem dX7_lots_84 : decode cX7_lots 84 = .ok (.getfield 19, 3) := by decide +kernel
theorem dX7_lots_87 : decode cX7_lots 87 = .ok (.invokevirtual 272, 3) := by decide +kernel
theorem dX7_lots_90 : decode cX7_lots 90 = .ok (.invokestatic 148, 3) := by decide +kernel
theorem dX7_lots_93 : decode cX7_lots 93 = .ok (.iadd, 1) := by decide +kernel
theorem dX7_lots_94 : decode cX7_lots 94 = .ok (.istore 4, 2) := by decide +kernel
theorem dX7_lots_96 : decode cX7_lots 96 = .ok (.iinc 5 1, 3) := by decide +kernel
theorem dX7_lots_99 : decode cX7_lots 99 = .ok (.goto (-44), 3) := by decide +kernel
theorem dX7_lots_102 : decode cX7_lots 102 = .ok (.iload 4, 2) := by decide +kernel
theorem dX7_lots_104 : decode cX7_lots 104 = .ok (.ireturn, 1) := by decide +kernel
theorem dX7_image_0 : decode cX7_image 0 = .ok (.aload_n 0, 1) := by decide +kernel
theorem dX7_image_1 : decode cX7_image 1 = .ok (.getfield 16, 3) := by decide +kernel
theorem dX7_image_4 : decode cX7_image 4 = .ok (.aload_n 0, 1) := by decide +kernel
theorem dX7_image_5 : decode cX7_image 5 = .ok (.getfield 10, 3) := by decide +kernel
theorem dX7_image_8 : decode cX7_image 8 = .ok (.invokevirtual 216, 3) := by decide +kernel
theorem dX7_image_11 : decode cX7_image 11 = .ok (.aload_n 0, 1) := by decide +kernel
theorem dX7_image_12 : decode cX7_image 12 = .ok (.iconst 1, 1) := by decide +kernel
theorem dX7_image_13 : decode cX7_image 13 = .ok (.putfield 239, 3) := by decide +kernel
theorem dX7_image_16 : decode cX7_image 16 = .ok (.aload_n 0, 1) := by decide +kernel
theorem dX7_image_17 : decode cX7_image 17 = .ok (.getfield 10, 3) := by decide +kernel
theorem dX7_image_20 : decode cX7_image 20 = .ok (.invokevirtual 275, 3) := by decide +kernel
theorem dX7_image_23 : decode cX7_image 23 = .ok (.ireturn, 1) := by decide +kernel
theorem dX7_on_0 : decode cX7_on 0 = .ok (.aload_n 0, 1) := by decide +kernel
theorem dX7_on_1 : decode cX7_on 1 = .ok (.getfield 239, 3) := by decide +kernel
theorem dX7_on_4 : decode cX7_on 4 = .ok (.ifCond .ne 10, 3) := by decide +kernel
theorem dX7_on_7 : decode cX7_on 7 = .ok (.aload_n 0, 1) := by decide +kernel
theorem dX7_on_8 : decode cX7_on 8 = .ok (.bipush (-3), 2) := by decide +kernel
theorem dX7_on_10 : decode cX7_on 10 = .ok (.invokevirtual 61, 3) := by decide +kernel
theorem dX7_on_13 : decode cX7_on 13 = .ok (.ireturn, 1) := by decide +kernel
theorem dX7_on_14 : decode cX7_on 14 = .ok (.aload_n 0, 1) := by decide +kernel
theorem dX7_on_15 : decode cX7_on 15 = .ok (.getfield 10, 3) := by decide +kernel
theorem dX7_on_18 : decode cX7_on 18 = .ok (.aload_n 0, 1) := by decide +kernel
theorem dX7_on_19 : decode cX7_on 19 = .ok (.getfield 16, 3) := by decide +kernel
theorem dX7_on_22 : decode cX7_on 22 = .ok (.invokevirtual 216, 3) := by decide +kernel
theorem dX7_on_25 : decode cX7_on 25 = .ok (.aload_n 0, 1) := by decide +kernel
theorem dX7_on_26 : decode cX7_on 26 = .ok (.getfield 10, 3) := by decide +kernel
theorem dX7_on_29 : decode cX7_on 29 = .ok (.invokevirtual 275, 3) := by decide +kernel
theorem dX7_on_32 : decode cX7_on 32 = .ok (.ireturn, 1) := by decide +kernel
theorem dX7_count_0 : decode cX7_count 0 = .ok (.iload_n 1, 1) := by decide +kernel
theorem dX7_count_1 : decode cX7_count 1 = .ok (.tableswitch 100 0 6 #[43, 51, 59, 67, 75, 84, 92], 43) := by decide +kernel
theorem dX7_count_44 : decode cX7_count 44 = .ok (.aload_n 0, 1) := by decide +kernel
theorem dX7_count_45 : decode cX7_count 45 = .ok (.getfield 10, 3) := by decide +kernel
theorem dX7_count_48 : decode cX7_count 48 = .ok (.invokevirtual 275, 3) := by decide +kernel
theorem dX7_count_51 : decode cX7_count 51 = .ok (.ireturn, 1) := by decide +kernel
theorem dX7_count_52 : decode cX7_count 52 = .ok (.aload_n 0, 1) := by decide +kernel
theorem dX7_count_53 : decode cX7_count 53 = .ok (.getfield 10, 3) := by decide +kernel
theorem dX7_count_56 : decode cX7_count 56 = .ok (.getfield 224, 3) := by decide +kernel
theorem dX7_count_59 : decode cX7_count 59 = .ok (.ireturn, 1) := by decide +kernel
theorem dX7_count_60 : decode cX7_count 60 = .ok (.aload_n 0, 1) := by decide +kernel
theorem dX7_count_61 : decode cX7_count 61 = .ok (.getfield 10, 3) := by decide +kernel
theorem dX7_count_64 : decode cX7_count 64 = .ok (.invokevirtual 278, 3) := by decide +kernel
theorem dX7_count_67 : decode cX7_count 67 = .ok (.ireturn, 1) := by decide +kernel
theorem dX7_count_68 : decode cX7_count 68 = .ok (.aload_n 0, 1) := by decide +kernel
theorem dX7_count_69 : decode cX7_count 69 = .ok (.getfield 10, 3) := by decide +kernel
theorem dX7_count_72 : decode cX7_count 72 = .ok (.invokevirtual 281, 3) := by decide +kernel
theorem dX7_count_75 : decode cX7_count 75 = .ok (.ireturn, 1) := by decide +kernel
theorem dX7_count_76 : decode cX7_count 76 = .ok (.aload_n 0, 1) := by decide +kernel
theorem dX7_count_77 : decode cX7_count 77 = .ok (.aload_n 0, 1) := by decide +kernel
theorem dX7_count_78 : decode cX7_count 78 = .ok (.getfield 10, 3) := by decide +kernel
theorem dX7_count_81 : decode cX7_count 81 = .ok (.invokevirtual 272, 3) := by decide +kernel
theorem dX7_count_84 : decode cX7_count 84 = .ok (.ireturn, 1) := by decide +kernel
theorem dX7_count_85 : decode cX7_count 85 = .ok (.aload_n 0, 1) := by decide +kernel
theorem dX7_count_86 : decode cX7_count 86 = .ok (.getfield 39, 3) := by decide +kernel
theorem dX7_count_89 : decode cX7_count 89 = .ok (.getfield 259, 3) := by decide +kernel
theorem dX7_count_92 : decode cX7_count 92 = .ok (.ireturn, 1) := by decide +kernel
theorem dX7_count_93 : decode cX7_count 93 = .ok (.aload_n 0, 1) := by decide +kernel
theorem dX7_count_94 : decode cX7_count 94 = .ok (.getfield 32, 3) := by decide +kernel
theorem dX7_count_97 : decode cX7_count 97 = .ok (.getfield 65, 3) := by decide +kernel
theorem dX7_count_100 : decode cX7_count 100 = .ok (.ireturn, 1) := by decide +kernel
theorem dX7_count_101 : decode cX7_count 101 = .ok (.iload_n 1, 1) := by decide +kernel
theorem dX7_count_102 : decode cX7_count 102 = .ok (.bipush 11, 2) := by decide +kernel
theorem dX7_count_104 : decode cX7_count 104 = .ok (.if_icmp .lt 21, 3) := by decide +kernel
theorem dX7_count_107 : decode cX7_count 107 = .ok (.iload_n 1, 1) := by decide +kernel
theorem dX7_count_108 : decode cX7_count 108 = .ok (.bipush 16, 2) := by decide +kernel
theorem dX7_count_110 : decode cX7_count 110 = .ok (.if_icmp .gt 15, 3) := by decide +kernel
theorem dX7_count_113 : decode cX7_count 113 = .ok (.aload_n 0, 1) := by decide +kernel
theorem dX7_count_114 : decode cX7_count 114 = .ok (.getfield 56, 3) := by decide +kernel
theorem dX7_count_117 : decode cX7_count 117 = .ok (.iload_n 1, 1) := by decide +kernel
theorem dX7_count_118 : decode cX7_count 118 = .ok (.bipush 10, 2) := by decide +kernel
theorem dX7_count_120 : decode cX7_count 120 = .ok (.isub, 1) := by decide +kernel
theorem dX7_count_121 : decode cX7_count 121 = .ok (.iaload, 1) := by decide +kernel
theorem dX7_count_122 : decode cX7_count 122 = .ok (.goto 5, 3) := by decide +kernel
theorem dX7_count_125 : decode cX7_count 125 = .ok (.bipush (-9), 2) := by decide +kernel
theorem dX7_count_127 : decode cX7_count 127 = .ok (.ireturn, 1) := by decide +kernel
theorem dX7_noLayer_0 : decode cX7_noLayer 0 = .ok (.iload_n 0, 1) := by decide +kernel
theorem dX7_noLayer_1 : decode cX7_noLayer 1 = .ok (.ifCond .lt 9, 3) := by decide +kernel
theorem dX7_noLayer_4 : decode cX7_noLayer 4 = .ok (.iload_n 0, 1) := by decide +kernel
theorem dX7_noLayer_5 : decode cX7_noLayer 5 = .ok (.bipush 6, 2) := by decide +kernel
theorem dX7_noLayer_7 : decode cX7_noLayer 7 = .ok (.if_icmp .lt 7, 3) := by decide +kernel
theorem dX7_noLayer_10 : decode cX7_noLayer 10 = .ok (.iconst 1, 1) := by decide +kernel
theorem dX7_noLayer_11 : decode cX7_noLayer 11 = .ok (.goto 4, 3) := by decide +kernel
theorem dX7_noLayer_14 : decode cX7_noLayer 14 = .ok (.iconst 0, 1) := by decide +kernel
theorem dX7_noLayer_15 : decode cX7_noLayer 15 = .ok (.ireturn, 1) := by decide +kernel
theorem dX7_noKey_0 : decode cX7_noKey 0 = .ok (.iload_n 0, 1) := by decide +kernel
theorem dX7_noKey_1 : decode cX7_noKey 1 = .ok (.ifCond .lt 9, 3) := by decide +kernel
theorem dX7_noKey_4 : decode cX7_noKey 4 = .ok (.iload_n 0, 1) := by decide +kernel
theorem dX7_noKey_5 : decode cX7_noKey 5 = .ok (.bipush 8, 2) := by decide +kernel
theorem dX7_noKey_7 : decode cX7_noKey 7 = .ok (.if_icmp .lt 7, 3) := by decide +kernel
theorem dX7_noKey_10 : decode cX7_noKey 10 = .ok (.iconst 1, 1) := by decide +kernel
theorem dX7_noKey_11 : decode cX7_noKey 11 = .ok (.goto 4, 3) := by decide +kernel
theorem dX7_noKey_14 : decode cX7_noKey 14 = .ok (.iconst 0, 1) := by decide +kernel
theorem dX7_noKey_15 : decode cX7_noKey 15 = .ok (.ireturn, 1) := by decide +kernel
theorem dX7_noEntry_0 : decode cX7_noEntry 0 = .ok (.iload_n 1, 1) := by decide +kernel
theorem dX7_noEntry_1 : decode cX7_noEntry 1 = .ok (.invokestatic 83, 3) := by decide +kernel
theorem dX7_noEntry_4 : decode cX7_noEntry 4 = .ok (.ifCond .ne 27, 3) := by decide +kernel
theorem dX7_noEntry_7 : decode cX7_noEntry 7 = .ok (.iload_n 2, 1) := by decide +kernel
theorem dX7_noEntry_8 : decode cX7_noEntry 8 = .ok (.invokestatic 108, 3) := by decide +kernel
theorem dX7_noEntry_11 : decode cX7_noEntry 11 = .ok (.ifCond .ne 20, 3) := by decide +kernel
theorem dX7_noEntry_14 : decode cX7_noEntry 14 = .ok (.aload_n 0, 1) := by decide +kernel
theorem dX7_noEntry_15 : decode cX7_noEntry 15 = .ok (.getfield 10, 3) := by decide +kernel
theorem dX7_noEntry_18 : decode cX7_noEntry 18 = .ok (.getfield 121, 3) := by decide +kernel
theorem dX7_noEntry_21 : decode cX7_noEntry 21 = .ok (.iload_n 1, 1) := by decide +kernel
theorem dX7_noEntry_22 : decode cX7_noEntry 22 = .ok (.iload_n 2, 1) := by decide +kernel
theorem dX7_noEntry_23 : decode cX7_noEntry 23 = .ok (.invokestatic 118, 3) := by decide +kernel
theorem dX7_noEntry_26 : decode cX7_noEntry 26 = .ok (.iaload, 1) := by decide +kernel
theorem dX7_noEntry_27 : decode cX7_noEntry 27 = .ok (.iconst (-1), 1) := by decide +kernel
theorem dX7_noEntry_28 : decode cX7_noEntry 28 = .ok (.if_icmp .ne 7, 3) := by decide +kernel
theorem dX7_noEntry_31 : decode cX7_noEntry 31 = .ok (.iconst 1, 1) := by decide +kernel
theorem dX7_noEntry_32 : decode cX7_noEntry 32 = .ok (.goto 4, 3) := by decide +kernel
theorem dX7_noEntry_35 : decode cX7_noEntry 35 = .ok (.iconst 0, 1) := by decide +kernel
theorem dX7_noEntry_36 : decode cX7_noEntry 36 = .ok (.ireturn, 1) := by decide +kernel
theorem dX7_outside_0 : decode cX7_outside 0 = .ok (.iload_n 0, 1) := by decide +kernel
theorem dX7_outside_1 : decode cX7_outside 1 = .ok (.ifCond .ge 6, 3) := by decide +kernel
theorem dX7_outside_4 : decode cX7_outside 4 = .ok (.bipush (-4), 2) := by decide +kernel
theorem dX7_outside_6 : decode cX7_outside 6 = .ok (.ireturn, 1) := by decide +kernel
theorem dX7_outside_7 : decode cX7_outside 7 = .ok (.iload_n 0, 1) := by decide +kernel
theorem dX7_outside_8 : decode cX7_outside 8 = .ok (.iload_n 1, 1) := by decide +kernel
theorem dX7_outside_9 : decode cX7_outside 9 = .ok (.if_icmp .le 8, 3) := by decide +kernel
theorem dX7_outside_12 : decode cX7_outside 12 = .ok (.bipush (-6), 2) := by decide +kernel
theorem dX7_outside_14 : decode cX7_outside 14 = .ok (.goto 4, 3) := by decide +kernel
theorem dX7_outside_17 : decode cX7_outside 17 = .ok (.iconst 0, 1) := by decide +kernel
theorem dX7_outside_18 : decode cX7_outside 18 = .ok (.ireturn, 1) := by decide +kernel
theorem dX7_refuse_0 : decode cX7_refuse 0 = .ok (.aload_n 0, 1) := by decide +kernel
theorem dX7_refuse_1 : decode cX7_refuse 1 = .ok (.getfield 56, 3) := by decide +kernel
theorem dX7_refuse_4 : decode cX7_refuse 4 = .ok (.iload_n 1, 1) := by decide +kernel
theorem dX7_refuse_5 : decode cX7_refuse 5 = .ok (.ineg, 1) := by decide +kernel
theorem dX7_refuse_6 : decode cX7_refuse 6 = .ok (.dup2, 1) := by decide +kernel
theorem dX7_refuse_7 : decode cX7_refuse 7 = .ok (.iaload, 1) := by decide +kernel
theorem dX7_refuse_8 : decode cX7_refuse 8 = .ok (.iconst 1, 1) := by decide +kernel
theorem dX7_refuse_9 : decode cX7_refuse 9 = .ok (.iadd, 1) := by decide +kernel
theorem dX7_refuse_10 : decode cX7_refuse 10 = .ok (.iastore, 1) := by decide +kernel
theorem dX7_refuse_11 : decode cX7_refuse 11 = .ok (.iload_n 1, 1) := by decide +kernel
theorem dX7_refuse_12 : decode cX7_refuse 12 = .ok (.ireturn, 1) := by decide +kernel
theorem dX7_refuseLong_0 : decode cX7_refuseLong 0 = .ok (.ldc2_w 284, 3) := by decide +kernel
theorem dX7_refuseLong_3 : decode cX7_refuseLong 3 = .ok (.aload_n 0, 1) := by decide +kernel
theorem dX7_refuseLong_4 : decode cX7_refuseLong 4 = .ok (.iload_n 1, 1) := by decide +kernel
theorem dX7_refuseLong_5 : decode cX7_refuseLong 5 = .ok (.invokevirtual 61, 3) := by decide +kernel
theorem dX7_refuseLong_8 : decode cX7_refuseLong 8 = .ok (.i2l, 1) := by decide +kernel
theorem dX7_refuseLong_9 : decode cX7_refuseLong 9 = .ok (.lsub, 1) := by decide +kernel
theorem dX7_refuseLong_10 : decode cX7_refuseLong 10 = .ok (.lreturn, 1) := by decide +kernel
theorem dX7_slotOf_0 : decode cX7_slotOf 0 = .ok (.iload_n 0, 1) := by decide +kernel
theorem dX7_slotOf_1 : decode cX7_slotOf 1 = .ok (.bipush 8, 2) := by decide +kernel
theorem dX7_slotOf_3 : decode cX7_slotOf 3 = .ok (.imul, 1) := by decide +kernel
theorem dX7_slotOf_4 : decode cX7_slotOf 4 = .ok (.iload_n 1, 1) := by decide +kernel
theorem dX7_slotOf_5 : decode cX7_slotOf 5 = .ok (.iadd, 1) := by decide +kernel
theorem dX7_slotOf_6 : decode cX7_slotOf 6 = .ok (.ireturn, 1) := by decide +kernel
theorem dX7_replace_0 : decode cX7_replace 0 = .ok (.iload_n 1, 1) := by decide +kernel
theorem dX7_replace_1 : decode cX7_replace 1 = .ok (.iload_n 2, 1) := by decide +kernel
theorem dX7_replace_2 : decode cX7_replace 2 = .ok (.invokestatic 118, 3) := by decide +kernel
theorem dX7_replace_5 : decode cX7_replace 5 = .ok (.istore 6, 2) := by decide +kernel
theorem dX7_replace_7 : decode cX7_replace 7 = .ok (.aload_n 0, 1) := by decide +kernel
theorem dX7_replace_8 : decode cX7_replace 8 = .ok (.getfield 10, 3) := by decide +kernel
theorem dX7_replace_11 : decode cX7_replace 11 = .ok (.getfield 121, 3) := by decide +kernel
theorem dX7_replace_14 : decode cX7_replace 14 = .ok (.iload 6, 2) := by decide +kernel
theorem dX7_replace_16 : decode cX7_replace 16 = .ok (.iaload, 1) := by decide +kernel
theorem dX7_replace_17 : decode cX7_replace 17 = .ok (.iconst (-1), 1) := by decide +kernel
theorem dX7_replace_18 : decode cX7_replace 18 = .ok (.if_icmp .ne 7, 3) := by decide +kernel
theorem dX7_replace_21 : decode cX7_replace 21 = .ok (.iconst 0, 1) := by decide +kernel
theorem dX7_replace_22 : decode cX7_replace 22 = .ok (.goto 4, 3) := by decide +kernel
theorem dX7_replace_25 : decode cX7_replace 25 = .ok (.iconst 1, 1) := by decide +kernel
theorem dX7_replace_26 : decode cX7_replace 26 = .ok (.istore 7, 2) := by decide +kernel
theorem dX7_replace_28 : decode cX7_replace 28 = .ok (.aload_n 0, 1) := by decide +kernel
theorem dX7_replace_29 : decode cX7_replace 29 = .ok (.getfield 10, 3) := by decide +kernel
theorem dX7_replace_32 : decode cX7_replace 32 = .ok (.iload 6, 2) := by decide +kernel
theorem dX7_replace_34 : decode cX7_replace 34 = .ok (.iload_n 3, 1) := by decide +kernel
theorem dX7_replace_35 : decode cX7_replace 35 = .ok (.iload 4, 2) := by decide +kernel
theorem dX7_replace_37 : decode cX7_replace 37 = .ok (.iload 5, 2) := by decide +kernel
theorem dX7_replace_39 : decode cX7_replace 39 = .ok (.invokevirtual 131, 3) := by decide +kernel
theorem dX7_replace_42 : decode cX7_replace 42 = .ok (.iload 7, 2) := by decide +kernel
theorem dX7_replace_44 : decode cX7_replace 44 = .ok (.ireturn, 1) := by decide +kernel
theorem dX7_applyTold_0 : decode cX7_applyTold 0 = .ok (.aload_n 0, 1) := by decide +kernel
theorem dX7_applyTold_1 : decode cX7_applyTold 1 = .ok (.getfield 19, 3) := by decide +kernel
theorem dX7_applyTold_4 : decode cX7_applyTold 4 = .ok (.aload_n 0, 1) := by decide +kernel
theorem dX7_applyTold_5 : decode cX7_applyTold 5 = .ok (.getfield 10, 3) := by decide +kernel
theorem dX7_applyTold_8 : decode cX7_applyTold 8 = .ok (.invokevirtual 216, 3) := by decide +kernel
theorem dX7_applyTold_11 : decode cX7_applyTold 11 = .ok (.aload_n 0, 1) := by decide +kernel
theorem dX7_applyTold_12 : decode cX7_applyTold 12 = .ok (.getfield 32, 3) := by decide +kernel
theorem dX7_applyTold_15 : decode cX7_applyTold 15 = .ok (.iconst 0, 1) := by decide +kernel
theorem dX7_applyTold_16 : decode cX7_applyTold 16 = .ok (.putfield 80, 3) := by decide +kernel
theorem dX7_applyTold_19 : decode cX7_applyTold 19 = .ok (.iconst 0, 1) := by decide +kernel
theorem dX7_applyTold_20 : decode cX7_applyTold 20 = .ok (.istore_n 1, 1) := by decide +kernel
theorem dX7_applyTold_21 : decode cX7_applyTold 21 = .ok (.iload_n 1, 1) := by decide +kernel
theorem dX7_applyTold_22 : decode cX7_applyTold 22 = .ok (.bipush 96, 2) := by decide +kernel
theorem dX7_applyTold_24 : decode cX7_applyTold 24 = .ok (.if_icmp .ge 67, 3) := by decide +kernel
theorem dX7_applyTold_27 : decode cX7_applyTold 27 = .ok (.aload_n 0, 1) := by decide +kernel
theorem dX7_applyTold_28 : decode cX7_applyTold 28 = .ok (.getfield 32, 3) := by decide +kernel
theorem dX7_applyTold_31 : decode cX7_applyTold 31 = .ok (.getfield 80, 3) := by decide +kernel
theorem dX7_applyTold_34 : decode cX7_applyTold 34 = .ok (.aload_n 0, 1) := by decide +kernel
theorem dX7_applyTold_35 : decode cX7_applyTold 35 = .ok (.getfield 32, 3) := by decide +kernel
theorem dX7_applyTold_38 : decode cX7_applyTold 38 = .ok (.getfield 65, 3) := by decide +kernel
theorem dX7_applyTold_41 : decode cX7_applyTold 41 = .ok (.if_icmp .ge 50, 3) := by decide +kernel
theorem dX7_applyTold_44 : decode cX7_applyTold 44 = .ok (.aload_n 0, 1) := by decide +kernel
theorem dX7_applyTold_45 : decode cX7_applyTold 45 = .ok (.getfield 32, 3) := by decide +kernel
theorem dX7_applyTold_48 : decode cX7_applyTold 48 = .ok (.getfield 80, 3) := by decide +kernel
theorem dX7_applyTold_51 : decode cX7_applyTold 51 = .ok (.istore_n 2, 1) := by decide +kernel
theorem dX7_applyTold_52 : decode cX7_applyTold 52 = .ok (.aload_n 0, 1) := by decide +kernel
theorem dX7_applyTold_53 : decode cX7_applyTold 53 = .ok (.getfield 32, 3) := by decide +kernel
theorem dX7_applyTold_56 : decode cX7_applyTold 56 = .ok (.invokevirtual 286, 3) := by decide +kernel
theorem dX7_applyTold_59 : decode cX7_applyTold 59 = .ok (.ifCond .eq 20, 3) := by decide +kernel
theorem dX7_applyTold_62 : decode cX7_applyTold 62 = .ok (.aload_n 0, 1) := by decide +kernel
theorem dX7_applyTold_63 : decode cX7_applyTold 63 = .ok (.getfield 32, 3) := by decide +kernel
theorem dX7_applyTold_66 : decode cX7_applyTold 66 = .ok (.getfield 289, 3) := by decide +kernel
theorem dX7_applyTold_69 : decode cX7_applyTold 69 = .ok (.aload_n 0, 1) := by decide +kernel
theorem dX7_applyTold_70 : decode cX7_applyTold 70 = .ok (.getfield 19, 3) := by decide +kernel
theorem dX7_applyTold_73 : decode cX7_applyTold 73 = .ok (.invokevirtual 293, 3) := by decide +kernel
theorem dX7_applyTold_76 : decode cX7_applyTold 76 = .ok (.ifCond .ne 9, 3) := by decide +kernel
theorem dX7_applyTold_79 : decode cX7_applyTold 79 = .ok (.sipush (-2000), 3) := by decide +kernel
theorem dX7_applyTold_82 : decode cX7_applyTold 82 = .ok (.iload_n 2, 1) := by decide +kernel
theorem dX7_applyTold_83 : decode cX7_applyTold 83 = .ok (.isub, 1) := by decide +kernel
theorem dX7_applyTold_84 : decode cX7_applyTold 84 = .ok (.ireturn, 1) := by decide +kernel
theorem dX7_applyTold_85 : decode cX7_applyTold 85 = .ok (.iinc 1 1, 3) := by decide +kernel
theorem dX7_applyTold_88 : decode cX7_applyTold 88 = .ok (.goto (-67), 3) := by decide +kernel
theorem dX7_applyTold_91 : decode cX7_applyTold 91 = .ok (.aload_n 0, 1) := by decide +kernel
theorem dX7_applyTold_92 : decode cX7_applyTold 92 = .ok (.getfield 10, 3) := by decide +kernel
theorem dX7_applyTold_95 : decode cX7_applyTold 95 = .ok (.aload_n 0, 1) := by decide +kernel
theorem dX7_applyTold_96 : decode cX7_applyTold 96 = .ok (.getfield 19, 3) := by decide +kernel
theorem dX7_applyTold_99 : decode cX7_applyTold 99 = .ok (.invokevirtual 216, 3) := by decide +kernel
theorem dX7_applyTold_102 : decode cX7_applyTold 102 = .ok (.iload_n 1, 1) := by decide +kernel
theorem dX7_applyTold_103 : decode cX7_applyTold 103 = .ok (.ireturn, 1) := by decide +kernel
theorem dX7_usedBy_0 : decode cX7_usedBy 0 = .ok (.iconst 0, 1) := by decide +kernel
theorem dX7_usedBy_1 : decode cX7_usedBy 1 = .ok (.istore_n 2, 1) := by decide +kernel
theorem dX7_usedBy_2 : decode cX7_usedBy 2 = .ok (.iconst 0, 1) := by decide +kernel
theorem dX7_usedBy_3 : decode cX7_usedBy 3 = .ok (.istore_n 3, 1) := by decide +kernel
theorem dX7_usedBy_4 : decode cX7_usedBy 4 = .ok (.iload_n 3, 1) := by decide +kernel
theorem dX7_usedBy_5 : decode cX7_usedBy 5 = .ok (.bipush 8, 2) := by decide +kernel
theorem dX7_usedBy_7 : decode cX7_usedBy 7 = .ok (.if_icmp .ge 37, 3) := by decide +kernel
theorem dX7_usedBy_10 : decode cX7_usedBy 10 = .ok (.aload_n 0, 1) := by decide +kernel
theorem dX7_usedBy_11 : decode cX7_usedBy 11 = .ok (.getfield 25, 3) := by decide +kernel
theorem dX7_usedBy_14 : decode cX7_usedBy 14 = .ok (.aload_n 0, 1) := by decide +kernel
theorem dX7_usedBy_15 : decode cX7_usedBy 15 = .ok (.getfield 10, 3) := by decide +kernel
theorem dX7_usedBy_18 : decode cX7_usedBy 18 = .ok (.iload_n 3, 1) := by decide +kernel
theorem dX7_usedBy_19 : decode cX7_usedBy 19 = .ok (.invokevirtual 162, 3) := by decide +kernel
theorem dX7_usedBy_22 : decode cX7_usedBy 22 = .ok (.getfield 202, 3) := by decide +kernel
theorem dX7_usedBy_25 : decode cX7_usedBy 25 = .ok (.iload_n 1, 1) := by decide +kernel
theorem dX7_usedBy_26 : decode cX7_usedBy 26 = .ok (.ishr, 1) := by decide +kernel
theorem dX7_usedBy_27 : decode cX7_usedBy 27 = .ok (.iconst 1, 1) := by decide +kernel
theorem dX7_usedBy_28 : decode cX7_usedBy 28 = .ok (.iand, 1) := by decide +kernel
theorem dX7_usedBy_29 : decode cX7_usedBy 29 = .ok (.ifCond .eq 9, 3) := by decide +kernel
theorem dX7_usedBy_32 : decode cX7_usedBy 32 = .ok (.iload_n 2, 1) := by decide +kernel
theorem dX7_usedBy_33 : decode cX7_usedBy 33 = .ok (.iconst 1, 1) := by decide +kernel
theorem dX7_usedBy_34 : decode cX7_usedBy 34 = .ok (.iload_n 3, 1) := by decide +kernel
theorem dX7_usedBy_35 : decode cX7_usedBy 35 = .ok (.ishl, 1) := by decide +kernel
theorem dX7_usedBy_36 : decode cX7_usedBy 36 = .ok (.ior, 1) := by decide +kernel
theorem dX7_usedBy_37 : decode cX7_usedBy 37 = .ok (.istore_n 2, 1) := by decide +kernel
theorem dX7_usedBy_38 : decode cX7_usedBy 38 = .ok (.iinc 3 1, 3) := by decide +kernel
theorem dX7_usedBy_41 : decode cX7_usedBy 41 = .ok (.goto (-37), 3) := by decide +kernel
theorem dX7_usedBy_44 : decode cX7_usedBy 44 = .ok (.iload_n 2, 1) := by decide +kernel
theorem dX7_usedBy_45 : decode cX7_usedBy 45 = .ok (.ireturn, 1) := by decide +kernel
theorem dX7_isAmong_0 : decode cX7_isAmong 0 = .ok (.iload_n 2, 1) := by decide +kernel
theorem dX7_isAmong_1 : decode cX7_isAmong 1 = .ok (.lookupswitch 47 #[(0, 27), (1, 33)], 27) := by decide +kernel
theorem dX7_isAmong_28 : decode cX7_isAmong 28 = .ok (.aload_n 0, 1) := by decide +kernel
theorem dX7_isAmong_29 : decode cX7_isAmong 29 = .ok (.iload_n 1, 1) := by decide +kernel
theorem dX7_isAmong_30 : decode cX7_isAmong 30 = .ok (.invokevirtual 299, 3) := by decide +kernel
theorem dX7_isAmong_33 : decode cX7_isAmong 33 = .ok (.ireturn, 1) := by decide +kernel
theorem dX7_isAmong_34 : decode cX7_isAmong 34 = .ok (.aload_n 0, 1) := by decide +kernel
theorem dX7_isAmong_35 : decode cX7_isAmong 35 = .ok (.getfield 166, 3) := by decide +kernel
theorem dX7_isAmong_38 : decode cX7_isAmong 38 = .ok (.iconst 2, 1) := by decide +kernel
theorem dX7_isAmong_39 : decode cX7_isAmong 39 = .ok (.if_icmp .eq 7, 3) := by decide +kernel
theorem dX7_isAmong_42 : decode cX7_isAmong 42 = .ok (.iconst 1, 1) := by decide +kernel
theorem dX7_isAmong_43 : decode cX7_isAmong 43 = .ok (.goto 4, 3) := by decide +kernel
theorem dX7_isAmong_46 : decode cX7_isAmong 46 = .ok (.iconst 0, 1) := by decide +kernel
theorem dX7_isAmong_47 : decode cX7_isAmong 47 = .ok (.ireturn, 1) := by decide +kernel
theorem dX7_isAmong_48 : decode cX7_isAmong 48 = .ok (.aload_n 0, 1) := by decide +kernel
theorem dX7_isAmong_49 : decode cX7_isAmong 49 = .ok (.getfield 166, 3) := by decide +kernel
theorem dX7_isAmong_52 : decode cX7_isAmong 52 = .ok (.ifCond .ne 7, 3) := by decide +kernel
theorem dX7_isAmong_55 : decode cX7_isAmong 55 = .ok (.iconst 1, 1) := by decide +kernel
theorem dX7_isAmong_56 : decode cX7_isAmong 56 = .ok (.goto 4, 3) := by decide +kernel
theorem dX7_isAmong_59 : decode cX7_isAmong 59 = .ok (.iconst 0, 1) := by decide +kernel
theorem dX7_isAmong_60 : decode cX7_isAmong 60 = .ok (.ireturn, 1) := by decide +kernel
theorem dX7_numbersTogether_0 : decode cX7_numbersTogether 0 = .ok (.iconst 0, 1) := by decide +kernel
theorem dX7_numbersTogether_1 : decode cX7_numbersTogether 1 = .ok (.istore_n 2, 1) := by decide +kernel
theorem dX7_numbersTogether_2 : decode cX7_numbersTogether 2 = .ok (.iconst 0, 1) := by decide +kernel
theorem dX7_numbersTogether_3 : decode cX7_numbersTogether 3 = .ok (.istore_n 3, 1) := by decide +kernel
theorem dX7_numbersTogether_4 : decode cX7_numbersTogether 4 = .ok (.iload_n 3, 1) := by decide +kernel
theorem dX7_numbersTogether_5 : decode cX7_numbersTogether 5 = .ok (.bipush 8, 2) := by decide +kernel
theorem dX7_numbersTogether_7 : decode cX7_numbersTogether 7 = .ok (.if_icmp .ge 28, 3) := by decide +kernel
theorem dX7_numbersTogether_10 : decode cX7_numbersTogether 10 = .ok (.iload_n 2, 1) := by decide +kernel
theorem dX7_numbersTogether_11 : decode cX7_numbersTogether 11 = .ok (.aload_n 0, 1) := by decide +kernel
theorem dX7_numbersTogether_12 : decode cX7_numbersTogether 12 = .ok (.getfield 25, 3) := by decide +kernel
theorem dX7_numbersTogether_15 : decode cX7_numbersTogether 15 = .ok (.aload_n 1, 1) := by decide +kernel
theorem dX7_numbersTogether_16 : decode cX7_numbersTogether 16 = .ok (.iload_n 3, 1) := by decide +kernel
theorem dX7_numbersTogether_17 : decode cX7_numbersTogether 17 = .ok (.invokevirtual 162, 3) := by decide +kernel
theorem dX7_numbersTogether_20 : decode cX7_numbersTogether 20 = .ok (.invokevirtual 227, 3) := by decide +kernel
theorem dX7_numbersTogether_23 : decode cX7_numbersTogether 23 = .ok (.iconst 0, 1) := by decide +kernel
theorem dX7_numbersTogether_24 : decode cX7_numbersTogether 24 = .ok (.invokestatic 302, 3) := by decide +kernel
theorem dX7_numbersTogether_27 : decode cX7_numbersTogether 27 = .ok (.iadd, 1) := by decide +kernel
theorem dX7_numbersTogether_28 : decode cX7_numbersTogether 28 = .ok (.istore_n 2, 1) := by decide +kernel
theorem dX7_numbersTogether_29 : decode cX7_numbersTogether 29 = .ok (.iinc 3 1, 3) := by decide +kernel
theorem dX7_numbersTogether_32 : decode cX7_numbersTogether 32 = .ok (.goto (-28), 3) := by decide +kernel
theorem dX7_numbersTogether_35 : decode cX7_numbersTogether 35 = .ok (.iload_n 2, 1) := by decide +kernel
theorem dX7_numbersTogether_36 : decode cX7_numbersTogether 36 = .ok (.ireturn, 1) := by decide +kernel
theorem dX7_faultBits_0 : decode cX7_faultBits 0 = .ok (.iconst 0, 1) := by decide +kernel
theorem dX7_faultBits_1 : decode cX7_faultBits 1 = .ok (.istore_n 2, 1) := by decide +kernel
theorem dX7_faultBits_2 : decode cX7_faultBits 2 = .ok (.iconst 0, 1) := by decide +kernel
theorem dX7_faultBits_3 : decode cX7_faultBits 3 = .ok (.istore_n 3, 1) := by decide +kernel
theorem dX7_faultBits_4 : decode cX7_faultBits 4 = .ok (.iload_n 3, 1) := by decide +kernel
theorem dX7_faultBits_5 : decode cX7_faultBits 5 = .ok (.bipush 8, 2) := by decide +kernel
theorem dX7_faultBits_7 : decode cX7_faultBits 7 = .ok (.if_icmp .ge 31, 3) := by decide +kernel
theorem dX7_faultBits_10 : decode cX7_faultBits 10 = .ok (.aload_n 0, 1) := by decide +kernel
theorem dX7_faultBits_11 : decode cX7_faultBits 11 = .ok (.getfield 25, 3) := by decide +kernel
theorem dX7_faultBits_14 : decode cX7_faultBits 14 = .ok (.aload_n 1, 1) := by decide +kernel
theorem dX7_faultBits_15 : decode cX7_faultBits 15 = .ok (.iload_n 3, 1) := by decide +kernel
theorem dX7_faultBits_16 : decode cX7_faultBits 16 = .ok (.invokevirtual 162, 3) := by decide +kernel
theorem dX7_faultBits_19 : decode cX7_faultBits 19 = .ok (.getfield 166, 3) := by decide +kernel
theorem dX7_faultBits_22 : decode cX7_faultBits 22 = .ok (.iconst 2, 1) := by decide +kernel
theorem dX7_faultBits_23 : decode cX7_faultBits 23 = .ok (.if_icmp .ne 9, 3) := by decide +kernel
theorem dX7_faultBits_26 : decode cX7_faultBits 26 = .ok (.iload_n 2, 1) := by decide +kernel
theorem dX7_faultBits_27 : decode cX7_faultBits 27 = .ok (.iconst 1, 1) := by decide +kernel
theorem dX7_faultBits_28 : decode cX7_faultBits 28 = .ok (.iload_n 3, 1) := by decide +kernel
theorem dX7_faultBits_29 : decode cX7_faultBits 29 = .ok (.ishl, 1) := by decide +kernel
theorem dX7_faultBits_30 : decode cX7_faultBits 30 = .ok (.ior, 1) := by decide +kernel
theorem dX7_faultBits_31 : decode cX7_faultBits 31 = .ok (.istore_n 2, 1) := by decide +kernel
theorem dX7_faultBits_32 : decode cX7_faultBits 32 = .ok (.iinc 3 1, 3) := by decide +kernel
theorem dX7_faultBits_35 : decode cX7_faultBits 35 = .ok (.goto (-31), 3) := by decide +kernel
theorem dX7_faultBits_38 : decode cX7_faultBits 38 = .ok (.iload_n 2, 1) := by decide +kernel
theorem dX7_faultBits_39 : decode cX7_faultBits 39 = .ok (.ireturn, 1) := by decide +kernel
theorem dX7_keepPresent_0 : decode cX7_keepPresent 0 = .ok (.iconst 0, 1) := by decide +kernel
theorem dX7_keepPresent_1 : decode cX7_keepPresent 1 = .ok (.istore_n 1, 1) := by decide +kernel
theorem dX7_keepPresent_2 : decode cX7_keepPresent 2 = .ok (.iload_n 1, 1) := by decide +kernel
theorem dX7_keepPresent_3 : decode cX7_keepPresent 3 = .ok (.bipush 8, 2) := by decide +kernel
theorem dX7_keepPresent_5 : decode cX7_keepPresent 5 = .ok (.if_icmp .ge 30, 3) := by decide +kernel
theorem dX7_keepPresent_8 : decode cX7_keepPresent 8 = .ok (.aload_n 0, 1) := by decide +kernel
theorem dX7_keepPresent_9 : decode cX7_keepPresent 9 = .ok (.getfield 52, 3) := by decide +kernel
theorem dX7_keepPresent_12 : decode cX7_keepPresent 12 = .ok (.iload_n 1, 1) := by decide +kernel
theorem dX7_keepPresent_13 : decode cX7_keepPresent 13 = .ok (.aaload, 1) := by decide +kernel
theorem dX7_keepPresent_14 : decode cX7_keepPresent 14 = .ok (.aload_n 0, 1) := by decide +kernel
theorem dX7_keepPresent_15 : decode cX7_keepPresent 15 = .ok (.getfield 25, 3) := by decide +kernel
theorem dX7_keepPresent_18 : decode cX7_keepPresent 18 = .ok (.aload_n 0, 1) := by decide +kernel
theorem dX7_keepPresent_19 : decode cX7_keepPresent 19 = .ok (.getfield 10, 3) := by decide +kernel
theorem dX7_keepPresent_22 : decode cX7_keepPresent 22 = .ok (.iload_n 1, 1) := by decide +kernel
theorem dX7_keepPresent_23 : decode cX7_keepPresent 23 = .ok (.invokevirtual 162, 3) := by decide +kernel
theorem dX7_keepPresent_26 : decode cX7_keepPresent 26 = .ok (.invokevirtual 212, 3) := by decide +kernel
theorem dX7_keepPresent_29 : decode cX7_keepPresent 29 = .ok (.iinc 1 1, 3) := by decide +kernel
theorem dX7_keepPresent_32 : decode cX7_keepPresent 32 = .ok (.goto (-30), 3) := by decide +kernel
theorem dX7_keepPresent_35 : decode cX7_keepPresent 35 = .ok (.return_, 1) := by decide +kernel
theorem dX7_isPresentBy_0 : decode cX7_isPresentBy 0 = .ok (.aload_n 0, 1) := by decide +kernel
theorem dX7_isPresentBy_1 : decode cX7_isPresentBy 1 = .ok (.getfield 19, 3) := by decide +kernel
theorem dX7_isPresentBy_4 : decode cX7_isPresentBy 4 = .ok (.iload_n 1, 1) := by decide +kernel
theorem dX7_isPresentBy_5 : decode cX7_isPresentBy 5 = .ok (.putfield 224, 3) := by decide +kernel
theorem dX7_isPresentBy_8 : decode cX7_isPresentBy 8 = .ok (.iconst 0, 1) := by decide +kernel
theorem dX7_isPresentBy_9 : decode cX7_isPresentBy 9 = .ok (.istore_n 2, 1) := by decide +kernel
theorem dX7_isPresentBy_10 : decode cX7_isPresentBy 10 = .ok (.iload_n 2, 1) := by decide +kernel
theorem dX7_isPresentBy_11 : decode cX7_isPresentBy 11 = .ok (.bipush 8, 2) := by decide +kernel
theorem dX7_isPresentBy_13 : decode cX7_isPresentBy 13 = .ok (.if_icmp .ge 35, 3) := by decide +kernel
theorem dX7_isPresentBy_16 : decode cX7_isPresentBy 16 = .ok (.aload_n 0, 1) := by decide +kernel
theorem dX7_isPresentBy_17 : decode cX7_isPresentBy 17 = .ok (.getfield 52, 3) := by decide +kernel
theorem dX7_isPresentBy_20 : decode cX7_isPresentBy 20 = .ok (.iload_n 2, 1) := by decide +kernel
theorem dX7_isPresentBy_21 : decode cX7_isPresentBy 21 = .ok (.aaload, 1) := by decide +kernel
theorem dX7_isPresentBy_22 : decode cX7_isPresentBy 22 = .ok (.aload_n 0, 1) := by decide +kernel
theorem dX7_isPresentBy_23 : decode cX7_isPresentBy 23 = .ok (.getfield 25, 3) := by decide +kernel
theorem dX7_isPresentBy_26 : decode cX7_isPresentBy 26 = .ok (.aload_n 0, 1) := by decide +kernel
theorem dX7_isPresentBy_27 : decode cX7_isPresentBy 27 = .ok (.getfield 19, 3) := by decide +kernel
theorem dX7_isPresentBy_30 : decode cX7_isPresentBy 30 = .ok (.iload_n 2, 1) := by decide +kernel
theorem dX7_isPresentBy_31 : decode cX7_isPresentBy 31 = .ok (.invokevirtual 162, 3) := by decide +kernel
theorem dX7_isPresentBy_34 : decode cX7_isPresentBy 34 = .ok (.invokevirtual 220, 3) := by decide +kernel
theorem dX7_isPresentBy_37 : decode cX7_isPresentBy 37 = .ok (.ifCond .ne 5, 3) := by decide +kernel
theorem dX7_isPresentBy_40 : decode cX7_isPresentBy 40 = .ok (.iconst 0, 1) := by decide +kernel
theorem dX7_isPresentBy_41 : decode cX7_isPresentBy 41 = .ok (.ireturn, 1) := by decide +kernel
theorem dX7_isPresentBy_42 : decode cX7_isPresentBy 42 = .ok (.iinc 2 1, 3) := by decide +kernel
theorem dX7_isPresentBy_45 : decode cX7_isPresentBy 45 = .ok (.goto (-35), 3) := by decide +kernel
theorem dX7_isPresentBy_48 : decode cX7_isPresentBy 48 = .ok (.iconst 1, 1) := by decide +kernel
theorem dX7_isPresentBy_49 : decode cX7_isPresentBy 49 = .ok (.ireturn, 1) := by decide +kernel
theorem dX7_firstNotSo_0 : decode cX7_firstNotSo 0 = .ok (.iconst 0, 1) := by decide +kernel
theorem dX7_firstNotSo_1 : decode cX7_firstNotSo 1 = .ok (.istore_n 2, 1) := by decide +kernel
theorem dX7_firstNotSo_2 : decode cX7_firstNotSo 2 = .ok (.iload_n 2, 1) := by decide +kernel
theorem dX7_firstNotSo_3 : decode cX7_firstNotSo 3 = .ok (.aload_n 0, 1) := by decide +kernel
theorem dX7_firstNotSo_4 : decode cX7_firstNotSo 4 = .ok (.getfield 39, 3) := by decide +kernel
theorem dX7_firstNotSo_7 : decode cX7_firstNotSo 7 = .ok (.getfield 259, 3) := by decide +kernel
theorem dX7_firstNotSo_10 : decode cX7_firstNotSo 10 = .ok (.if_icmp .ge 34, 3) := by decide +kernel
theorem dX7_firstNotSo_13 : decode cX7_firstNotSo 13 = .ok (.aload_n 0, 1) := by decide +kernel
theorem dX7_firstNotSo_14 : decode cX7_firstNotSo 14 = .ok (.getfield 39, 3) := by decide +kernel
theorem dX7_firstNotSo_17 : decode cX7_firstNotSo 17 = .ok (.iload_n 2, 1) := by decide +kernel
theorem dX7_firstNotSo_18 : decode cX7_firstNotSo 18 = .ok (.aload_n 0, 1) := by decide +kernel
theorem dX7_firstNotSo_19 : decode cX7_firstNotSo 19 = .ok (.getfield 25, 3) := by decide +kernel
theorem dX7_firstNotSo_22 : decode cX7_firstNotSo 22 = .ok (.aload_n 1, 1) := by decide +kernel
theorem dX7_firstNotSo_23 : decode cX7_firstNotSo 23 = .ok (.iload_n 2, 1) := by decide +kernel
theorem dX7_firstNotSo_24 : decode cX7_firstNotSo 24 = .ok (.invokevirtual 162, 3) := by decide +kernel
theorem dX7_firstNotSo_27 : decode cX7_firstNotSo 27 = .ok (.invokevirtual 227, 3) := by decide +kernel
theorem dX7_firstNotSo_30 : decode cX7_firstNotSo 30 = .ok (.invokevirtual 307, 3) := by decide +kernel
theorem dX7_firstNotSo_33 : decode cX7_firstNotSo 33 = .ok (.ifCond .eq 5, 3) := by decide +kernel
theorem dX7_firstNotSo_36 : decode cX7_firstNotSo 36 = .ok (.iload_n 2, 1) := by decide +kernel
theorem dX7_firstNotSo_37 : decode cX7_firstNotSo 37 = .ok (.ireturn, 1) := by decide +kernel
theorem dX7_firstNotSo_38 : decode cX7_firstNotSo 38 = .ok (.iinc 2 1, 3) := by decide +kernel
theorem dX7_firstNotSo_41 : decode cX7_firstNotSo 41 = .ok (.goto (-39), 3) := by decide +kernel
theorem dX7_firstNotSo_44 : decode cX7_firstNotSo 44 = .ok (.bipush (-9), 2) := by decide +kernel
theorem dX7_firstNotSo_46 : decode cX7_firstNotSo 46 = .ok (.ireturn, 1) := by decide +kernel
theorem dX7_drawTrial_0 : decode cX7_drawTrial 0 = .ok (.aload_n 0, 1) := by decide +kernel
theorem dX7_drawTrial_1 : decode cX7_drawTrial 1 = .ok (.getfield 19, 3) := by decide +kernel
theorem dX7_drawTrial_4 : decode cX7_drawTrial 4 = .ok (.aload_n 0, 1) := by decide +kernel
theorem dX7_drawTrial_5 : decode cX7_drawTrial 5 = .ok (.getfield 10, 3) := by decide +kernel
theorem dX7_drawTrial_8 : decode cX7_drawTrial 8 = .ok (.invokevirtual 216, 3) := by decide +kernel
theorem dX7_drawTrial_11 : decode cX7_drawTrial 11 = .ok (.iconst 0, 1) := by decide +kernel
theorem dX7_drawTrial_12 : decode cX7_drawTrial 12 = .ok (.istore_n 1, 1) := by decide +kernel
theorem dX7_drawTrial_13 : decode cX7_drawTrial 13 = .ok (.iload_n 1, 1) := by decide +kernel
theorem dX7_drawTrial_14 : decode cX7_drawTrial 14 = .ok (.iconst 4, 1) := by decide +kernel
theorem dX7_drawTrial_15 : decode cX7_drawTrial 15 = .ok (.if_icmp .ge 51, 3) := by decide +kernel
theorem dX7_drawTrial_18 : decode cX7_drawTrial 18 = .ok (.aload_n 0, 1) := by decide +kernel
theorem dX7_drawTrial_19 : decode cX7_drawTrial 19 = .ok (.getfield 46, 3) := by decide +kernel
theorem dX7_drawTrial_22 : decode cX7_drawTrial 22 = .ok (.bipush 6, 2) := by decide +kernel
theorem dX7_drawTrial_24 : decode cX7_drawTrial 24 = .ok (.invokevirtual 310, 3) := by decide +kernel
theorem dX7_drawTrial_27 : decode cX7_drawTrial 27 = .ok (.istore_n 2, 1) := by decide +kernel
theorem dX7_drawTrial_28 : decode cX7_drawTrial 28 = .ok (.aload_n 0, 1) := by decide +kernel
theorem dX7_drawTrial_29 : decode cX7_drawTrial 29 = .ok (.getfield 46, 3) := by decide +kernel
theorem dX7_drawTrial_32 : decode cX7_drawTrial 32 = .ok (.bipush 8, 2) := by decide +kernel
theorem dX7_drawTrial_34 : decode cX7_drawTrial 34 = .ok (.invokevirtual 310, 3) := by decide +kernel
theorem dX7_drawTrial_37 : decode cX7_drawTrial 37 = .ok (.istore_n 3, 1) := by decide +kernel
theorem dX7_drawTrial_38 : decode cX7_drawTrial 38 = .ok (.aload_n 0, 1) := by decide +kernel
theorem dX7_drawTrial_39 : decode cX7_drawTrial 39 = .ok (.getfield 46, 3) := by decide +kernel
theorem dX7_drawTrial_42 : decode cX7_drawTrial 42 = .ok (.bipush 100, 2) := by decide +kernel
theorem dX7_drawTrial_44 : decode cX7_drawTrial 44 = .ok (.invokevirtual 310, 3) := by decide +kernel
theorem dX7_drawTrial_47 : decode cX7_drawTrial 47 = .ok (.istore 4, 2) := by decide +kernel
theorem dX7_drawTrial_49 : decode cX7_drawTrial 49 = .ok (.aload_n 0, 1) := by decide +kernel
theorem dX7_drawTrial_50 : decode cX7_drawTrial 50 = .ok (.getfield 19, 3) := by decide +kernel
theorem dX7_drawTrial_53 : decode cX7_drawTrial 53 = .ok (.iload_n 2, 1) := by decide +kernel
theorem dX7_drawTrial_54 : decode cX7_drawTrial 54 = .ok (.iload_n 3, 1) := by decide +kernel
theorem dX7_drawTrial_55 : decode cX7_drawTrial 55 = .ok (.iload 4, 2) := by decide +kernel
theorem dX7_drawTrial_57 : decode cX7_drawTrial 57 = .ok (.invokevirtual 230, 3) := by decide +kernel
theorem dX7_drawTrial_60 : decode cX7_drawTrial 60 = .ok (.iinc 1 1, 3) := by decide +kernel
theorem dX7_drawTrial_63 : decode cX7_drawTrial 63 = .ok (.goto (-50), 3) := by decide +kernel
theorem dX7_drawTrial_66 : decode cX7_drawTrial 66 = .ok (.return_, 1) := by decide +kernel
theorem dX7_power_0 : decode cX7_power 0 = .ok (.lconst 1, 1) := by decide +kernel
theorem dX7_power_1 : decode cX7_power 1 = .ok (.lstore_n 3, 1) := by decide +kernel
theorem dX7_power_2 : decode cX7_power 2 = .ok (.iconst 0, 1) := by decide +kernel
theorem dX7_power_3 : decode cX7_power 3 = .ok (.istore 5, 2) := by decide +kernel
theorem dX7_power_5 : decode cX7_power 5 = .ok (.iload 5, 2) := by decide +kernel
theorem dX7_power_7 : decode cX7_power 7 = .ok (.iload_n 2, 1) := by decide +kernel
theorem dX7_power_8 : decode cX7_power 8 = .ok (.if_icmp .ge 13, 3) := by decide +kernel
theorem dX7_power_11 : decode cX7_power 11 = .ok (.lload_n 3, 1) := by decide +kernel
theorem dX7_power_12 : decode cX7_power 12 = .ok (.lload_n 0, 1) := by decide +kernel
theorem dX7_power_13 : decode cX7_power 13 = .ok (.lmul, 1) := by decide +kernel
theorem dX7_power_14 : decode cX7_power 14 = .ok (.lstore_n 3, 1) := by decide +kernel
theorem dX7_power_15 : decode cX7_power 15 = .ok (.iinc 5 1, 3) := by decide +kernel
theorem dX7_power_18 : decode cX7_power 18 = .ok (.goto (-13), 3) := by decide +kernel
theorem dX7_power_21 : decode cX7_power 21 = .ok (.lload_n 3, 1) := by decide +kernel
theorem dX7_power_22 : decode cX7_power 22 = .ok (.lreturn, 1) := by decide +kernel
theorem dX7_leastTerms_0 : decode cX7_leastTerms 0 = .ok (.lload_n 0, 1) := by decide +kernel
theorem dX7_leastTerms_1 : decode cX7_leastTerms 1 = .ok (.lload_n 2, 1) := by decide +kernel
theorem dX7_leastTerms_2 : decode cX7_leastTerms 2 = .ok (.invokestatic 313, 3) := by decide +kernel
theorem dX7_leastTerms_5 : decode cX7_leastTerms 5 = .ok (.lstore 5, 2) := by decide +kernel
theorem dX7_leastTerms_7 : decode cX7_leastTerms 7 = .ok (.lload 5, 2) := by decide +kernel
theorem dX7_leastTerms_9 : decode cX7_leastTerms 9 = .ok (.lconst 0, 1) := by decide +kernel
theorem dX7_leastTerms_10 : decode cX7_leastTerms 10 = .ok (.lcmp, 1) := by decide +kernel
theorem dX7_leastTerms_11 : decode cX7_leastTerms 11 = .ok (.ifCond .ne 7, 3) := by decide +kernel
theorem dX7_leastTerms_14 : decode cX7_leastTerms 14 = .ok (.iload 4, 2) := by decide +kernel
theorem dX7_leastTerms_16 : decode cX7_leastTerms 16 = .ok (.i2l, 1) := by decide +kernel
theorem dX7_leastTerms_17 : decode cX7_leastTerms 17 = .ok (.lreturn, 1) := by decide +kernel
theorem dX7_leastTerms_18 : decode cX7_leastTerms 18 = .ok (.iload 4, 2) := by decide +kernel
theorem dX7_leastTerms_20 : decode cX7_leastTerms 20 = .ok (.ifCond .ne 7, 3) := by decide +kernel
theorem dX7_leastTerms_23 : decode cX7_leastTerms 23 = .ok (.lload_n 0, 1) := by decide +kernel
theorem dX7_leastTerms_24 : decode cX7_leastTerms 24 = .ok (.goto 4, 3) := by decide +kernel
theorem dX7_leastTerms_27 : decode cX7_leastTerms 27 = .ok (.lload_n 2, 1) := by decide +kernel
theorem dX7_leastTerms_28 : decode cX7_leastTerms 28 = .ok (.lload 5, 2) := by decide +kernel
theorem dX7_leastTerms_30 : decode cX7_leastTerms 30 = .ok (.ldiv, 1) := by decide +kernel
theorem dX7_leastTerms_31 : decode cX7_leastTerms 31 = .ok (.lreturn, 1) := by decide +kernel
theorem dX7_commonDivisor_0 : decode cX7_commonDivisor 0 = .ok (.lload_n 0, 1) := by decide +kernel
theorem dX7_commonDivisor_1 : decode cX7_commonDivisor 1 = .ok (.lstore 4, 2) := by decide +kernel
theorem dX7_commonDivisor_3 : decode cX7_commonDivisor 3 = .ok (.lload_n 2, 1) := by decide +kernel
theorem dX7_commonDivisor_4 : decode cX7_commonDivisor 4 = .ok (.lstore 6, 2) := by decide +kernel
theorem dX7_commonDivisor_6 : decode cX7_commonDivisor 6 = .ok (.iconst 0, 1) := by decide +kernel
theorem dX7_commonDivisor_7 : decode cX7_commonDivisor 7 = .ok (.istore 8, 2) := by decide +kernel
theorem dX7_commonDivisor_9 : decode cX7_commonDivisor 9 = .ok (.iload 8, 2) := by decide +kernel
theorem dX7_commonDivisor_11 : decode cX7_commonDivisor 11 = .ok (.bipush 100, 2) := by decide +kernel
theorem dX7_commonDivisor_13 : decode cX7_commonDivisor 13 = .ok (.if_icmp .ge 31, 3) := by decide +kernel
theorem dX7_commonDivisor_16 : decode cX7_commonDivisor 16 = .ok (.lload 6, 2) := by decide +kernel
theorem dX7_commonDivisor_18 : decode cX7_commonDivisor 18 = .ok (.lconst 0, 1) := by decide +kernel
theorem dX7_commonDivisor_19 : decode cX7_commonDivisor 19 = .ok (.lcmp, 1) := by decide +kernel
theorem dX7_commonDivisor_20 : decode cX7_commonDivisor 20 = .ok (.ifCond .eq 24, 3) := by decide +kernel
theorem dX7_commonDivisor_23 : decode cX7_commonDivisor 23 = .ok (.lload 4, 2) := by decide +kernel
theorem dX7_commonDivisor_25 : decode cX7_commonDivisor 25 = .ok (.lload 6, 2) := by decide +kernel
theorem dX7_commonDivisor_27 : decode cX7_commonDivisor 27 = .ok (.lrem, 1) := by decide +kernel
theorem dX7_commonDivisor_28 : decode cX7_commonDivisor 28 = .ok (.lstore 9, 2) := by decide +kernel
theorem dX7_commonDivisor_30 : decode cX7_commonDivisor 30 = .ok (.lload 6, 2) := by decide +kernel
theorem dX7_commonDivisor_32 : decode cX7_commonDivisor 32 = .ok (.lstore 4, 2) := by decide +kernel
theorem dX7_commonDivisor_34 : decode cX7_commonDivisor 34 = .ok (.lload 9, 2) := by decide +kernel
theorem dX7_commonDivisor_36 : decode cX7_commonDivisor 36 = .ok (.lstore 6, 2) := by decide +kernel
theorem dX7_commonDivisor_38 : decode cX7_commonDivisor 38 = .ok (.iinc 8 1, 3) := by decide +kernel
theorem dX7_commonDivisor_41 : decode cX7_commonDivisor 41 = .ok (.goto (-32), 3) := by decide +kernel
theorem dX7_commonDivisor_44 : decode cX7_commonDivisor 44 = .ok (.lload 4, 2) := by decide +kernel
theorem dX7_commonDivisor_46 : decode cX7_commonDivisor 46 = .ok (.lreturn, 1) := by decide +kernel
theorem dX8_init_0 : decode cX8_init 0 = .ok (.aload_n 0, 1) := by decide +kernel
theorem dX8_init_1 : decode cX8_init 1 = .ok (.invokespecial 1, 3) := by decide +kernel
theorem dX8_init_4 : decode cX8_init 4 = .ok (.aload_n 0, 1) := by decide +kernel
theorem dX8_init_5 : decode cX8_init 5 = .ok (.sipush 640, 3) := by decide +kernel
theorem dX8_init_8 : decode cX8_init 8 = .ok (.newarray .int, 2) := by decide +kernel
theorem dX8_init_10 : decode cX8_init 10 = .ok (.putfield 9, 3) := by decide +kernel
theorem dX8_init_13 : decode cX8_init 13 = .ok (.aload_n 0, 1) := by decide +kernel
theorem dX8_init_14 : decode cX8_init 14 = .ok (.sipush 640, 3) := by decide +kernel
theorem dX8_init_17 : decode cX8_init 17 = .ok (.newarray .int, 2) := by decide +kernel
theorem dX8_init_19 : decode cX8_init 19 = .ok (.putfield 13, 3) := by decide +kernel
theorem dX8_init_22 : decode cX8_init 22 = .ok (.aload_n 0, 1) := by decide +kernel
theorem dX8_init_23 : decode cX8_init 23 = .ok (.sipush 640, 3) := by decide +kernel
theorem dX8_init_26 : decode cX8_init 26 = .ok (.newarray .int, 2) := by decide +kernel
theorem dX8_init_28 : decode cX8_init 28 = .ok (.putfield 16, 3) := by decide +kernel
theorem dX8_init_31 : decode cX8_init 31 = .ok (.aload_n 0, 1) := by decide +kernel
theorem dX8_init_32 : decode cX8_init 32 = .ok (.sipush 640, 3) := by decide +kernel
theorem dX8_init_35 : decode cX8_init 35 = .ok (.newarray .int, 2) := by decide +kernel
theorem dX8_init_37 : decode cX8_init 37 = .ok (.putfield 19, 3) := by decide +kernel
theorem dX8_init_40 : decode cX8_init 40 = .ok (.aload_n 0, 1) := by decide +kernel
theorem dX8_init_41 : decode cX8_init 41 = .ok (.bipush 8, 2) := by decide +kernel
theorem dX8_init_43 : decode cX8_init 43 = .ok (.newarray .int, 2) := by decide +kernel
theorem dX8_init_45 : decode cX8_init 45 = .ok (.putfield 22, 3) := by decide +kernel
theorem dX8_init_48 : decode cX8_init 48 = .ok (.aload_n 0, 1) := by decide +kernel
theorem dX8_init_49 : decode cX8_init 49 = .ok (.bipush 96, 2) := by decide +kernel
theorem dX8_init_51 : decode cX8_init 51 = .ok (.newarray .int, 2) := by decide +kernel
theorem dX8_init_53 : decode cX8_init 53 = .ok (.putfield 25, 3) := by decide +kernel
theorem dX8_init_56 : decode cX8_init 56 = .ok (.aload_n 0, 1) := by decide +kernel
theorem dX8_init_57 : decode cX8_init 57 = .ok (.bipush 8, 2) := by decide +kernel
theorem dX8_init_59 : decode cX8_init 59 = .ok (.newarray .int, 2) := by decide +kernel
theorem dX8_init_61 : decode cX8_init 61 = .ok (.putfield 28, 3) := by decide +kernel
theorem dX8_init_64 : decode cX8_init 64 = .ok (.aload_n 0, 1) := by decide +kernel
theorem dX8_init_65 : decode cX8_init 65 = .ok (.bipush 12, 2) := by decide +kernel
theorem dX8_init_67 : decode cX8_init 67 = .ok (.newarray .int, 2) := by decide +kernel
theorem dX8_init_69 : decode cX8_init 69 = .ok (.putfield 31, 3) := by decide +kernel
theorem dX8_init_72 : decode cX8_init 72 = .ok (.aload_n 0, 1) := by decide +kernel
theorem dX8_init_73 : decode cX8_init 73 = .ok (.bipush 12, 2) := by decide +kernel
theorem dX8_init_75 : decode cX8_init 75 = .ok (.newarray .int, 2) := by decide +kernel
theorem dX8_init_77 : decode cX8_init 77 = .ok (.putfield 34, 3) := by decide +kernel
theorem dX8_init_80 : decode cX8_init 80 = .ok (.aload_n 0, 1) := by decide +kernel
theorem dX8_init_81 : decode cX8_init 81 = .ok (.bipush 12, 2) := by decide +kernel
theorem dX8_init_83 : decode cX8_init 83 = .ok (.newarray .int, 2) := by decide +kernel
theorem dX8_init_85 : decode cX8_init 85 = .ok (.putfield 37, 3) := by decide +kernel
theorem dX8_init_88 : decode cX8_init 88 = .ok (.aload_n 0, 1) := by decide +kernel
theorem dX8_init_89 : decode cX8_init 89 = .ok (.bipush 12, 2) := by decide +kernel
theorem dX8_init_91 : decode cX8_init 91 = .ok (.newarray .int, 2) := by decide +kernel
theorem dX8_init_93 : decode cX8_init 93 = .ok (.putfield 40, 3) := by decide +kernel
theorem dX8_init_96 : decode cX8_init 96 = .ok (.aload_n 0, 1) := by decide +kernel
theorem dX8_init_97 : decode cX8_init 97 = .ok (.bipush 12, 2) := by decide +kernel
theorem dX8_init_99 : decode cX8_init 99 = .ok (.newarray .int, 2) := by decide +kernel
theorem dX8_init_101 : decode cX8_init 101 = .ok (.putfield 43, 3) := by decide +kernel
theorem dX8_init_104 : decode cX8_init 104 = .ok (.aload_n 0, 1) := by decide +kernel
theorem dX8_init_105 : decode cX8_init 105 = .ok (.bipush 120, 2) := by decide +kernel
theorem dX8_init_107 : decode cX8_init 107 = .ok (.newarray .int, 2) := by decide +kernel
theorem dX8_init_109 : decode cX8_init 109 = .ok (.putfield 46, 3) := by decide +kernel
theorem dX8_init_112 : decode cX8_init 112 = .ok (.aload_n 0, 1) := by decide +kernel
theorem dX8_init_113 : decode cX8_init 113 = .ok (.bipush 120, 2) := by decide +kernel
theorem dX8_init_115 : decode cX8_init 115 = .ok (.newarray .int, 2) := by decide +kernel
theorem dX8_init_117 : decode cX8_init 117 = .ok (.putfield 49, 3) := by decide +kernel
theorem dX8_init_120 : decode cX8_init 120 = .ok (.aload_n 0, 1) := by decide +kernel
theorem dX8_init_121 : decode cX8_init 121 = .ok (.bipush 120, 2) := by decide +kernel
theorem dX8_init_123 : decode cX8_init 123 = .ok (.newarray .int, 2) := by decide +kernel
theorem dX8_init_125 : decode cX8_init 125 = .ok (.putfield 52, 3) := by decide +kernel
theorem dX8_init_128 : decode cX8_init 128 = .ok (.aload_n 0, 1) := by decide +kernel
theorem dX8_init_129 : decode cX8_init 129 = .ok (.bipush 8, 2) := by decide +kernel
theorem dX8_init_131 : decode cX8_init 131 = .ok (.newarray .boolean, 2) := by decide +kernel
theorem dX8_init_133 : decode cX8_init 133 = .ok (.putfield 55, 3) := by decide +kernel
theorem dX8_init_136 : decode cX8_init 136 = .ok (.aload_n 0, 1) := by decide +kernel
theorem dX8_init_137 : decode cX8_init 137 = .ok (.bipush 80, 2) := by decide +kernel
theorem dX8_init_139 : decode cX8_init 139 = .ok (.newarray .int, 2) := by decide +kernel
theorem dX8_init_141 : decode cX8_init 141 = .ok (.putfield 59, 3) := by decide +kernel
theorem dX8_init_144 : decode cX8_init 144 = .ok (.aload_n 0, 1) := by decide +kernel
theorem dX8_init_145 : decode cX8_init 145 = .ok (.bipush 80, 2) := by decide +kernel
theorem dX8_init_147 : decode cX8_init 147 = .ok (.newarray .int, 2) := by decide +kernel
theorem dX8_init_149 : decode cX8_init 149 = .ok (.putfield 62, 3) := by decide +kernel
theorem dX8_init_152 : decode cX8_init 152 = .ok (.aload_n 0, 1) := by decide +kernel
theorem dX8_init_153 : decode cX8_init 153 = .ok (.sipush 880, 3) := by decide +kernel
theorem dX8_init_156 : decode cX8_init 156 = .ok (.newarray .int, 2) := by decide +kernel
theorem dX8_init_158 : decode cX8_init 158 = .ok (.putfield 65, 3) := by decide +kernel
theorem dX8_init_161 : decode cX8_init 161 = .ok (.iconst 0, 1) := by decide +kernel
theorem dX8_init_162 : decode cX8_init 162 = .ok (.istore_n 1, 1) := by decide +kernel
theorem dX8_init_163 : decode cX8_init 163 = .ok (.iload_n 1, 1) := by decide +kernel
theorem dX8_init_164 : decode cX8_init 164 = .ok (.bipush 48, 2) := by decide +kernel
theorem dX8_init_166 : decode cX8_init 166 = .ok (.if_icmp .ge 25, 3) := by decide +kernel
theorem dX8_init_169 : decode cX8_init 169 = .ok (.aload_n 0, 1) := by decide +kernel
theorem dX8_init_170 : decode cX8_init 170 = .ok (.getfield 9, 3) := by decide +kernel
theorem dX8_init_173 : decode cX8_init 173 = .ok (.bipush 30, 2) := by decide +kernel
theorem dX8_init_175 : decode cX8_init 175 = .ok (.bipush 12, 2) := by decide +kernel
theorem dX8_init_177 : decode cX8_init 177 = .ok (.iload_n 1, 1) := by decide +kernel
theorem dX8_init_178 : decode cX8_init 178 = .ok (.imul, 1) := by decide +kernel
theorem dX8_init_179 : decode cX8_init 179 = .ok (.iadd, 1) := by decide +kernel
theorem dX8_init_180 : decode cX8_init 180 = .ok (.iconst 0, 1) := by decide +kernel
theorem dX8_init_181 : decode cX8_init 181 = .ok (.iadd, 1) := by decide +kernel
theorem dX8_init_182 : decode cX8_init 182 = .ok (.bipush (-9), 2) := by decide +kernel
theorem dX8_init_184 : decode cX8_init 184 = .ok (.iastore, 1) := by decide +kernel
theorem dX8_init_185 : decode cX8_init 185 = .ok (.iinc 1 1, 3) := by decide +kernel
theorem dX8_init_188 : decode cX8_init 188 = .ok (.goto (-25), 3) := by decide +kernel
theorem dX8_init_191 : decode cX8_init 191 = .ok (.return_, 1) := by decide +kernel
theorem dX8_no_0 : decode cX8_no 0 = .ok (.aload_n 0, 1) := by decide +kernel
theorem dX8_no_1 : decode cX8_no 1 = .ok (.getfield 22, 3) := by decide +kernel
theorem dX8_no_4 : decode cX8_no 4 = .ok (.iload_n 1, 1) := by decide +kernel
theorem dX8_no_5 : decode cX8_no 5 = .ok (.ineg, 1) := by decide +kernel
theorem dX8_no_6 : decode cX8_no 6 = .ok (.dup2, 1) := by decide +kernel
theorem dX8_no_7 : decode cX8_no 7 = .ok (.iaload, 1) := by decide +kernel
theorem dX8_no_8 : decode cX8_no 8 = .ok (.iconst 1, 1) := by decide +kernel
theorem dX8_no_9 : decode cX8_no 9 = .ok (.iadd, 1) := by decide +kernel
theorem dX8_no_10 : decode cX8_no 10 = .ok (.iastore, 1) := by decide +kernel
theorem dX8_no_11 : decode cX8_no 11 = .ok (.iload_n 1, 1) := by decide +kernel
theorem dX8_no_12 : decode cX8_no 12 = .ok (.ireturn, 1) := by decide +kernel
theorem dX8_noLong_0 : decode cX8_noLong 0 = .ok (.ldc2_w 68, 3) := by decide +kernel
theorem dX8_noLong_3 : decode cX8_noLong 3 = .ok (.aload_n 0, 1) := by decide +kernel
theorem dX8_noLong_4 : decode cX8_noLong 4 = .ok (.iload_n 1, 1) := by decide +kernel
theorem dX8_noLong_5 : decode cX8_noLong 5 = .ok (.invokevirtual 70, 3) := by decide +kernel
theorem dX8_noLong_8 : decode cX8_noLong 8 = .ok (.i2l, 1) := by decide +kernel
theorem dX8_noLong_9 : decode cX8_noLong 9 = .ok (.lsub, 1) := by decide +kernel
theorem dX8_noLong_10 : decode cX8_noLong 10 = .ok (.lreturn, 1) := by decide +kernel
theorem dX8_isIn_0 : decode cX8_isIn 0 = .ok (.iload_n 0, 1) := by decide +kernel
theorem dX8_isIn_1 : decode cX8_isIn 1 = .ok (.iload_n 1, 1) := by decide +kernel
theorem dX8_isIn_2 : decode cX8_isIn 2 = .ok (.if_icmp .lt 12, 3) := by decide +kernel
theorem dX8_isIn_5 : decode cX8_isIn 5 = .ok (.iload_n 0, 1) := by decide +kernel
theorem dX8_isIn_6 : decode cX8_isIn 6 = .ok (.iload_n 2, 1) := by decide +kernel
theorem dX8_isIn_7 : decode cX8_isIn 7 = .ok (.if_icmp .gt 7, 3) := by decide +kernel
theorem dX8_isIn_10 : decode cX8_isIn 10 = .ok (.iconst 1, 1) := by decide +kernel
theorem dX8_isIn_11 : decode cX8_isIn 11 = .ok (.goto 4, 3) := by decide +kernel
theorem dX8_isIn_14 : decode cX8_isIn 14 = .ok (.iconst 0, 1) := by decide +kernel
theorem dX8_isIn_15 : decode cX8_isIn 15 = .ok (.ireturn, 1) := by decide +kernel
theorem dX8_isLayer_0 : decode cX8_isLayer 0 = .ok (.iload_n 0, 1) := by decide +kernel
theorem dX8_isLayer_1 : decode cX8_isLayer 1 = .ok (.iconst 0, 1) := by decide +kernel
theorem dX8_isLayer_2 : decode cX8_isLayer 2 = .ok (.iconst 5, 1) := by decide +kernel
theorem dX8_isLayer_3 : decode cX8_isLayer 3 = .ok (.invokestatic 74, 3) := by decide +kernel
theorem dX8_isLayer_6 : decode cX8_isLayer 6 = .ok (.ireturn, 1) := by decide +kernel
theorem dX8_isKey_0 : decode cX8_isKey 0 = .ok (.iload_n 0, 1) := by decide +kernel
theorem dX8_isKey_1 : decode cX8_isKey 1 = .ok (.iconst 0, 1) := by decide +kernel
theorem dX8_isKey_2 : decode cX8_isKey 2 = .ok (.bipush 7, 2) := by decide +kernel
theorem dX8_isKey_4 : decode cX8_isKey 4 = .ok (.invokestatic 74, 3) := by decide +kernel
theorem dX8_isKey_7 : decode cX8_isKey 7 = .ok (.ireturn, 1) := by decide +kernel
theorem dX8_copies_0 : decode cX8_copies 0 = .ok (.iconst 0, 1) := by decide +kernel
theorem dX8_copies_1 : decode cX8_copies 1 = .ok (.istore_n 2, 1) := by decide +kernel
theorem dX8_copies_2 : decode cX8_copies 2 = .ok (.iload_n 2, 1) := by decide +kernel
theorem dX8_copies_3 : decode cX8_copies 3 = .ok (.sipush 640, 3) := by decide +kernel
theorem dX8_copies_6 : decode cX8_copies 6 = .ok (.if_icmp .ge 15, 3) := by decide +kernel
theorem dX8_copies_9 : decode cX8_copies 9 = .ok (.aload_n 1, 1) := by decide +kernel
theorem dX8_copies_10 : decode cX8_copies 10 = .ok (.iload_n 2, 1) := by decide +kernel
theorem dX8_copies_11 : decode cX8_copies 11 = .ok (.aload_n 0, 1) := by decide +kernel
theorem dX8_copies_12 : decode cX8_copies 12 = .ok (.iload_n 2, 1) := by decide +kernel
theorem dX8_copies_13 : decode cX8_copies 13 = .ok (.iaload, 1) := by decide +kernel
theorem dX8_copies_14 : decode cX8_copies 14 = .ok (.iastore, 1) := by decide +kernel
theorem dX8_copies_15 : decode cX8_copies 15 = .ok (.iinc 2 1, 3) := by decide +kernel
theorem dX8_copies_18 : decode cX8_copies 18 = .ok (.goto (-16), 3) := by decide +kernel
theorem dX8_copies_21 : decode cX8_copies 21 = .ok (.return_, 1) := by decide +kernel
theorem dX8_entryAt_0 : decode cX8_entryAt 0 = .ok (.bipush 30, 2) := by decide +kernel
theorem dX8_entryAt_2 : decode cX8_entryAt 2 = .ok (.bipush 12, 2) := by decide +kernel
theorem dX8_entryAt_4 : decode cX8_entryAt 4 = .ok (.bipush 8, 2) := by decide +kernel
theorem dX8_entryAt_6 : decode cX8_entryAt 6 = .ok (.iload_n 0, 1) := by decide +kernel
theorem dX8_entryAt_7 : decode cX8_entryAt 7 = .ok (.imul, 1) := by decide +kernel
theorem dX8_entryAt_8 : decode cX8_entryAt 8 = .ok (.iload_n 1, 1) := by decide +kernel
theorem dX8_entryAt_9 : decode cX8_entryAt 9 = .ok (.iadd, 1) := by decide +kernel
theorem dX8_entryAt_10 : decode cX8_entryAt 10 = .ok (.imul, 1) := by decide +kernel
theorem dX8_entryAt_11 : decode cX8_entryAt 11 = .ok (.iadd, 1) := by decide +kernel
theorem dX8_entryAt_12 : decode cX8_entryAt 12 = .ok (.ireturn, 1) := by decide +kernel
theorem dX8_has_0 : decode cX8_has 0 = .ok (.aload_n 0, 1) := by decide +kernel
theorem dX8_has_1 : decode cX8_has 1 = .ok (.getfield 9, 3) := by decide +kernel
theorem dX8_has_4 : decode cX8_has 4 = .ok (.iload_n 1, 1) := by decide +kernel
theorem dX8_has_5 : decode cX8_has 5 = .ok (.iload_n 2, 1) := by decide +kernel
theorem dX8_has_6 : decode cX8_has 6 = .ok (.invokestatic 78, 3) := by decide +kernel
theorem dX8_has_9 : decode cX8_has 9 = .ok (.iconst 0, 1) := by decide +kernel
theorem dX8_has_10 : decode cX8_has 10 = .ok (.iadd, 1) := by decide +kernel
theorem dX8_has_11 : decode cX8_has 11 = .ok (.iaload, 1) := by decide +kernel
theorem dX8_has_12 : decode cX8_has 12 = .ok (.bipush (-9), 2) := by decide +kernel
theorem dX8_has_14 : decode cX8_has 14 = .ok (.if_icmp .eq 7, 3) := by decide +kernel
theorem dX8_has_17 : decode cX8_has 17 = .ok (.iconst 1, 1) := by decide +kernel
theorem dX8_has_18 : decode cX8_has 18 = .ok (.goto 4, 3) := by decide +kernel
theorem dX8_has_21 : decode cX8_has 21 = .ok (.iconst 0, 1) := by decide +kernel
theorem dX8_has_22 : decode cX8_has 22 = .ok (.ireturn, 1) := by decide +kernel
theorem dX8_rank_0 : decode cX8_rank 0 = .ok (.aload_n 0, 1) := by decide +kernel
theorem dX8_rank_1 : decode cX8_rank 1 = .ok (.getfield 9, 3) := by decide +kernel
theorem dX8_rank_4 : decode cX8_rank 4 = .ok (.iconst 3, 1) := by decide +kernel
theorem dX8_rank_5 : decode cX8_rank 5 = .ok (.iload_n 1, 1) := by decide +kernel
theorem dX8_rank_6 : decode cX8_rank 6 = .ok (.imul, 1) := by decide +kernel
theorem dX8_rank_7 : decode cX8_rank 7 = .ok (.iconst 1, 1) := by decide +kernel
theorem dX8_rank_8 : decode cX8_rank 8 = .ok (.iadd, 1) := by decide +kernel
theorem dX8_rank_9 : decode cX8_rank 9 = .ok (.iaload, 1) := by decide +kernel
theorem dX8_rank_10 : decode cX8_rank 10 = .ok (.istore_n 2, 1) := by decide +kernel
theorem dX8_rank_11 : decode cX8_rank 11 = .ok (.aload_n 0, 1) := by decide +kernel
theorem dX8_rank_12 : decode cX8_rank 12 = .ok (.getfield 9, 3) := by decide +kernel
theorem dX8_rank_15 : decode cX8_rank 15 = .ok (.iconst 3, 1) := by decide +kernel
theorem dX8_rank_16 : decode cX8_rank 16 = .ok (.iload_n 1, 1) := by decide +kernel
theorem dX8_rank_17 : decode cX8_rank 17 = .ok (.imul, 1) := by decide +kernel
theorem dX8_rank_18 : decode cX8_rank 18 = .ok (.iconst 2, 1) := by decide +kernel
theorem dX8_rank_19 : decode cX8_rank 19 = .ok (.iadd, 1) := by decide +kernel
theorem dX8_rank_20 : decode cX8_rank 20 = .ok (.iaload, 1) := by decide +kernel
theorem dX8_rank_21 : decode cX8_rank 21 = .ok (.istore_n 3, 1) := by decide +kernel
theorem dX8_rank_22 : decode cX8_rank 22 = .ok (.iload_n 1, 1) := by decide +kernel
theorem dX8_rank_23 : decode cX8_rank 23 = .ok (.iload_n 2, 1) := by decide +kernel
theorem dX8_rank_24 : decode cX8_rank 24 = .ok (.iconst 1, 1) := by decide +kernel
theorem dX8_rank_25 : decode cX8_rank 25 = .ok (.if_icmp .ne 8, 3) := by decide +kernel
theorem dX8_rank_28 : decode cX8_rank 28 = .ok (.bipush 10, 2) := by decide +kernel
theorem dX8_rank_30 : decode cX8_rank 30 = .ok (.goto 41, 3) := by decide +kernel
theorem dX8_rank_33 : decode cX8_rank 33 = .ok (.iload_n 2, 1) := by decide +kernel
theorem dX8_rank_34 : decode cX8_rank 34 = .ok (.iconst 2, 1) := by decide +kernel
theorem dX8_rank_35 : decode cX8_rank 35 = .ok (.if_icmp .eq 8, 3) := by decide +kernel
theorem dX8_rank_38 : decode cX8_rank 38 = .ok (.iload_n 2, 1) := by decide +kernel
theorem dX8_rank_39 : decode cX8_rank 39 = .ok (.iconst 5, 1) := by decide +kernel
theorem dX8_rank_40 : decode cX8_rank 40 = .ok (.if_icmp .ne 10, 3) := by decide +kernel
theorem dX8_rank_43 : decode cX8_rank 43 = .ok (.bipush 10, 2) := by decide +kernel
theorem dX8_rank_45 : decode cX8_rank 45 = .ok (.iload_n 3, 1) := by decide +kernel
theorem dX8_rank_46 : decode cX8_rank 46 = .ok (.iadd, 1) := by decide +kernel
theorem dX8_rank_47 : decode cX8_rank 47 = .ok (.goto 24, 3) := by decide +kernel
theorem dX8_rank_50 : decode cX8_rank 50 = .ok (.iload_n 2, 1) := by decide +kernel
theorem dX8_rank_51 : decode cX8_rank 51 = .ok (.iconst 3, 1) := by decide +kernel
theorem dX8_rank_52 : decode cX8_rank 52 = .ok (.if_icmp .ne 8, 3) := by decide +kernel
theorem dX8_rank_55 : decode cX8_rank 55 = .ok (.bipush 110, 2) := by decide +kernel
theorem dX8_rank_57 : decode cX8_rank 57 = .ok (.goto 14, 3) := by decide +kernel
theorem dX8_rank_60 : decode cX8_rank 60 = .ok (.iload_n 2, 1) := by decide +kernel
theorem dX8_rank_61 : decode cX8_rank 61 = .ok (.iconst 4, 1) := by decide +kernel
theorem dX8_rank_62 : decode cX8_rank 62 = .ok (.if_icmp .ne 8, 3) := by decide +kernel
theorem dX8_rank_65 : decode cX8_rank 65 = .ok (.bipush (-20), 2) := by decide +kernel
theorem dX8_rank_67 : decode cX8_rank 67 = .ok (.goto 4, 3) := by decide +kernel
theorem dX8_rank_70 : decode cX8_rank 70 = .ok (.iconst 0, 1) := by decide +kernel
theorem dX8_rank_71 : decode cX8_rank 71 = .ok (.iadd, 1) := by decide +kernel
theorem dX8_rank_72 : decode cX8_rank 72 = .ok (.ireturn, 1) := by decide +kernel
theorem dX8_isBehind_0 : decode cX8_isBehind 0 = .ok (.aload_n 0, 1) := by decide +kernel
theorem dX8_isBehind_1 : decode cX8_isBehind 1 = .ok (.iload_n 1, 1) := by decide +kernel
theorem dX8_isBehind_2 : decode cX8_isBehind 2 = .ok (.invokevirtual 82, 3) := by decide +kernel
theorem dX8_isBehind_5 : decode cX8_isBehind 5 = .ok (.aload_n 0, 1) := by decide +kernel
theorem dX8_isBehind_6 : decode cX8_isBehind 6 = .ok (.iload_n 2, 1) := by decide +kernel
theorem dX8_isBehind_7 : decode cX8_isBehind 7 = .ok (.invokevirtual 82, 3) := by decide +kernel
theorem dX8_isBehind_10 : decode cX8_isBehind 10 = .ok (.if_icmp .gt 21, 3) := by decide +kernel
theorem dX8_isBehind_13 : decode cX8_isBehind 13 = .ok (.aload_n 0, 1) := by decide +kernel
theorem dX8_isBehind_14 : decode cX8_isBehind 14 = .ok (.iload_n 1, 1) := by decide +kernel
theorem dX8_isBehind_15 : decode cX8_isBehind 15 = .ok (.invokevirtual 82, 3) := by decide +kernel
theorem dX8_isBehind_18 : decode cX8_isBehind 18 = .ok (.aload_n 0, 1) := by decide +kernel
theorem dX8_isBehind_19 : decode cX8_isBehind 19 = .ok (.iload_n 2, 1) := by decide +kernel
theorem dX8_isBehind_20 : decode cX8_isBehind 20 = .ok (.invokevirtual 82, 3) := by decide +kernel
theorem dX8_isBehind_23 : decode cX8_isBehind 23 = .ok (.if_icmp .ne 12, 3) := by decide +kernel
theorem dX8_isBehind_26 : decode cX8_isBehind 26 = .ok (.iload_n 1, 1) := by decide +kernel
theorem dX8_isBehind_27 : decode cX8_isBehind 27 = .ok (.iload_n 2, 1) := by decide +kernel
theorem dX8_isBehind_28 : decode cX8_isBehind 28 = .ok (.if_icmp .le 7, 3) := by decide +kernel
theorem dX8_isBehind_31 : decode cX8_isBehind 31 = .ok (.iconst 1, 1) := by decide +kernel
theorem dX8_isBehind_32 : decode cX8_isBehind 32 = .ok (.goto 4, 3) := by decide +kernel
theorem dX8_isBehind_35 : decode cX8_isBehind 35 = .ok (.iconst 0, 1) := by decide +kernel
theorem dX8_isBehind_36 : decode cX8_isBehind 36 = .ok (.ireturn, 1) := by decide +kernel
theorem dX8_counts_0 : decode cX8_counts 0 = .ok (.aload_n 0, 1) := by decide +kernel
theorem dX8_counts_1 : decode cX8_counts 1 = .ok (.getfield 9, 3) := by decide +kernel
theorem dX8_counts_4 : decode cX8_counts 4 = .ok (.iconst 3, 1) := by decide +kernel
theorem dX8_counts_5 : decode cX8_counts 5 = .ok (.iload_n 1, 1) := by decide +kernel
theorem dX8_counts_6 : decode cX8_counts 6 = .ok (.imul, 1) := by decide +kernel
theorem dX8_counts_7 : decode cX8_counts 7 = .ok (.iconst 1, 1) := by decide +kernel
theorem dX8_counts_8 : decode cX8_counts 8 = .ok (.iadd, 1) := by decide +kernel
theorem dX8_counts_9 : decode cX8_counts 9 = .ok (.iaload, 1) := by decide +kernel
theorem dX8_counts_10 : decode cX8_counts 10 = .ok (.istore_n 3, 1) := by decide +kernel
theorem dX8_counts_11 : decode cX8_counts 11 = .ok (.iload_n 3, 1) := by decide +kernel
theorem dX8_counts_12 : decode cX8_counts 12 = .ok (.iconst 5, 1) := by decide +kernel
theorem dX8_counts_13 : decode cX8_counts 13 = .ok (.if_icmp .ne 23, 3) := by decide +kernel
theorem dX8_counts_16 : decode cX8_counts 16 = .ok (.iload_n 2, 1) := by decide +kernel
theorem dX8_counts_17 : decode cX8_counts 17 = .ok (.aload_n 0, 1) := by decide +kernel
theorem dX8_counts_18 : decode cX8_counts 18 = .ok (.getfield 9, 3) := by decide +kernel
theorem dX8_counts_21 : decode cX8_counts 21 = .ok (.iconst 3, 1) := by decide +kernel
theorem dX8_counts_22 : decode cX8_counts 22 = .ok (.iload_n 1, 1) := by decide +kernel
theorem dX8_counts_23 : decode cX8_counts 23 = .ok (.imul, 1) := by decide +kernel
theorem dX8_counts_24 : decode cX8_counts 24 = .ok (.iconst 2, 1) := by decide +kernel
theorem dX8_counts_25 : decode cX8_counts 25 = .ok (.iadd, 1) := by decide +kernel
theorem dX8_counts_26 : decode cX8_counts 26 = .ok (.iaload, 1) := by decide +kernel
theorem dX8_counts_27 : decode cX8_counts 27 = .ok (.if_icmp .gt 7, 3) := by decide +kernel
theorem dX8_counts_30 : decode cX8_counts 30 = .ok (.iconst 1, 1) := by decide +kernel
theorem dX8_counts_31 : decode cX8_counts 31 = .ok (.goto 4, 3) := by decide +kernel
theorem dX8_counts_34 : decode cX8_counts 34 = .ok (.iconst 0, 1) := by decide +kernel
theorem dX8_counts_35 : decode cX8_counts 35 = .ok (.ireturn, 1) := by decide +kernel
theorem dX8_counts_36 : decode cX8_counts 36 = .ok (.iload_n 3, 1) := by decide +kernel
theorem dX8_counts_37 : decode cX8_counts 37 = .ok (.iconst 4, 1) := by decide +kernel
theorem dX8_counts_38 : decode cX8_counts 38 = .ok (.if_icmp .eq 5, 3) := by decide +kernel
theorem dX8_counts_41 : decode cX8_counts 41 = .ok (.iconst 1, 1) := by decide +kernel
theorem dX8_counts_42 : decode cX8_counts 42 = .ok (.ireturn, 1) := by decide +kernel
theorem dX8_counts_43 : decode cX8_counts 43 = .ok (.iconst 0, 1) := by decide +kernel
theorem dX8_counts_44 : decode cX8_counts 44 = .ok (.istore 4, 2) := by decide +kernel
theorem dX8_counts_46 : decode cX8_counts 46 = .ok (.iload 4, 2) := by decide +kernel
theorem dX8_counts_48 : decode cX8_counts 48 = .ok (.bipush 6, 2) := by decide +kernel
theorem dX8_counts_50 : decode cX8_counts 50 = .ok (.if_icmp .ge 89, 3) := by decide +kernel
theorem dX8_counts_53 : decode cX8_counts 53 = .ok (.aload_n 0, 1) := by decide +kernel
theorem dX8_counts_54 : decode cX8_counts 54 = .ok (.iload 4, 2) := by decide +kernel
theorem dX8_counts_56 : decode cX8_counts 56 = .ok (.invokevirtual 82, 3) := by decide +kernel
theorem dX8_counts_59 : decode cX8_counts 59 = .ok (.aload_n 0, 1) := by decide +kernel
theorem dX8_counts_60 : decode cX8_counts 60 = .ok (.iload_n 1, 1) := by decide +kernel
theorem dX8_counts_61 : decode cX8_counts 61 = .ok (.invokevirtual 82, 3) := by decide +kernel
theorem dX8_counts_64 : decode cX8_counts 64 = .ok (.if_icmp .le 49, 3) := by decide +kernel
theorem dX8_counts_67 : decode cX8_counts 67 = .ok (.aload_n 0, 1) := by decide +kernel
theorem dX8_counts_68 : decode cX8_counts 68 = .ok (.getfield 9, 3) := by decide +kernel
theorem dX8_counts_71 : decode cX8_counts 71 = .ok (.iconst 3, 1) := by decide +kernel
theorem dX8_counts_72 : decode cX8_counts 72 = .ok (.iload 4, 2) := by decide +kernel
theorem dX8_counts_74 : decode cX8_counts 74 = .ok (.imul, 1) := by decide +kernel
theorem dX8_counts_75 : decode cX8_counts 75 = .ok (.iconst 0, 1) := by decide +kernel
theorem dX8_counts_76 : decode cX8_counts 76 = .ok (.iadd, 1) := by decide +kernel
theorem dX8_counts_77 : decode cX8_counts 77 = .ok (.iaload, 1) := by decide +kernel
theorem dX8_counts_78 : decode cX8_counts 78 = .ok (.iconst 1, 1) := by decide +kernel
theorem dX8_counts_79 : decode cX8_counts 79 = .ok (.if_icmp .ne 34, 3) := by decide +kernel
theorem dX8_counts_82 : decode cX8_counts 82 = .ok (.aload_n 0, 1) := by decide +kernel
theorem dX8_counts_83 : decode cX8_counts 83 = .ok (.iload 4, 2) := by decide +kernel
theorem dX8_counts_85 : decode cX8_counts 85 = .ok (.iload_n 2, 1) := by decide +kernel
theorem dX8_counts_86 : decode cX8_counts 86 = .ok (.invokevirtual 85, 3) := by decide +kernel
theorem dX8_counts_89 : decode cX8_counts 89 = .ok (.ifCond .eq 24, 3) := by decide +kernel
theorem dX8_counts_92 : decode cX8_counts 92 = .ok (.aload_n 0, 1) := by decide +kernel
theorem dX8_counts_93 : decode cX8_counts 93 = .ok (.getfield 9, 3) := by decide +kernel
theorem dX8_counts_96 : decode cX8_counts 96 = .ok (.iload 4, 2) := by decide +kernel
theorem dX8_counts_98 : decode cX8_counts 98 = .ok (.iload_n 2, 1) := by decide +kernel
theorem dX8_counts_99 : decode cX8_counts 99 = .ok (.invokestatic 78, 3) := by decide +kernel
theorem dX8_counts_102 : decode cX8_counts 102 = .ok (.iconst 0, 1) := by decide +kernel
theorem dX8_counts_103 : decode cX8_counts 103 = .ok (.iadd, 1) := by decide +kernel
theorem dX8_counts_104 : decode cX8_counts 104 = .ok (.iaload, 1) := by decide +kernel
theorem dX8_counts_105 : decode cX8_counts 105 = .ok (.iconst 4, 1) := by decide +kernel
theorem dX8_counts_106 : decode cX8_counts 106 = .ok (.if_icmp .eq 7, 3) := by decide +kernel
theorem dX8_counts_109 : decode cX8_counts 109 = .ok (.iconst 1, 1) := by decide +kernel
theorem dX8_counts_110 : decode cX8_counts 110 = .ok (.goto 4, 3) := by decide +kernel
theorem dX8_counts_113 : decode cX8_counts 113 = .ok (.iconst 0, 1) := by decide +kernel
theorem dX8_counts_114 : decode cX8_counts 114 = .ok (.istore 5, 2) := by decide +kernel
theorem dX8_counts_116 : decode cX8_counts 116 = .ok (.iload 5, 2) := by decide +kernel
theorem dX8_counts_118 : decode cX8_counts 118 = .ok (.ifCond .eq 15, 3) := by decide +kernel
theorem dX8_counts_121 : decode cX8_counts 121 = .ok (.aload_n 0, 1) := by decide +kernel
theorem dX8_counts_122 : decode cX8_counts 122 = .ok (.iload 4, 2) := by decide +kernel
theorem dX8_counts_124 : decode cX8_counts 124 = .ok (.iload_n 2, 1) := by decide +kernel
theorem dX8_counts_125 : decode cX8_counts 125 = .ok (.invokevirtual 89, 3) := by decide +kernel
theorem dX8_counts_128 : decode cX8_counts 128 = .ok (.ifCond .eq 5, 3) := by decide +kernel
theorem dX8_counts_131 : decode cX8_counts 131 = .ok (.iconst 0, 1) := by decide +kernel
theorem dX8_counts_132 : decode cX8_counts 132 = .ok (.ireturn, 1) := by decide +kernel
theorem dX8_counts_133 : decode cX8_counts 133 = .ok (.iinc 4 1, 3) := by decide +kernel
theorem dX8_counts_136 : decode cX8_counts 136 = .ok (.goto (-90), 3) := by decide +kernel
theorem dX8_counts_139 : decode cX8_counts 139 = .ok (.iconst 1, 1) := by decide +kernel
theorem dX8_counts_140 : decode cX8_counts 140 = .ok (.ireturn, 1) := by decide +kernel
theorem dX8_ordered_0 : decode cX8_ordered 0 = .ok (.iconst 0, 1) := by decide +kernel
theorem dX8_ordered_1 : decode cX8_ordered 1 = .ok (.istore_n 2, 1) := by decide +kernel
theorem dX8_ordered_2 : decode cX8_ordered 2 = .ok (.iload_n 2, 1) := by decide +kernel
theorem dX8_ordered_3 : decode cX8_ordered 3 = .ok (.bipush 6, 2) := by decide +kernel
theorem dX8_ordered_5 : decode cX8_ordered 5 = .ok (.if_icmp .ge 52, 3) := by decide +kernel
theorem dX8_ordered_8 : decode cX8_ordered 8 = .ok (.iconst 0, 1) := by decide +kernel
theorem dX8_ordered_9 : decode cX8_ordered 9 = .ok (.istore_n 3, 1) := by decide +kernel
theorem dX8_ordered_10 : decode cX8_ordered 10 = .ok (.iconst 0, 1) := by decide +kernel
theorem dX8_ordered_11 : decode cX8_ordered 11 = .ok (.istore 4, 2) := by decide +kernel
theorem dX8_ordered_13 : decode cX8_ordered 13 = .ok (.iload 4, 2) := by decide +kernel
theorem dX8_ordered_15 : decode cX8_ordered 15 = .ok (.bipush 6, 2) := by decide +kernel
theorem dX8_ordered_17 : decode cX8_ordered 17 = .ok (.if_icmp .ge 27, 3) := by decide +kernel
theorem dX8_ordered_20 : decode cX8_ordered 20 = .ok (.iload_n 3, 1) := by decide +kernel
theorem dX8_ordered_21 : decode cX8_ordered 21 = .ok (.aload_n 0, 1) := by decide +kernel
theorem dX8_ordered_22 : decode cX8_ordered 22 = .ok (.iload_n 2, 1) := by decide +kernel
theorem dX8_ordered_23 : decode cX8_ordered 23 = .ok (.iload 4, 2) := by decide +kernel
theorem dX8_ordered_25 : decode cX8_ordered 25 = .ok (.invokevirtual 92, 3) := by decide +kernel
theorem dX8_ordered_28 : decode cX8_ordered 28 = .ok (.ifCond .eq 7, 3) := by decide +kernel
theorem dX8_ordered_31 : decode cX8_ordered 31 = .ok (.iconst 1, 1) := by decide +kernel
theorem dX8_ordered_32 : decode cX8_ordered 32 = .ok (.goto 4, 3) := by decide +kernel
theorem dX8_ordered_35 : decode cX8_ordered 35 = .ok (.iconst 0, 1) := by decide +kernel
theorem dX8_ordered_36 : decode cX8_ordered 36 = .ok (.iadd, 1) := by decide +kernel
theorem dX8_ordered_37 : decode cX8_ordered 37 = .ok (.istore_n 3, 1) := by decide +kernel
theorem dX8_ordered_38 : decode cX8_ordered 38 = .ok (.iinc 4 1, 3) := by decide +kernel
theorem dX8_ordered_41 : decode cX8_ordered 41 = .ok (.goto (-28), 3) := by decide +kernel
theorem dX8_ordered_44 : decode cX8_ordered 44 = .ok (.iload_n 3, 1) := by decide +kernel
theorem dX8_ordered_45 : decode cX8_ordered 45 = .ok (.iload_n 1, 1) := by decide +kernel
theorem dX8_ordered_46 : decode cX8_ordered 46 = .ok (.if_icmp .ne 5, 3) := by decide +kernel
theorem dX8_ordered_49 : decode cX8_ordered 49 = .ok (.iload_n 2, 1) := by decide +kernel
theorem dX8_ordered_50 : decode cX8_ordered 50 = .ok (.ireturn, 1) := by decide +kernel
theorem dX8_ordered_51 : decode cX8_ordered 51 = .ok (.iinc 2 1, 3) := by decide +kernel
theorem dX8_ordered_54 : decode cX8_ordered 54 = .ok (.goto (-52), 3) := by decide +kernel
theorem dX8_ordered_57 : decode cX8_ordered 57 = .ok (.bipush (-9), 2) := by decide +kernel
theorem dX8_ordered_59 : decode cX8_ordered 59 = .ok (.ireturn, 1) := by decide +kernel
theorem dX8_offers_0 : decode cX8_offers 0 = .ok (.iconst 0, 1) := by decide +kernel
theorem dX8_offers_1 : decode cX8_offers 1 = .ok (.istore_n 2, 1) := by decide +kernel
theorem dX8_offers_2 : decode cX8_offers 2 = .ok (.iconst 0, 1) := by decide +kernel
theorem dX8_offers_3 : decode cX8_offers 3 = .ok (.istore_n 3, 1) := by decide +kernel
theorem dX8_offers_4 : decode cX8_offers 4 = .ok (.iload_n 3, 1) := by decide +kernel
theorem dX8_offers_5 : decode cX8_offers 5 = .ok (.bipush 6, 2) := by decide +kernel
theorem dX8_offers_7 : decode cX8_offers 7 = .ok (.if_icmp .ge 81, 3) := by decide +kernel
theorem dX8_offers_10 : decode cX8_offers 10 = .ok (.aload_n 0, 1) := by decide +kernel
theorem dX8_offers_11 : decode cX8_offers 11 = .ok (.iload_n 3, 1) := by decide +kernel
theorem dX8_offers_12 : decode cX8_offers 12 = .ok (.invokevirtual 95, 3) := by decide +kernel
theorem dX8_offers_15 : decode cX8_offers 15 = .ok (.istore 4, 2) := by decide +kernel
theorem dX8_offers_17 : decode cX8_offers 17 = .ok (.aload_n 0, 1) := by decide +kernel
theorem dX8_offers_18 : decode cX8_offers 18 = .ok (.getfield 9, 3) := by decide +kernel
theorem dX8_offers_21 : decode cX8_offers 21 = .ok (.iconst 3, 1) := by decide +kernel
theorem dX8_offers_22 : decode cX8_offers 22 = .ok (.iload 4, 2) := by decide +kernel
theorem dX8_offers_24 : decode cX8_offers 24 = .ok (.imul, 1) := by decide +kernel
theorem dX8_offers_25 : decode cX8_offers 25 = .ok (.iconst 0, 1) := by decide +kernel
theorem dX8_offers_26 : decode cX8_offers 26 = .ok (.iadd, 1) := by decide +kernel
theorem dX8_offers_27 : decode cX8_offers 27 = .ok (.iaload, 1) := by decide +kernel
theorem dX8_offers_28 : decode cX8_offers 28 = .ok (.ifCond .eq 54, 3) := by decide +kernel
theorem dX8_offers_31 : decode cX8_offers 31 = .ok (.aload_n 0, 1) := by decide +kernel
theorem dX8_offers_32 : decode cX8_offers 32 = .ok (.iload 4, 2) := by decide +kernel
theorem dX8_offers_34 : decode cX8_offers 34 = .ok (.iload_n 1, 1) := by decide +kernel
theorem dX8_offers_35 : decode cX8_offers 35 = .ok (.invokevirtual 85, 3) := by decide +kernel
theorem dX8_offers_38 : decode cX8_offers 38 = .ok (.ifCond .eq 44, 3) := by decide +kernel
theorem dX8_offers_41 : decode cX8_offers 41 = .ok (.aload_n 0, 1) := by decide +kernel
theorem dX8_offers_42 : decode cX8_offers 42 = .ok (.iload 4, 2) := by decide +kernel
theorem dX8_offers_44 : decode cX8_offers 44 = .ok (.iload_n 1, 1) := by decide +kernel
theorem dX8_offers_45 : decode cX8_offers 45 = .ok (.invokevirtual 89, 3) := by decide +kernel
theorem dX8_offers_48 : decode cX8_offers 48 = .ok (.ifCond .ne 6, 3) := by decide +kernel
theorem dX8_offers_51 : decode cX8_offers 51 = .ok (.goto 31, 3) := by decide +kernel
theorem dX8_offers_54 : decode cX8_offers 54 = .ok (.aload_n 0, 1) := by decide +kernel
theorem dX8_offers_55 : decode cX8_offers 55 = .ok (.getfield 9, 3) := by decide +kernel
theorem dX8_offers_58 : decode cX8_offers 58 = .ok (.iload 4, 2) := by decide +kernel
theorem dX8_offers_60 : decode cX8_offers 60 = .ok (.iload_n 1, 1) := by decide +kernel
theorem dX8_offers_61 : decode cX8_offers 61 = .ok (.invokestatic 78, 3) := by decide +kernel
theorem dX8_offers_64 : decode cX8_offers 64 = .ok (.iconst 0, 1) := by decide +kernel
theorem dX8_offers_65 : decode cX8_offers 65 = .ok (.iadd, 1) := by decide +kernel
theorem dX8_offers_66 : decode cX8_offers 66 = .ok (.iaload, 1) := by decide +kernel
theorem dX8_offers_67 : decode cX8_offers 67 = .ok (.iconst 4, 1) := by decide +kernel
theorem dX8_offers_68 : decode cX8_offers 68 = .ok (.if_icmp .ne 7, 3) := by decide +kernel
theorem dX8_offers_71 : decode cX8_offers 71 = .ok (.iconst 0, 1) := by decide +kernel
theorem dX8_offers_72 : decode cX8_offers 72 = .ok (.goto 9, 3) := by decide +kernel
theorem dX8_offers_75 : decode cX8_offers 75 = .ok (.iload_n 2, 1) := by decide +kernel
theorem dX8_offers_76 : decode cX8_offers 76 = .ok (.iconst 1, 1) := by decide +kernel
theorem dX8_offers_77 : decode cX8_offers 77 = .ok (.iload 4, 2) := by decide +kernel
theorem dX8_offers_79 : decode cX8_offers 79 = .ok (.ishl, 1) := by decide +kernel
theorem dX8_offers_80 : decode cX8_offers 80 = .ok (.ior, 1) := by decide +kernel
theorem dX8_offers_81 : decode cX8_offers 81 = .ok (.istore_n 2, 1) := by decide +kernel
theorem dX8_offers_82 : decode cX8_offers 82 = .ok (.iinc 3 1, 3) := by decide +kernel
theorem dX8_offers_85 : decode cX8_offers 85 = .ok (.goto (-81), 3) := by decide +kernel
theorem dX8_offers_88 : decode cX8_offers 88 = .ok (.iload_n 2, 1) := by decide +kernel
theorem dX8_offers_89 : decode cX8_offers 89 = .ok (.ireturn, 1) := by decide +kernel
theorem dX8_fails_0 : decode cX8_fails 0 = .ok (.aload_n 0, 1) := by decide +kernel
theorem dX8_fails_1 : decode cX8_fails 1 = .ok (.getfield 98, 3) := by decide +kernel
theorem dX8_fails_4 : decode cX8_fails 4 = .ok (.istore_n 3, 1) := by decide +kernel
theorem dX8_fails_5 : decode cX8_fails 5 = .ok (.iload_n 3, 1) := by decide +kernel
theorem dX8_fails_6 : decode cX8_fails 6 = .ok (.ifCond .le 37, 3) := by decide +kernel
theorem dX8_fails_9 : decode cX8_fails 9 = .ok (.aload_n 0, 1) := by decide +kernel
theorem dX8_fails_10 : decode cX8_fails 10 = .ok (.getfield 59, 3) := by decide +kernel
theorem dX8_fails_13 : decode cX8_fails 13 = .ok (.iload_n 3, 1) := by decide +kernel
theorem dX8_fails_14 : decode cX8_fails 14 = .ok (.aload_n 0, 1) := by decide +kernel
theorem dX8_fails_15 : decode cX8_fails 15 = .ok (.getfield 59, 3) := by decide +kernel
theorem dX8_fails_18 : decode cX8_fails 18 = .ok (.iload_n 3, 1) := by decide +kernel
theorem dX8_fails_19 : decode cX8_fails 19 = .ok (.iconst 1, 1) := by decide +kernel
theorem dX8_fails_20 : decode cX8_fails 20 = .ok (.isub, 1) := by decide +kernel
theorem dX8_fails_21 : decode cX8_fails 21 = .ok (.iaload, 1) := by decide +kernel
theorem dX8_fails_22 : decode cX8_fails 22 = .ok (.iastore, 1) := by decide +kernel
theorem dX8_fails_23 : decode cX8_fails 23 = .ok (.aload_n 0, 1) := by decide +kernel
theorem dX8_fails_24 : decode cX8_fails 24 = .ok (.getfield 62, 3) := by decide +kernel
theorem dX8_fails_27 : decode cX8_fails 27 = .ok (.iload_n 3, 1) := by decide +kernel
theorem dX8_fails_28 : decode cX8_fails 28 = .ok (.aload_n 0, 1) := by decide +kernel
theorem dX8_fails_29 : decode cX8_fails 29 = .ok (.getfield 62, 3) := by decide +kernel
theorem dX8_fails_32 : decode cX8_fails 32 = .ok (.iload_n 3, 1) := by decide +kernel
theorem dX8_fails_33 : decode cX8_fails 33 = .ok (.iconst 1, 1) := by decide +kernel
theorem dX8_fails_34 : decode cX8_fails 34 = .ok (.isub, 1) := by decide +kernel
theorem dX8_fails_35 : decode cX8_fails 35 = .ok (.iaload, 1) := by decide +kernel
theorem dX8_fails_36 : decode cX8_fails 36 = .ok (.iastore, 1) := by decide +kernel
theorem dX8_fails_37 : decode cX8_fails 37 = .ok (.iinc 3 (-1), 3) := by decide +kernel
theorem dX8_fails_40 : decode cX8_fails 40 = .ok (.goto (-35), 3) := by decide +kernel
theorem dX8_fails_43 : decode cX8_fails 43 = .ok (.aload_n 0, 1) := by decide +kernel
theorem dX8_fails_44 : decode cX8_fails 44 = .ok (.getfield 59, 3) := by decide +kernel
theorem dX8_fails_47 : decode cX8_fails 47 = .ok (.iconst 0, 1) := by decide +kernel
theorem dX8_fails_48 : decode cX8_fails 48 = .ok (.iload_n 1, 1) := by decide +kernel
theorem dX8_fails_49 : decode cX8_fails 49 = .ok (.iastore, 1) := by decide +kernel
theorem dX8_fails_50 : decode cX8_fails 50 = .ok (.aload_n 0, 1) := by decide +kernel
theorem dX8_fails_51 : decode cX8_fails 51 = .ok (.getfield 62, 3) := by decide +kernel
theorem dX8_fails_54 : decode cX8_fails 54 = .ok (.iconst 0, 1) := by decide +kernel
theorem dX8_fails_55 : decode cX8_fails 55 = .ok (.iload_n 2, 1) := by decide +kernel
theorem dX8_fails_56 : decode cX8_fails 56 = .ok (.iastore, 1) := by decide +kernel
theorem dX8_fails_57 : decode cX8_fails 57 = .ok (.aload_n 0, 1) := by decide +kernel
theorem dX8_fails_58 : decode cX8_fails 58 = .ok (.dup, 1) := by decide +kernel
theorem dX8_fails_59 : decode cX8_fails 59 = .ok (.getfield 98, 3) := by decide +kernel
theorem dX8_fails_62 : decode cX8_fails 62 = .ok (.iconst 1, 1) := by decide +kernel
theorem dX8_fails_63 : decode cX8_fails 63 = .ok (.iadd, 1) := by decide +kernel
theorem dX8_fails_64 : decode cX8_fails 64 = .ok (.putfield 98, 3) := by decide +kernel
theorem dX8_fails_67 : decode cX8_fails 67 = .ok (.iconst 0, 1) := by decide +kernel
theorem dX8_fails_68 : decode cX8_fails 68 = .ok (.ireturn, 1) := by decide +kernel
theorem dX8_resolves_0 : decode cX8_resolves 0 = .ok (.aload_n 0, 1) := by decide +kernel
theorem dX8_resolves_1 : decode cX8_resolves 1 = .ok (.iconst 0, 1) := by decide +kernel
theorem dX8_resolves_2 : decode cX8_resolves 2 = .ok (.putfield 98, 3) := by decide +kernel
theorem dX8_resolves_5 : decode cX8_resolves 5 = .ok (.aload_n 0, 1) := by decide +kernel
theorem dX8_resolves_6 : decode cX8_resolves 6 = .ok (.iconst 0, 1) := by decide +kernel
theorem dX8_resolves_7 : decode cX8_resolves 7 = .ok (.putfield 102, 3) := by decide +kernel
theorem dX8_resolves_10 : decode cX8_resolves 10 = .ok (.aload_n 0, 1) := by decide +kernel
theorem dX8_resolves_11 : decode cX8_resolves 11 = .ok (.iconst 0, 1) := by decide +kernel
theorem dX8_resolves_12 : decode cX8_resolves 12 = .ok (.putfield 105, 3) := by decide +kernel
theorem dX8_resolves_15 : decode cX8_resolves 15 = .ok (.iconst 0, 1) := by decide +kernel
theorem dX8_resolves_16 : decode cX8_resolves 16 = .ok (.istore_n 2, 1) := by decide +kernel
theorem dX8_resolves_17 : decode cX8_resolves 17 = .ok (.iload_n 2, 1) := by decide +kernel
theorem dX8_resolves_18 : decode cX8_resolves 18 = .ok (.bipush 8, 2) := by decide +kernel
theorem dX8_resolves_20 : decode cX8_resolves 20 = .ok (.if_icmp .ge 16, 3) := by decide +kernel
theorem dX8_resolves_23 : decode cX8_resolves 23 = .ok (.aload_n 0, 1) := by decide +kernel
theorem dX8_resolves_24 : decode cX8_resolves 24 = .ok (.getfield 55, 3) := by decide +kernel
theorem dX8_resolves_27 : decode cX8_resolves 27 = .ok (.iload_n 2, 1) := by decide +kernel
theorem dX8_resolves_28 : decode cX8_resolves 28 = .ok (.iconst 0, 1) := by decide +kernel
theorem dX8_resolves_29 : decode cX8_resolves 29 = .ok (.bastore, 1) := by decide +kernel
theorem dX8_resolves_30 : decode cX8_resolves 30 = .ok (.iinc 2 1, 3) := by decide +kernel
theorem dX8_resolves_33 : decode cX8_resolves 33 = .ok (.goto (-16), 3) := by decide +kernel
theorem dX8_resolves_36 : decode cX8_resolves 36 = .ok (.aload_n 0, 1) := by decide +kernel
theorem dX8_resolves_37 : decode cX8_resolves 37 = .ok (.iload_n 1, 1) := by decide +kernel
theorem dX8_resolves_38 : decode cX8_resolves 38 = .ok (.iconst 0, 1) := by decide +kernel
theorem dX8_resolves_39 : decode cX8_resolves 39 = .ok (.invokevirtual 108, 3) := by decide +kernel
theorem dX8_resolves_42 : decode cX8_resolves 42 = .ok (.ireturn, 1) := by decide +kernel
theorem dX8_resolves__0 : decode cX8_resolves_ 0 = .ok (.aload_n 0, 1) := by decide +kernel
theorem dX8_resolves__1 : decode cX8_resolves_ 1 = .ok (.dup, 1) := by decide +kernel
theorem dX8_resolves__2 : decode cX8_resolves_ 2 = .ok (.getfield 102, 3) := by decide +kernel
theorem dX8_resolves__5 : decode cX8_resolves_ 5 = .ok (.iconst 1, 1) := by decide +kernel
theorem dX8_resolves__6 : decode cX8_resolves_ 6 = .ok (.iadd, 1) := by decide +kernel
theorem dX8_resolves__7 : decode cX8_resolves_ 7 = .ok (.putfield 102, 3) := by decide +kernel
theorem dX8_resolves__10 : decode cX8_resolves_ 10 = .ok (.aload_n 0, 1) := by decide +kernel
theorem dX8_resolves__11 : decode cX8_resolves_ 11 = .ok (.dup, 1) := by decide +kernel
theorem dX8_resolves__12 : decode cX8_resolves_ 12 = .ok (.getfield 105, 3) := by decide +kernel
theorem dX8_resolves__15 : decode cX8_resolves_ 15 = .ok (.iconst 1, 1) := by decide +kernel
theorem dX8_resolves__16 : decode cX8_resolves_ 16 = .ok (.iload_n 1, 1) := by decide +kernel
theorem dX8_resolves__17 : decode cX8_resolves_ 17 = .ok (.ishl, 1) := by decide +kernel
theorem dX8_resolves__18 : decode cX8_resolves_ 18 = .ok (.ior, 1) := by decide +kernel
theorem dX8_resolves__19 : decode cX8_resolves_ 19 = .ok (.putfield 105, 3) := by decide +kernel
theorem dX8_resolves__22 : decode cX8_resolves_ 22 = .ok (.aload_n 0, 1) := by decide +kernel
theorem dX8_resolves__23 : decode cX8_resolves_ 23 = .ok (.getfield 102, 3) := by decide +kernel
theorem dX8_resolves__26 : decode cX8_resolves_ 26 = .ok (.bipush 61, 2) := by decide +kernel
theorem dX8_resolves__28 : decode cX8_resolves_ 28 = .ok (.if_icmp .lt 11, 3) := by decide +kernel
theorem dX8_resolves__31 : decode cX8_resolves_ 31 = .ok (.aload_n 0, 1) := by decide +kernel
theorem dX8_resolves__32 : decode cX8_resolves_ 32 = .ok (.bipush 6, 2) := by decide +kernel
theorem dX8_resolves__34 : decode cX8_resolves_ 34 = .ok (.iload_n 1, 1) := by decide +kernel
theorem dX8_resolves__35 : decode cX8_resolves_ 35 = .ok (.invokevirtual 111, 3) := by decide +kernel
theorem dX8_resolves__38 : decode cX8_resolves_ 38 = .ok (.ireturn, 1) := by decide +kernel
theorem dX8_resolves__39 : decode cX8_resolves_ 39 = .ok (.aload_n 0, 1) := by decide +kernel
theorem dX8_resolves__40 : decode cX8_resolves_ 40 = .ok (.getfield 55, 3) := by decide +kernel
theorem dX8_resolves__43 : decode cX8_resolves_ 43 = .ok (.iload_n 1, 1) := by decide +kernel
theorem dX8_resolves__44 : decode cX8_resolves_ 44 = .ok (.baload, 1) := by decide +kernel
theorem dX8_resolves__45 : decode cX8_resolves_ 45 = .ok (.ifCond .eq 10, 3) := by decide +kernel
theorem dX8_resolves__48 : decode cX8_resolves_ 48 = .ok (.aload_n 0, 1) := by decide +kernel
theorem dX8_resolves__49 : decode cX8_resolves_ 49 = .ok (.iconst 2, 1) := by decide +kernel
theorem dX8_resolves__50 : decode cX8_resolves_ 50 = .ok (.iload_n 1, 1) := by decide +kernel
theorem dX8_resolves__51 : decode cX8_resolves_ 51 = .ok (.invokevirtual 111, 3) := by decide +kernel
theorem dX8_resolves__54 : decode cX8_resolves_ 54 = .ok (.ireturn, 1) := by decide +kernel
theorem dX8_resolves__55 : decode cX8_resolves_ 55 = .ok (.aload_n 0, 1) := by decide +kernel
theorem dX8_resolves__56 : decode cX8_resolves_ 56 = .ok (.iload_n 1, 1) := by decide +kernel
theorem dX8_resolves__57 : decode cX8_resolves_ 57 = .ok (.invokevirtual 114, 3) := by decide +kernel
theorem dX8_resolves__60 : decode cX8_resolves_ 60 = .ok (.istore_n 3, 1) := by decide +kernel
theorem dX8_resolves__61 : decode cX8_resolves_ 61 = .ok (.iload_n 3, 1) := by decide +kernel
theorem dX8_resolves__62 : decode cX8_resolves_ 62 = .ok (.ifCond .ne 10, 3) := by decide +kernel
theorem dX8_resolves__65 : decode cX8_resolves_ 65 = .ok (.aload_n 0, 1) := by decide +kernel
theorem dX8_resolves__66 : decode cX8_resolves_ 66 = .ok (.iconst 1, 1) := by decide +kernel
theorem dX8_resolves__67 : decode cX8_resolves_ 67 = .ok (.iload_n 1, 1) := by decide +kernel
theorem dX8_resolves__68 : decode cX8_resolves_ 68 = .ok (.invokevirtual 111, 3) := by decide +kernel
theorem dX8_resolves__71 : decode cX8_resolves_ 71 = .ok (.ireturn, 1) := by decide +kernel
theorem dX8_resolves__72 : decode cX8_resolves_ 72 = .ok (.aload_n 0, 1) := by decide +kernel
theorem dX8_resolves__73 : decode cX8_resolves_ 73 = .ok (.getfield 55, 3) := by decide +kernel
theorem dX8_resolves__76 : decode cX8_resolves_ 76 = .ok (.iload_n 1, 1) := by decide +kernel
theorem dX8_resolves__77 : decode cX8_resolves_ 77 = .ok (.iconst 1, 1) := by decide +kernel
theorem dX8_resolves__78 : decode cX8_resolves_ 78 = .ok (.bastore, 1) := by decide +kernel
theorem dX8_resolves__79 : decode cX8_resolves_ 79 = .ok (.aload_n 0, 1) := by decide +kernel
theorem dX8_resolves__80 : decode cX8_resolves_ 80 = .ok (.iload_n 1, 1) := by decide +kernel
theorem dX8_resolves__81 : decode cX8_resolves_ 81 = .ok (.iload_n 2, 1) := by decide +kernel
theorem dX8_resolves__82 : decode cX8_resolves_ 82 = .ok (.iload_n 3, 1) := by decide +kernel
theorem dX8_resolves__83 : decode cX8_resolves_ 83 = .ok (.invokevirtual 117, 3) := by decide +kernel
theorem dX8_resolves__86 : decode cX8_resolves_ 86 = .ok (.istore 4, 2) := by decide +kernel
theorem dX8_resolves__88 : decode cX8_resolves_ 88 = .ok (.aload_n 0, 1) := by decide +kernel
theorem dX8_resolves__89 : decode cX8_resolves_ 89 = .ok (.getfield 55, 3) := by decide +kernel
theorem dX8_resolves__92 : decode cX8_resolves_ 92 = .ok (.iload_n 1, 1) := by decide +kernel
theorem dX8_resolves__93 : decode cX8_resolves_ 93 = .ok (.iconst 0, 1) := by decide +kernel
theorem dX8_resolves__94 : decode cX8_resolves_ 94 = .ok (.bastore, 1) := by decide +kernel
