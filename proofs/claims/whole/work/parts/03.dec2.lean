/-! decode rows -/
theorem dX5_applyTo_53 : decode cX5_applyTo 53 = .ok (.ireturn, 1) := by decide +kernel
theorem dX5_applyTo_54 : decode cX5_applyTo 54 = .ok (.aload_n 0, 1) := by decide +kernel
theorem dX5_applyTo_55 : decode cX5_applyTo 55 = .ok (.aload_n 1, 1) := by decide +kernel
theorem dX5_applyTo_56 : decode cX5_applyTo 56 = .ok (.invokevirtual 42, 3) := by decide +kernel
theorem dX5_applyTo_59 : decode cX5_applyTo 59 = .ok (.ireturn, 1) := by decide +kernel
theorem dX5_applyTo_60 : decode cX5_applyTo 60 = .ok (.aload_n 0, 1) := by decide +kernel
theorem dX5_applyTo_61 : decode cX5_applyTo 61 = .ok (.aload_n 1, 1) := by decide +kernel
theorem dX5_applyTo_62 : decode cX5_applyTo 62 = .ok (.invokevirtual 45, 3) := by decide +kernel
theorem dX5_applyTo_65 : decode cX5_applyTo 65 = .ok (.ireturn, 1) := by decide +kernel
theorem dX5_applyTo_66 : decode cX5_applyTo 66 = .ok (.aload_n 0, 1) := by decide +kernel
theorem dX5_applyTo_67 : decode cX5_applyTo 67 = .ok (.aload_n 1, 1) := by decide +kernel
theorem dX5_applyTo_68 : decode cX5_applyTo 68 = .ok (.invokevirtual 48, 3) := by decide +kernel
theorem dX5_applyTo_71 : decode cX5_applyTo 71 = .ok (.ireturn, 1) := by decide +kernel
theorem dX5_applyTo_72 : decode cX5_applyTo 72 = .ok (.aload_n 0, 1) := by decide +kernel
theorem dX5_applyTo_73 : decode cX5_applyTo 73 = .ok (.aload_n 1, 1) := by decide +kernel
theorem dX5_applyTo_74 : decode cX5_applyTo 74 = .ok (.invokevirtual 51, 3) := by decide +kernel
theorem dX5_applyTo_77 : decode cX5_applyTo 77 = .ok (.ireturn, 1) := by decide +kernel
theorem dX5_applyKind_0 : decode cX5_applyKind 0 = .ok (.aload_n 0, 1) := by decide +kernel
theorem dX5_applyKind_1 : decode cX5_applyKind 1 = .ok (.getfield 54, 3) := by decide +kernel
theorem dX5_applyKind_4 : decode cX5_applyKind 4 = .ok (.invokestatic 57, 3) := by decide +kernel
theorem dX5_applyKind_7 : decode cX5_applyKind 7 = .ok (.ifCond .ne 12, 3) := by decide +kernel
theorem dX5_applyKind_10 : decode cX5_applyKind 10 = .ok (.aload_n 0, 1) := by decide +kernel
theorem dX5_applyKind_11 : decode cX5_applyKind 11 = .ok (.getfield 61, 3) := by decide +kernel
theorem dX5_applyKind_14 : decode cX5_applyKind 14 = .ok (.bipush 6, 2) := by decide +kernel
theorem dX5_applyKind_16 : decode cX5_applyKind 16 = .ok (.if_icmp .lt 5, 3) := by decide +kernel
theorem dX5_applyKind_19 : decode cX5_applyKind 19 = .ok (.iconst 0, 1) := by decide +kernel
theorem dX5_applyKind_20 : decode cX5_applyKind 20 = .ok (.ireturn, 1) := by decide +kernel
theorem dX5_applyKind_21 : decode cX5_applyKind 21 = .ok (.aload_n 1, 1) := by decide +kernel
theorem dX5_applyKind_22 : decode cX5_applyKind 22 = .ok (.aload_n 0, 1) := by decide +kernel
theorem dX5_applyKind_23 : decode cX5_applyKind 23 = .ok (.getfield 54, 3) := by decide +kernel
theorem dX5_applyKind_26 : decode cX5_applyKind 26 = .ok (.aload_n 0, 1) := by decide +kernel
theorem dX5_applyKind_27 : decode cX5_applyKind 27 = .ok (.getfield 61, 3) := by decide +kernel
theorem dX5_applyKind_30 : decode cX5_applyKind 30 = .ok (.aload_n 0, 1) := by decide +kernel
theorem dX5_applyKind_31 : decode cX5_applyKind 31 = .ok (.getfield 64, 3) := by decide +kernel
theorem dX5_applyKind_34 : decode cX5_applyKind 34 = .ok (.invokevirtual 67, 3) := by decide +kernel
theorem dX5_applyKind_37 : decode cX5_applyKind 37 = .ok (.iconst 1, 1) := by decide +kernel
theorem dX5_applyKind_38 : decode cX5_applyKind 38 = .ok (.ireturn, 1) := by decide +kernel
theorem dX5_applyToggle_0 : decode cX5_applyToggle 0 = .ok (.aload_n 0, 1) := by decide +kernel
theorem dX5_applyToggle_1 : decode cX5_applyToggle 1 = .ok (.getfield 54, 3) := by decide +kernel
theorem dX5_applyToggle_4 : decode cX5_applyToggle 4 = .ok (.invokestatic 57, 3) := by decide +kernel
theorem dX5_applyToggle_7 : decode cX5_applyToggle 7 = .ok (.ifCond .eq 5, 3) := by decide +kernel
theorem dX5_applyToggle_10 : decode cX5_applyToggle 10 = .ok (.iconst 0, 1) := by decide +kernel
theorem dX5_applyToggle_11 : decode cX5_applyToggle 11 = .ok (.ireturn, 1) := by decide +kernel
theorem dX5_applyToggle_12 : decode cX5_applyToggle 12 = .ok (.aload_n 1, 1) := by decide +kernel
theorem dX5_applyToggle_13 : decode cX5_applyToggle 13 = .ok (.aload_n 0, 1) := by decide +kernel
theorem dX5_applyToggle_14 : decode cX5_applyToggle 14 = .ok (.getfield 54, 3) := by decide +kernel
theorem dX5_applyToggle_17 : decode cX5_applyToggle 17 = .ok (.invokevirtual 73, 3) := by decide +kernel
theorem dX5_applyToggle_20 : decode cX5_applyToggle 20 = .ok (.iconst 1, 1) := by decide +kernel
theorem dX5_applyToggle_21 : decode cX5_applyToggle 21 = .ok (.ireturn, 1) := by decide +kernel
theorem dX5_applyEntry_0 : decode cX5_applyEntry 0 = .ok (.aload_n 0, 1) := by decide +kernel
theorem dX5_applyEntry_1 : decode cX5_applyEntry 1 = .ok (.getfield 54, 3) := by decide +kernel
theorem dX5_applyEntry_4 : decode cX5_applyEntry 4 = .ok (.invokestatic 57, 3) := by decide +kernel
theorem dX5_applyEntry_7 : decode cX5_applyEntry 7 = .ok (.ifCond .ne 18, 3) := by decide +kernel
theorem dX5_applyEntry_10 : decode cX5_applyEntry 10 = .ok (.aload_n 0, 1) := by decide +kernel
theorem dX5_applyEntry_11 : decode cX5_applyEntry 11 = .ok (.getfield 25, 3) := by decide +kernel
theorem dX5_applyEntry_14 : decode cX5_applyEntry 14 = .ok (.iconst 4, 1) := by decide +kernel
theorem dX5_applyEntry_15 : decode cX5_applyEntry 15 = .ok (.if_icmp .gt 10, 3) := by decide +kernel
theorem dX5_applyEntry_18 : decode cX5_applyEntry 18 = .ok (.aload_n 0, 1) := by decide +kernel
theorem dX5_applyEntry_19 : decode cX5_applyEntry 19 = .ok (.getfield 31, 3) := by decide +kernel
theorem dX5_applyEntry_22 : decode cX5_applyEntry 22 = .ok (.ifCond .eq 5, 3) := by decide +kernel
theorem dX5_applyEntry_25 : decode cX5_applyEntry 25 = .ok (.iconst 0, 1) := by decide +kernel
theorem dX5_applyEntry_26 : decode cX5_applyEntry 26 = .ok (.ireturn, 1) := by decide +kernel
theorem dX5_applyEntry_27 : decode cX5_applyEntry 27 = .ok (.aload_n 0, 1) := by decide +kernel
theorem dX5_applyEntry_28 : decode cX5_applyEntry 28 = .ok (.getfield 54, 3) := by decide +kernel
theorem dX5_applyEntry_31 : decode cX5_applyEntry 31 = .ok (.aload_n 0, 1) := by decide +kernel
theorem dX5_applyEntry_32 : decode cX5_applyEntry 32 = .ok (.getfield 77, 3) := by decide +kernel
theorem dX5_applyEntry_35 : decode cX5_applyEntry 35 = .ok (.invokestatic 80, 3) := by decide +kernel
theorem dX5_applyEntry_38 : decode cX5_applyEntry 38 = .ok (.istore_n 2, 1) := by decide +kernel
theorem dX5_applyEntry_39 : decode cX5_applyEntry 39 = .ok (.aload_n 1, 1) := by decide +kernel
theorem dX5_applyEntry_40 : decode cX5_applyEntry 40 = .ok (.iload_n 2, 1) := by decide +kernel
theorem dX5_applyEntry_41 : decode cX5_applyEntry 41 = .ok (.aload_n 0, 1) := by decide +kernel
theorem dX5_applyEntry_42 : decode cX5_applyEntry 42 = .ok (.getfield 84, 3) := by decide +kernel
theorem dX5_applyEntry_45 : decode cX5_applyEntry 45 = .ok (.aload_n 0, 1) := by decide +kernel
theorem dX5_applyEntry_46 : decode cX5_applyEntry 46 = .ok (.getfield 18, 3) := by decide +kernel
theorem dX5_applyEntry_49 : decode cX5_applyEntry 49 = .ok (.aload_n 0, 1) := by decide +kernel
theorem dX5_applyEntry_50 : decode cX5_applyEntry 50 = .ok (.getfield 22, 3) := by decide +kernel
theorem dX5_applyEntry_53 : decode cX5_applyEntry 53 = .ok (.invokevirtual 87, 3) := by decide +kernel
theorem dX5_applyEntry_56 : decode cX5_applyEntry 56 = .ok (.iconst 0, 1) := by decide +kernel
theorem dX5_applyEntry_57 : decode cX5_applyEntry 57 = .ok (.istore_n 3, 1) := by decide +kernel
theorem dX5_applyEntry_58 : decode cX5_applyEntry 58 = .ok (.iload_n 3, 1) := by decide +kernel
theorem dX5_applyEntry_59 : decode cX5_applyEntry 59 = .ok (.aload_n 0, 1) := by decide +kernel
theorem dX5_applyEntry_60 : decode cX5_applyEntry 60 = .ok (.getfield 25, 3) := by decide +kernel
theorem dX5_applyEntry_63 : decode cX5_applyEntry 63 = .ok (.if_icmp .ge 27, 3) := by decide +kernel
theorem dX5_applyEntry_66 : decode cX5_applyEntry 66 = .ok (.aload_n 1, 1) := by decide +kernel
theorem dX5_applyEntry_67 : decode cX5_applyEntry 67 = .ok (.iload_n 2, 1) := by decide +kernel
theorem dX5_applyEntry_68 : decode cX5_applyEntry 68 = .ok (.aload_n 0, 1) := by decide +kernel
theorem dX5_applyEntry_69 : decode cX5_applyEntry 69 = .ok (.getfield 9, 3) := by decide +kernel
theorem dX5_applyEntry_72 : decode cX5_applyEntry 72 = .ok (.iload_n 3, 1) := by decide +kernel
theorem dX5_applyEntry_73 : decode cX5_applyEntry 73 = .ok (.iaload, 1) := by decide +kernel
theorem dX5_applyEntry_74 : decode cX5_applyEntry 74 = .ok (.aload_n 0, 1) := by decide +kernel
theorem dX5_applyEntry_75 : decode cX5_applyEntry 75 = .ok (.getfield 15, 3) := by decide +kernel
theorem dX5_applyEntry_78 : decode cX5_applyEntry 78 = .ok (.iload_n 3, 1) := by decide +kernel
theorem dX5_applyEntry_79 : decode cX5_applyEntry 79 = .ok (.iaload, 1) := by decide +kernel
theorem dX5_applyEntry_80 : decode cX5_applyEntry 80 = .ok (.invokevirtual 91, 3) := by decide +kernel
theorem dX5_applyEntry_83 : decode cX5_applyEntry 83 = .ok (.pop, 1) := by decide +kernel
theorem dX5_applyEntry_84 : decode cX5_applyEntry 84 = .ok (.iinc 3 1, 3) := by decide +kernel
theorem dX5_applyEntry_87 : decode cX5_applyEntry 87 = .ok (.goto (-29), 3) := by decide +kernel
theorem dX5_applyEntry_90 : decode cX5_applyEntry 90 = .ok (.iconst 1, 1) := by decide +kernel
theorem dX5_applyEntry_91 : decode cX5_applyEntry 91 = .ok (.ireturn, 1) := by decide +kernel
theorem dX5_applyDrop_0 : decode cX5_applyDrop 0 = .ok (.aload_n 0, 1) := by decide +kernel
theorem dX5_applyDrop_1 : decode cX5_applyDrop 1 = .ok (.getfield 54, 3) := by decide +kernel
theorem dX5_applyDrop_4 : decode cX5_applyDrop 4 = .ok (.invokestatic 57, 3) := by decide +kernel
theorem dX5_applyDrop_7 : decode cX5_applyDrop 7 = .ok (.ifCond .ne 23, 3) := by decide +kernel
theorem dX5_applyDrop_10 : decode cX5_applyDrop 10 = .ok (.aload_n 1, 1) := by decide +kernel
theorem dX5_applyDrop_11 : decode cX5_applyDrop 11 = .ok (.getfield 95, 3) := by decide +kernel
theorem dX5_applyDrop_14 : decode cX5_applyDrop 14 = .ok (.aload_n 0, 1) := by decide +kernel
theorem dX5_applyDrop_15 : decode cX5_applyDrop 15 = .ok (.getfield 54, 3) := by decide +kernel
theorem dX5_applyDrop_18 : decode cX5_applyDrop 18 = .ok (.aload_n 0, 1) := by decide +kernel
theorem dX5_applyDrop_19 : decode cX5_applyDrop 19 = .ok (.getfield 77, 3) := by decide +kernel
theorem dX5_applyDrop_22 : decode cX5_applyDrop 22 = .ok (.invokestatic 80, 3) := by decide +kernel
theorem dX5_applyDrop_25 : decode cX5_applyDrop 25 = .ok (.iaload, 1) := by decide +kernel
theorem dX5_applyDrop_26 : decode cX5_applyDrop 26 = .ok (.iconst (-1), 1) := by decide +kernel
theorem dX5_applyDrop_27 : decode cX5_applyDrop 27 = .ok (.if_icmp .ne 5, 3) := by decide +kernel
theorem dX5_applyDrop_30 : decode cX5_applyDrop 30 = .ok (.iconst 0, 1) := by decide +kernel
theorem dX5_applyDrop_31 : decode cX5_applyDrop 31 = .ok (.ireturn, 1) := by decide +kernel
theorem dX5_applyDrop_32 : decode cX5_applyDrop 32 = .ok (.aload_n 1, 1) := by decide +kernel
theorem dX5_applyDrop_33 : decode cX5_applyDrop 33 = .ok (.aload_n 0, 1) := by decide +kernel
theorem dX5_applyDrop_34 : decode cX5_applyDrop 34 = .ok (.getfield 54, 3) := by decide +kernel
theorem dX5_applyDrop_37 : decode cX5_applyDrop 37 = .ok (.aload_n 0, 1) := by decide +kernel
theorem dX5_applyDrop_38 : decode cX5_applyDrop 38 = .ok (.getfield 77, 3) := by decide +kernel
theorem dX5_applyDrop_41 : decode cX5_applyDrop 41 = .ok (.invokestatic 80, 3) := by decide +kernel
theorem dX5_applyDrop_44 : decode cX5_applyDrop 44 = .ok (.invokevirtual 98, 3) := by decide +kernel
theorem dX5_applyDrop_47 : decode cX5_applyDrop 47 = .ok (.iconst 1, 1) := by decide +kernel
theorem dX5_applyDrop_48 : decode cX5_applyDrop 48 = .ok (.ireturn, 1) := by decide +kernel
theorem dX5_applyManner_0 : decode cX5_applyManner 0 = .ok (.aload_n 0, 1) := by decide +kernel
theorem dX5_applyManner_1 : decode cX5_applyManner 1 = .ok (.getfield 101, 3) := by decide +kernel
theorem dX5_applyManner_4 : decode cX5_applyManner 4 = .ok (.iconst 5, 1) := by decide +kernel
theorem dX5_applyManner_5 : decode cX5_applyManner 5 = .ok (.if_icmp .lt 5, 3) := by decide +kernel
theorem dX5_applyManner_8 : decode cX5_applyManner 8 = .ok (.iconst 0, 1) := by decide +kernel
theorem dX5_applyManner_9 : decode cX5_applyManner 9 = .ok (.ireturn, 1) := by decide +kernel
theorem dX5_applyManner_10 : decode cX5_applyManner 10 = .ok (.aload_n 1, 1) := by decide +kernel
theorem dX5_applyManner_11 : decode cX5_applyManner 11 = .ok (.getfield 104, 3) := by decide +kernel
theorem dX5_applyManner_14 : decode cX5_applyManner 14 = .ok (.aload_n 0, 1) := by decide +kernel
theorem dX5_applyManner_15 : decode cX5_applyManner 15 = .ok (.getfield 77, 3) := by decide +kernel
theorem dX5_applyManner_18 : decode cX5_applyManner 18 = .ok (.aload_n 0, 1) := by decide +kernel
theorem dX5_applyManner_19 : decode cX5_applyManner 19 = .ok (.getfield 101, 3) := by decide +kernel
theorem dX5_applyManner_22 : decode cX5_applyManner 22 = .ok (.iastore, 1) := by decide +kernel
theorem dX5_applyManner_23 : decode cX5_applyManner 23 = .ok (.iconst 1, 1) := by decide +kernel
theorem dX5_applyManner_24 : decode cX5_applyManner 24 = .ok (.ireturn, 1) := by decide +kernel
theorem dX6_init_0 : decode cX6_init 0 = .ok (.aload_n 0, 1) := by decide +kernel
theorem dX6_init_1 : decode cX6_init 1 = .ok (.invokespecial 3, 3) := by decide +kernel
theorem dX6_init_4 : decode cX6_init 4 = .ok (.aload_n 0, 1) := by decide +kernel
theorem dX6_init_5 : decode cX6_init 5 = .ok (.bipush 96, 2) := by decide +kernel
theorem dX6_init_7 : decode cX6_init 7 = .ok (.newarray .int, 2) := by decide +kernel
theorem dX6_init_9 : decode cX6_init 9 = .ok (.putfield 9, 3) := by decide +kernel
theorem dX6_init_12 : decode cX6_init 12 = .ok (.aload_n 0, 1) := by decide +kernel
theorem dX6_init_13 : decode cX6_init 13 = .ok (.new 15, 3) := by decide +kernel
theorem dX6_init_16 : decode cX6_init 16 = .ok (.dup, 1) := by decide +kernel
theorem dX6_init_17 : decode cX6_init 17 = .ok (.invokespecial 17, 3) := by decide +kernel
theorem dX6_init_20 : decode cX6_init 20 = .ok (.putfield 18, 3) := by decide +kernel
theorem dX6_init_23 : decode cX6_init 23 = .ok (.return_, 1) := by decide +kernel
theorem dX6_append_0 : decode cX6_append 0 = .ok (.aload_n 0, 1) := by decide +kernel
theorem dX6_append_1 : decode cX6_append 1 = .ok (.getfield 9, 3) := by decide +kernel
theorem dX6_append_4 : decode cX6_append 4 = .ok (.aload_n 0, 1) := by decide +kernel
theorem dX6_append_5 : decode cX6_append 5 = .ok (.getfield 22, 3) := by decide +kernel
theorem dX6_append_8 : decode cX6_append 8 = .ok (.iload_n 1, 1) := by decide +kernel
theorem dX6_append_9 : decode cX6_append 9 = .ok (.iastore, 1) := by decide +kernel
theorem dX6_append_10 : decode cX6_append 10 = .ok (.aload_n 0, 1) := by decide +kernel
theorem dX6_append_11 : decode cX6_append 11 = .ok (.dup, 1) := by decide +kernel
theorem dX6_append_12 : decode cX6_append 12 = .ok (.getfield 22, 3) := by decide +kernel
theorem dX6_append_15 : decode cX6_append 15 = .ok (.iconst 1, 1) := by decide +kernel
theorem dX6_append_16 : decode cX6_append 16 = .ok (.iadd, 1) := by decide +kernel
theorem dX6_append_17 : decode cX6_append 17 = .ok (.putfield 22, 3) := by decide +kernel
theorem dX6_append_20 : decode cX6_append 20 = .ok (.aload_n 0, 1) := by decide +kernel
theorem dX6_append_21 : decode cX6_append 21 = .ok (.getfield 22, 3) := by decide +kernel
theorem dX6_append_24 : decode cX6_append 24 = .ok (.ireturn, 1) := by decide +kernel
theorem dX6_isWellFormed_0 : decode cX6_isWellFormed 0 = .ok (.aload_n 0, 1) := by decide +kernel
theorem dX6_isWellFormed_1 : decode cX6_isWellFormed 1 = .ok (.iconst 0, 1) := by decide +kernel
theorem dX6_isWellFormed_2 : decode cX6_isWellFormed 2 = .ok (.putfield 26, 3) := by decide +kernel
theorem dX6_isWellFormed_5 : decode cX6_isWellFormed 5 = .ok (.iconst 0, 1) := by decide +kernel
theorem dX6_isWellFormed_6 : decode cX6_isWellFormed 6 = .ok (.istore_n 1, 1) := by decide +kernel
theorem dX6_isWellFormed_7 : decode cX6_isWellFormed 7 = .ok (.iload_n 1, 1) := by decide +kernel
theorem dX6_isWellFormed_8 : decode cX6_isWellFormed 8 = .ok (.bipush 96, 2) := by decide +kernel
theorem dX6_isWellFormed_10 : decode cX6_isWellFormed 10 = .ok (.if_icmp .ge 35, 3) := by decide +kernel
theorem dX6_isWellFormed_13 : decode cX6_isWellFormed 13 = .ok (.iload_n 1, 1) := by decide +kernel
theorem dX6_isWellFormed_14 : decode cX6_isWellFormed 14 = .ok (.ifCond .le 16, 3) := by decide +kernel
theorem dX6_isWellFormed_17 : decode cX6_isWellFormed 17 = .ok (.aload_n 0, 1) := by decide +kernel
theorem dX6_isWellFormed_18 : decode cX6_isWellFormed 18 = .ok (.getfield 26, 3) := by decide +kernel
theorem dX6_isWellFormed_21 : decode cX6_isWellFormed 21 = .ok (.aload_n 0, 1) := by decide +kernel
theorem dX6_isWellFormed_22 : decode cX6_isWellFormed 22 = .ok (.getfield 22, 3) := by decide +kernel
theorem dX6_isWellFormed_25 : decode cX6_isWellFormed 25 = .ok (.if_icmp .lt 5, 3) := by decide +kernel
theorem dX6_isWellFormed_28 : decode cX6_isWellFormed 28 = .ok (.iconst 1, 1) := by decide +kernel
theorem dX6_isWellFormed_29 : decode cX6_isWellFormed 29 = .ok (.ireturn, 1) := by decide +kernel
theorem dX6_isWellFormed_30 : decode cX6_isWellFormed 30 = .ok (.aload_n 0, 1) := by decide +kernel
theorem dX6_isWellFormed_31 : decode cX6_isWellFormed 31 = .ok (.invokevirtual 29, 3) := by decide +kernel
theorem dX6_isWellFormed_34 : decode cX6_isWellFormed 34 = .ok (.ifCond .ne 5, 3) := by decide +kernel
theorem dX6_isWellFormed_37 : decode cX6_isWellFormed 37 = .ok (.iconst 0, 1) := by decide +kernel
theorem dX6_isWellFormed_38 : decode cX6_isWellFormed 38 = .ok (.ireturn, 1) := by decide +kernel
theorem dX6_isWellFormed_39 : decode cX6_isWellFormed 39 = .ok (.iinc 1 1, 3) := by decide +kernel
theorem dX6_isWellFormed_42 : decode cX6_isWellFormed 42 = .ok (.goto (-35), 3) := by decide +kernel
theorem dX6_isWellFormed_45 : decode cX6_isWellFormed 45 = .ok (.iconst 1, 1) := by decide +kernel
theorem dX6_isWellFormed_46 : decode cX6_isWellFormed 46 = .ok (.ireturn, 1) := by decide +kernel
theorem dX6_readStatement_0 : decode cX6_readStatement 0 = .ok (.aload_n 0, 1) := by decide +kernel
theorem dX6_readStatement_1 : decode cX6_readStatement 1 = .ok (.getfield 18, 3) := by decide +kernel
theorem dX6_readStatement_4 : decode cX6_readStatement 4 = .ok (.aload_n 0, 1) := by decide +kernel
theorem dX6_readStatement_5 : decode cX6_readStatement 5 = .ok (.invokevirtual 33, 3) := by decide +kernel
theorem dX6_readStatement_8 : decode cX6_readStatement 8 = .ok (.putfield 37, 3) := by decide +kernel
theorem dX6_readStatement_11 : decode cX6_readStatement 11 = .ok (.aload_n 0, 1) := by decide +kernel
theorem dX6_readStatement_12 : decode cX6_readStatement 12 = .ok (.getfield 18, 3) := by decide +kernel
theorem dX6_readStatement_15 : decode cX6_readStatement 15 = .ok (.getfield 37, 3) := by decide +kernel
theorem dX6_readStatement_18 : decode cX6_readStatement 18 = .ok (.tableswitch 264 100 111 #[186, 140, 264, 264, 264, 264, 264, 264, 62, 225, 264, 108], 62) := by decide +kernel
theorem dX6_readStatement_80 : decode cX6_readStatement 80 = .ok (.aload_n 0, 1) := by decide +kernel
theorem dX6_readStatement_81 : decode cX6_readStatement 81 = .ok (.dup, 1) := by decide +kernel
theorem dX6_readStatement_82 : decode cX6_readStatement 82 = .ok (.getfield 26, 3) := by decide +kernel
theorem dX6_readStatement_85 : decode cX6_readStatement 85 = .ok (.iconst 1, 1) := by decide +kernel
theorem dX6_readStatement_86 : decode cX6_readStatement 86 = .ok (.iadd, 1) := by decide +kernel
theorem dX6_readStatement_87 : decode cX6_readStatement 87 = .ok (.putfield 26, 3) := by decide +kernel
theorem dX6_readStatement_90 : decode cX6_readStatement 90 = .ok (.aload_n 0, 1) := by decide +kernel
theorem dX6_readStatement_91 : decode cX6_readStatement 91 = .ok (.invokevirtual 40, 3) := by decide +kernel
theorem dX6_readStatement_94 : decode cX6_readStatement 94 = .ok (.ifCond .eq 30, 3) := by decide +kernel
theorem dX6_readStatement_97 : decode cX6_readStatement 97 = .ok (.aload_n 0, 1) := by decide +kernel
theorem dX6_readStatement_98 : decode cX6_readStatement 98 = .ok (.invokevirtual 43, 3) := by decide +kernel
theorem dX6_readStatement_101 : decode cX6_readStatement 101 = .ok (.ifCond .eq 23, 3) := by decide +kernel
theorem dX6_readStatement_104 : decode cX6_readStatement 104 = .ok (.aload_n 0, 1) := by decide +kernel
theorem dX6_readStatement_105 : decode cX6_readStatement 105 = .ok (.invokevirtual 46, 3) := by decide +kernel
theorem dX6_readStatement_108 : decode cX6_readStatement 108 = .ok (.ifCond .eq 16, 3) := by decide +kernel
theorem dX6_readStatement_111 : decode cX6_readStatement 111 = .ok (.aload_n 0, 1) := by decide +kernel
theorem dX6_readStatement_112 : decode cX6_readStatement 112 = .ok (.bipush 59, 2) := by decide +kernel
theorem dX6_readStatement_114 : decode cX6_readStatement 114 = .ok (.invokevirtual 49, 3) := by decide +kernel
theorem dX6_readStatement_117 : decode cX6_readStatement 117 = .ok (.ifCond .eq 7, 3) := by decide +kernel
theorem dX6_readStatement_120 : decode cX6_readStatement 120 = .ok (.iconst 1, 1) := by decide +kernel
theorem dX6_readStatement_121 : decode cX6_readStatement 121 = .ok (.goto 4, 3) := by decide +kernel
theorem dX6_readStatement_124 : decode cX6_readStatement 124 = .ok (.iconst 0, 1) := by decide +kernel
theorem dX6_readStatement_125 : decode cX6_readStatement 125 = .ok (.ireturn, 1) := by decide +kernel
theorem dX6_readStatement_126 : decode cX6_readStatement 126 = .ok (.aload_n 0, 1) := by decide +kernel
theorem dX6_readStatement_127 : decode cX6_readStatement 127 = .ok (.dup, 1) := by decide +kernel
theorem dX6_readStatement_128 : decode cX6_readStatement 128 = .ok (.getfield 26, 3) := by decide +kernel
theorem dX6_readStatement_131 : decode cX6_readStatement 131 = .ok (.iconst 1, 1) := by decide +kernel
theorem dX6_readStatement_132 : decode cX6_readStatement 132 = .ok (.iadd, 1) := by decide +kernel
theorem dX6_readStatement_133 : decode cX6_readStatement 133 = .ok (.putfield 26, 3) := by decide +kernel
theorem dX6_readStatement_136 : decode cX6_readStatement 136 = .ok (.aload_n 0, 1) := by decide +kernel
theorem dX6_readStatement_137 : decode cX6_readStatement 137 = .ok (.invokevirtual 40, 3) := by decide +kernel
theorem dX6_readStatement_140 : decode cX6_readStatement 140 = .ok (.ifCond .eq 16, 3) := by decide +kernel
theorem dX6_readStatement_143 : decode cX6_readStatement 143 = .ok (.aload_n 0, 1) := by decide +kernel
theorem dX6_readStatement_144 : decode cX6_readStatement 144 = .ok (.bipush 59, 2) := by decide +kernel
theorem dX6_readStatement_146 : decode cX6_readStatement 146 = .ok (.invokevirtual 49, 3) := by decide +kernel
theorem dX6_readStatement_149 : decode cX6_readStatement 149 = .ok (.ifCond .eq 7, 3) := by decide +kernel
theorem dX6_readStatement_152 : decode cX6_readStatement 152 = .ok (.iconst 1, 1) := by decide +kernel
theorem dX6_readStatement_153 : decode cX6_readStatement 153 = .ok (.goto 4, 3) := by decide +kernel
theorem dX6_readStatement_156 : decode cX6_readStatement 156 = .ok (.iconst 0, 1) := by decide +kernel
theorem dX6_readStatement_157 : decode cX6_readStatement 157 = .ok (.ireturn, 1) := by decide +kernel
theorem dX6_readStatement_158 : decode cX6_readStatement 158 = .ok (.aload_n 0, 1) := by decide +kernel
theorem dX6_readStatement_159 : decode cX6_readStatement 159 = .ok (.dup, 1) := by decide +kernel
theorem dX6_readStatement_160 : decode cX6_readStatement 160 = .ok (.getfield 26, 3) := by decide +kernel
theorem dX6_readStatement_163 : decode cX6_readStatement 163 = .ok (.iconst 1, 1) := by decide +kernel
theorem dX6_readStatement_164 : decode cX6_readStatement 164 = .ok (.iadd, 1) := by decide +kernel
theorem dX6_readStatement_165 : decode cX6_readStatement 165 = .ok (.putfield 26, 3) := by decide +kernel
theorem dX6_readStatement_168 : decode cX6_readStatement 168 = .ok (.aload_n 0, 1) := by decide +kernel
theorem dX6_readStatement_169 : decode cX6_readStatement 169 = .ok (.invokevirtual 40, 3) := by decide +kernel
theorem dX6_readStatement_172 : decode cX6_readStatement 172 = .ok (.ifCond .eq 30, 3) := by decide +kernel
theorem dX6_readStatement_175 : decode cX6_readStatement 175 = .ok (.aload_n 0, 1) := by decide +kernel
theorem dX6_readStatement_176 : decode cX6_readStatement 176 = .ok (.invokevirtual 53, 3) := by decide +kernel
theorem dX6_readStatement_179 : decode cX6_readStatement 179 = .ok (.ifCond .eq 23, 3) := by decide +kernel
theorem dX6_readStatement_182 : decode cX6_readStatement 182 = .ok (.aload_n 0, 1) := by decide +kernel
theorem dX6_readStatement_183 : decode cX6_readStatement 183 = .ok (.invokevirtual 56, 3) := by decide +kernel
theorem dX6_readStatement_186 : decode cX6_readStatement 186 = .ok (.ifCond .eq 16, 3) := by decide +kernel
theorem dX6_readStatement_189 : decode cX6_readStatement 189 = .ok (.aload_n 0, 1) := by decide +kernel
theorem dX6_readStatement_190 : decode cX6_readStatement 190 = .ok (.bipush 59, 2) := by decide +kernel
theorem dX6_readStatement_192 : decode cX6_readStatement 192 = .ok (.invokevirtual 49, 3) := by decide +kernel
theorem dX6_readStatement_195 : decode cX6_readStatement 195 = .ok (.ifCond .eq 7, 3) := by decide +kernel
theorem dX6_readStatement_198 : decode cX6_readStatement 198 = .ok (.iconst 1, 1) := by decide +kernel
theorem dX6_readStatement_199 : decode cX6_readStatement 199 = .ok (.goto 4, 3) := by decide +kernel
theorem dX6_readStatement_202 : decode cX6_readStatement 202 = .ok (.iconst 0, 1) := by decide +kernel
theorem dX6_readStatement_203 : decode cX6_readStatement 203 = .ok (.ireturn, 1) := by decide +kernel
theorem dX6_readStatement_204 : decode cX6_readStatement 204 = .ok (.aload_n 0, 1) := by decide +kernel
theorem dX6_readStatement_205 : decode cX6_readStatement 205 = .ok (.dup, 1) := by decide +kernel
theorem dX6_readStatement_206 : decode cX6_readStatement 206 = .ok (.getfield 26, 3) := by decide +kernel
theorem dX6_readStatement_209 : decode cX6_readStatement 209 = .ok (.iconst 1, 1) := by decide +kernel
theorem dX6_readStatement_210 : decode cX6_readStatement 210 = .ok (.iadd, 1) := by decide +kernel
theorem dX6_readStatement_211 : decode cX6_readStatement 211 = .ok (.putfield 26, 3) := by decide +kernel
theorem dX6_readStatement_214 : decode cX6_readStatement 214 = .ok (.aload_n 0, 1) := by decide +kernel
theorem dX6_readStatement_215 : decode cX6_readStatement 215 = .ok (.invokevirtual 40, 3) := by decide +kernel
theorem dX6_readStatement_218 : decode cX6_readStatement 218 = .ok (.ifCond .eq 23, 3) := by decide +kernel
theorem dX6_readStatement_221 : decode cX6_readStatement 221 = .ok (.aload_n 0, 1) := by decide +kernel
theorem dX6_readStatement_222 : decode cX6_readStatement 222 = .ok (.invokevirtual 53, 3) := by decide +kernel
theorem dX6_readStatement_225 : decode cX6_readStatement 225 = .ok (.ifCond .eq 16, 3) := by decide +kernel
theorem dX6_readStatement_228 : decode cX6_readStatement 228 = .ok (.aload_n 0, 1) := by decide +kernel
theorem dX6_readStatement_229 : decode cX6_readStatement 229 = .ok (.bipush 59, 2) := by decide +kernel
theorem dX6_readStatement_231 : decode cX6_readStatement 231 = .ok (.invokevirtual 49, 3) := by decide +kernel
theorem dX6_readStatement_234 : decode cX6_readStatement 234 = .ok (.ifCond .eq 7, 3) := by decide +kernel
theorem dX6_readStatement_237 : decode cX6_readStatement 237 = .ok (.iconst 1, 1) := by decide +kernel
theorem dX6_readStatement_238 : decode cX6_readStatement 238 = .ok (.goto 4, 3) := by decide +kernel
theorem dX6_readStatement_241 : decode cX6_readStatement 241 = .ok (.iconst 0, 1) := by decide +kernel
theorem dX6_readStatement_242 : decode cX6_readStatement 242 = .ok (.ireturn, 1) := by decide +kernel
theorem dX6_readStatement_243 : decode cX6_readStatement 243 = .ok (.aload_n 0, 1) := by decide +kernel
theorem dX6_readStatement_244 : decode cX6_readStatement 244 = .ok (.dup, 1) := by decide +kernel
theorem dX6_readStatement_245 : decode cX6_readStatement 245 = .ok (.getfield 26, 3) := by decide +kernel
theorem dX6_readStatement_248 : decode cX6_readStatement 248 = .ok (.iconst 1, 1) := by decide +kernel
theorem dX6_readStatement_249 : decode cX6_readStatement 249 = .ok (.iadd, 1) := by decide +kernel
theorem dX6_readStatement_250 : decode cX6_readStatement 250 = .ok (.putfield 26, 3) := by decide +kernel
theorem dX6_readStatement_253 : decode cX6_readStatement 253 = .ok (.aload_n 0, 1) := by decide +kernel
theorem dX6_readStatement_254 : decode cX6_readStatement 254 = .ok (.invokevirtual 53, 3) := by decide +kernel
theorem dX6_readStatement_257 : decode cX6_readStatement 257 = .ok (.ifCond .eq 23, 3) := by decide +kernel
theorem dX6_readStatement_260 : decode cX6_readStatement 260 = .ok (.aload_n 0, 1) := by decide +kernel
theorem dX6_readStatement_261 : decode cX6_readStatement 261 = .ok (.invokevirtual 59, 3) := by decide +kernel
theorem dX6_readStatement_264 : decode cX6_readStatement 264 = .ok (.ifCond .eq 16, 3) := by decide +kernel
theorem dX6_readStatement_267 : decode cX6_readStatement 267 = .ok (.aload_n 0, 1) := by decide +kernel
theorem dX6_readStatement_268 : decode cX6_readStatement 268 = .ok (.bipush 59, 2) := by decide +kernel
theorem dX6_readStatement_270 : decode cX6_readStatement 270 = .ok (.invokevirtual 49, 3) := by decide +kernel
theorem dX6_readStatement_273 : decode cX6_readStatement 273 = .ok (.ifCond .eq 7, 3) := by decide +kernel
theorem dX6_readStatement_276 : decode cX6_readStatement 276 = .ok (.iconst 1, 1) := by decide +kernel
theorem dX6_readStatement_277 : decode cX6_readStatement 277 = .ok (.goto 4, 3) := by decide +kernel
theorem dX6_readStatement_280 : decode cX6_readStatement 280 = .ok (.iconst 0, 1) := by decide +kernel
theorem dX6_readStatement_281 : decode cX6_readStatement 281 = .ok (.ireturn, 1) := by decide +kernel
theorem dX6_readStatement_282 : decode cX6_readStatement 282 = .ok (.iconst 0, 1) := by decide +kernel
theorem dX6_readStatement_283 : decode cX6_readStatement 283 = .ok (.ireturn, 1) := by decide +kernel
theorem dX6_readEntry_0 : decode cX6_readEntry 0 = .ok (.aload_n 0, 1) := by decide +kernel
theorem dX6_readEntry_1 : decode cX6_readEntry 1 = .ok (.getfield 18, 3) := by decide +kernel
theorem dX6_readEntry_4 : decode cX6_readEntry 4 = .ok (.invokevirtual 62, 3) := by decide +kernel
theorem dX6_readEntry_7 : decode cX6_readEntry 7 = .ok (.aload_n 0, 1) := by decide +kernel
theorem dX6_readEntry_8 : decode cX6_readEntry 8 = .ok (.invokevirtual 33, 3) := by decide +kernel
theorem dX6_readEntry_11 : decode cX6_readEntry 11 = .ok (.lookupswitch 193 #[(33, 173), (43, 135), (61, 49), (64, 112), (91, 72)], 49) := by decide +kernel
theorem dX6_readEntry_60 : decode cX6_readEntry 60 = .ok (.aload_n 0, 1) := by decide +kernel
theorem dX6_readEntry_61 : decode cX6_readEntry 61 = .ok (.dup, 1) := by decide +kernel
theorem dX6_readEntry_62 : decode cX6_readEntry 62 = .ok (.getfield 26, 3) := by decide +kernel
theorem dX6_readEntry_65 : decode cX6_readEntry 65 = .ok (.iconst 1, 1) := by decide +kernel
theorem dX6_readEntry_66 : decode cX6_readEntry 66 = .ok (.iadd, 1) := by decide +kernel
theorem dX6_readEntry_67 : decode cX6_readEntry 67 = .ok (.putfield 26, 3) := by decide +kernel
theorem dX6_readEntry_70 : decode cX6_readEntry 70 = .ok (.aload_n 0, 1) := by decide +kernel
theorem dX6_readEntry_71 : decode cX6_readEntry 71 = .ok (.getfield 18, 3) := by decide +kernel
theorem dX6_readEntry_74 : decode cX6_readEntry 74 = .ok (.iconst 0, 1) := by decide +kernel
theorem dX6_readEntry_75 : decode cX6_readEntry 75 = .ok (.putfield 65, 3) := by decide +kernel
theorem dX6_readEntry_78 : decode cX6_readEntry 78 = .ok (.aload_n 0, 1) := by decide +kernel
theorem dX6_readEntry_79 : decode cX6_readEntry 79 = .ok (.invokevirtual 68, 3) := by decide +kernel
theorem dX6_readEntry_82 : decode cX6_readEntry 82 = .ok (.ireturn, 1) := by decide +kernel
theorem dX6_readEntry_83 : decode cX6_readEntry 83 = .ok (.aload_n 0, 1) := by decide +kernel
theorem dX6_readEntry_84 : decode cX6_readEntry 84 = .ok (.dup, 1) := by decide +kernel
theorem dX6_readEntry_85 : decode cX6_readEntry 85 = .ok (.getfield 26, 3) := by decide +kernel
theorem dX6_readEntry_88 : decode cX6_readEntry 88 = .ok (.iconst 1, 1) := by decide +kernel
theorem dX6_readEntry_89 : decode cX6_readEntry 89 = .ok (.iadd, 1) := by decide +kernel
theorem dX6_readEntry_90 : decode cX6_readEntry 90 = .ok (.putfield 26, 3) := by decide +kernel
theorem dX6_readEntry_93 : decode cX6_readEntry 93 = .ok (.aload_n 0, 1) := by decide +kernel
theorem dX6_readEntry_94 : decode cX6_readEntry 94 = .ok (.getfield 18, 3) := by decide +kernel
theorem dX6_readEntry_97 : decode cX6_readEntry 97 = .ok (.iconst 1, 1) := by decide +kernel
theorem dX6_readEntry_98 : decode cX6_readEntry 98 = .ok (.putfield 65, 3) := by decide +kernel
theorem dX6_readEntry_101 : decode cX6_readEntry 101 = .ok (.aload_n 0, 1) := by decide +kernel
theorem dX6_readEntry_102 : decode cX6_readEntry 102 = .ok (.invokevirtual 71, 3) := by decide +kernel
theorem dX6_readEntry_105 : decode cX6_readEntry 105 = .ok (.ifCond .eq 16, 3) := by decide +kernel
theorem dX6_readEntry_108 : decode cX6_readEntry 108 = .ok (.aload_n 0, 1) := by decide +kernel
theorem dX6_readEntry_109 : decode cX6_readEntry 109 = .ok (.bipush 93, 2) := by decide +kernel
theorem dX6_readEntry_111 : decode cX6_readEntry 111 = .ok (.invokevirtual 49, 3) := by decide +kernel
theorem dX6_readEntry_114 : decode cX6_readEntry 114 = .ok (.ifCond .eq 7, 3) := by decide +kernel
theorem dX6_readEntry_117 : decode cX6_readEntry 117 = .ok (.iconst 1, 1) := by decide +kernel
theorem dX6_readEntry_118 : decode cX6_readEntry 118 = .ok (.goto 4, 3) := by decide +kernel
theorem dX6_readEntry_121 : decode cX6_readEntry 121 = .ok (.iconst 0, 1) := by decide +kernel
theorem dX6_readEntry_122 : decode cX6_readEntry 122 = .ok (.ireturn, 1) := by decide +kernel
theorem dX6_readEntry_123 : decode cX6_readEntry 123 = .ok (.aload_n 0, 1) := by decide +kernel
theorem dX6_readEntry_124 : decode cX6_readEntry 124 = .ok (.dup, 1) := by decide +kernel
theorem dX6_readEntry_125 : decode cX6_readEntry 125 = .ok (.getfield 26, 3) := by decide +kernel
theorem dX6_readEntry_128 : decode cX6_readEntry 128 = .ok (.iconst 1, 1) := by decide +kernel
theorem dX6_readEntry_129 : decode cX6_readEntry 129 = .ok (.iadd, 1) := by decide +kernel
theorem dX6_readEntry_130 : decode cX6_readEntry 130 = .ok (.putfield 26, 3) := by decide +kernel
theorem dX6_readEntry_133 : decode cX6_readEntry 133 = .ok (.aload_n 0, 1) := by decide +kernel
theorem dX6_readEntry_134 : decode cX6_readEntry 134 = .ok (.getfield 18, 3) := by decide +kernel
theorem dX6_readEntry_137 : decode cX6_readEntry 137 = .ok (.iconst 2, 1) := by decide +kernel
theorem dX6_readEntry_138 : decode cX6_readEntry 138 = .ok (.putfield 65, 3) := by decide +kernel
theorem dX6_readEntry_141 : decode cX6_readEntry 141 = .ok (.aload_n 0, 1) := by decide +kernel
theorem dX6_readEntry_142 : decode cX6_readEntry 142 = .ok (.invokevirtual 74, 3) := by decide +kernel
theorem dX6_readEntry_145 : decode cX6_readEntry 145 = .ok (.ireturn, 1) := by decide +kernel
theorem dX6_readEntry_146 : decode cX6_readEntry 146 = .ok (.aload_n 0, 1) := by decide +kernel
theorem dX6_readEntry_147 : decode cX6_readEntry 147 = .ok (.dup, 1) := by decide +kernel
theorem dX6_readEntry_148 : decode cX6_readEntry 148 = .ok (.getfield 26, 3) := by decide +kernel
theorem dX6_readEntry_151 : decode cX6_readEntry 151 = .ok (.iconst 1, 1) := by decide +kernel
theorem dX6_readEntry_152 : decode cX6_readEntry 152 = .ok (.iadd, 1) := by decide +kernel
theorem dX6_readEntry_153 : decode cX6_readEntry 153 = .ok (.putfield 26, 3) := by decide +kernel
theorem dX6_readEntry_156 : decode cX6_readEntry 156 = .ok (.aload_n 0, 1) := by decide +kernel
theorem dX6_readEntry_157 : decode cX6_readEntry 157 = .ok (.getfield 18, 3) := by decide +kernel
theorem dX6_readEntry_160 : decode cX6_readEntry 160 = .ok (.iconst 3, 1) := by decide +kernel
theorem dX6_readEntry_161 : decode cX6_readEntry 161 = .ok (.putfield 65, 3) := by decide +kernel
theorem dX6_readEntry_164 : decode cX6_readEntry 164 = .ok (.aload_n 0, 1) := by decide +kernel
theorem dX6_readEntry_165 : decode cX6_readEntry 165 = .ok (.invokevirtual 74, 3) := by decide +kernel
theorem dX6_readEntry_168 : decode cX6_readEntry 168 = .ok (.ifCond .eq 14, 3) := by decide +kernel
theorem dX6_readEntry_171 : decode cX6_readEntry 171 = .ok (.aload_n 0, 1) := by decide +kernel
theorem dX6_readEntry_172 : decode cX6_readEntry 172 = .ok (.invokevirtual 68, 3) := by decide +kernel
theorem dX6_readEntry_175 : decode cX6_readEntry 175 = .ok (.ifCond .eq 7, 3) := by decide +kernel
theorem dX6_readEntry_178 : decode cX6_readEntry 178 = .ok (.iconst 1, 1) := by decide +kernel
theorem dX6_readEntry_179 : decode cX6_readEntry 179 = .ok (.goto 4, 3) := by decide +kernel
theorem dX6_readEntry_182 : decode cX6_readEntry 182 = .ok (.iconst 0, 1) := by decide +kernel
theorem dX6_readEntry_183 : decode cX6_readEntry 183 = .ok (.ireturn, 1) := by decide +kernel
theorem dX6_readEntry_184 : decode cX6_readEntry 184 = .ok (.aload_n 0, 1) := by decide +kernel
theorem dX6_readEntry_185 : decode cX6_readEntry 185 = .ok (.dup, 1) := by decide +kernel
theorem dX6_readEntry_186 : decode cX6_readEntry 186 = .ok (.getfield 26, 3) := by decide +kernel
theorem dX6_readEntry_189 : decode cX6_readEntry 189 = .ok (.iconst 1, 1) := by decide +kernel
theorem dX6_readEntry_190 : decode cX6_readEntry 190 = .ok (.iadd, 1) := by decide +kernel
theorem dX6_readEntry_191 : decode cX6_readEntry 191 = .ok (.putfield 26, 3) := by decide +kernel
theorem dX6_readEntry_194 : decode cX6_readEntry 194 = .ok (.aload_n 0, 1) := by decide +kernel
theorem dX6_readEntry_195 : decode cX6_readEntry 195 = .ok (.getfield 18, 3) := by decide +kernel
theorem dX6_readEntry_198 : decode cX6_readEntry 198 = .ok (.iconst 4, 1) := by decide +kernel
theorem dX6_readEntry_199 : decode cX6_readEntry 199 = .ok (.putfield 65, 3) := by decide +kernel
theorem dX6_readEntry_202 : decode cX6_readEntry 202 = .ok (.iconst 1, 1) := by decide +kernel
theorem dX6_readEntry_203 : decode cX6_readEntry 203 = .ok (.ireturn, 1) := by decide +kernel
theorem dX6_readEntry_204 : decode cX6_readEntry 204 = .ok (.iconst 0, 1) := by decide +kernel
theorem dX6_readEntry_205 : decode cX6_readEntry 205 = .ok (.ireturn, 1) := by decide +kernel
theorem dX6_readItems_0 : decode cX6_readItems 0 = .ok (.iconst 0, 1) := by decide +kernel
theorem dX6_readItems_1 : decode cX6_readItems 1 = .ok (.istore_n 1, 1) := by decide +kernel
theorem dX6_readItems_2 : decode cX6_readItems 2 = .ok (.iload_n 1, 1) := by decide +kernel
theorem dX6_readItems_3 : decode cX6_readItems 3 = .ok (.bipush 96, 2) := by decide +kernel
theorem dX6_readItems_5 : decode cX6_readItems 5 = .ok (.if_icmp .ge 40, 3) := by decide +kernel
theorem dX6_readItems_8 : decode cX6_readItems 8 = .ok (.aload_n 0, 1) := by decide +kernel
theorem dX6_readItems_9 : decode cX6_readItems 9 = .ok (.invokevirtual 77, 3) := by decide +kernel
theorem dX6_readItems_12 : decode cX6_readItems 12 = .ok (.istore_n 2, 1) := by decide +kernel
theorem dX6_readItems_13 : decode cX6_readItems 13 = .ok (.iload_n 2, 1) := by decide +kernel
theorem dX6_readItems_14 : decode cX6_readItems 14 = .ok (.ifCond .ge 5, 3) := by decide +kernel
theorem dX6_readItems_17 : decode cX6_readItems 17 = .ok (.iconst 1, 1) := by decide +kernel
theorem dX6_readItems_18 : decode cX6_readItems 18 = .ok (.ireturn, 1) := by decide +kernel
theorem dX6_readItems_19 : decode cX6_readItems 19 = .ok (.aload_n 0, 1) := by decide +kernel
theorem dX6_readItems_20 : decode cX6_readItems 20 = .ok (.invokevirtual 80, 3) := by decide +kernel
theorem dX6_readItems_23 : decode cX6_readItems 23 = .ok (.istore_n 3, 1) := by decide +kernel
theorem dX6_readItems_24 : decode cX6_readItems 24 = .ok (.iload_n 3, 1) := by decide +kernel
theorem dX6_readItems_25 : decode cX6_readItems 25 = .ok (.ifCond .ge 5, 3) := by decide +kernel
theorem dX6_readItems_28 : decode cX6_readItems 28 = .ok (.iconst 0, 1) := by decide +kernel
theorem dX6_readItems_29 : decode cX6_readItems 29 = .ok (.ireturn, 1) := by decide +kernel
theorem dX6_readItems_30 : decode cX6_readItems 30 = .ok (.aload_n 0, 1) := by decide +kernel
theorem dX6_readItems_31 : decode cX6_readItems 31 = .ok (.getfield 18, 3) := by decide +kernel
theorem dX6_readItems_34 : decode cX6_readItems 34 = .ok (.iload_n 2, 1) := by decide +kernel
theorem dX6_readItems_35 : decode cX6_readItems 35 = .ok (.iload_n 3, 1) := by decide +kernel
theorem dX6_readItems_36 : decode cX6_readItems 36 = .ok (.invokevirtual 83, 3) := by decide +kernel
theorem dX6_readItems_39 : decode cX6_readItems 39 = .ok (.iinc 1 1, 3) := by decide +kernel
theorem dX6_readItems_42 : decode cX6_readItems 42 = .ok (.goto (-40), 3) := by decide +kernel
theorem dX6_readItems_45 : decode cX6_readItems 45 = .ok (.iconst 1, 1) := by decide +kernel
theorem dX6_readItems_46 : decode cX6_readItems 46 = .ok (.ireturn, 1) := by decide +kernel
theorem dX6_readLayer_0 : decode cX6_readLayer 0 = .ok (.aload_n 0, 1) := by decide +kernel
theorem dX6_readLayer_1 : decode cX6_readLayer 1 = .ok (.getfield 18, 3) := by decide +kernel
theorem dX6_readLayer_4 : decode cX6_readLayer 4 = .ok (.aload_n 0, 1) := by decide +kernel
theorem dX6_readLayer_5 : decode cX6_readLayer 5 = .ok (.invokevirtual 77, 3) := by decide +kernel
theorem dX6_readLayer_8 : decode cX6_readLayer 8 = .ok (.putfield 87, 3) := by decide +kernel
theorem dX6_readLayer_11 : decode cX6_readLayer 11 = .ok (.aload_n 0, 1) := by decide +kernel
theorem dX6_readLayer_12 : decode cX6_readLayer 12 = .ok (.getfield 18, 3) := by decide +kernel
theorem dX6_readLayer_15 : decode cX6_readLayer 15 = .ok (.getfield 87, 3) := by decide +kernel
theorem dX6_readLayer_18 : decode cX6_readLayer 18 = .ok (.ifCond .lt 7, 3) := by decide +kernel
theorem dX6_readLayer_21 : decode cX6_readLayer 21 = .ok (.iconst 1, 1) := by decide +kernel
theorem dX6_readLayer_22 : decode cX6_readLayer 22 = .ok (.goto 4, 3) := by decide +kernel
theorem dX6_readLayer_25 : decode cX6_readLayer 25 = .ok (.iconst 0, 1) := by decide +kernel
theorem dX6_readLayer_26 : decode cX6_readLayer 26 = .ok (.ireturn, 1) := by decide +kernel
theorem dX6_readKind_0 : decode cX6_readKind 0 = .ok (.aload_n 0, 1) := by decide +kernel
theorem dX6_readKind_1 : decode cX6_readKind 1 = .ok (.getfield 18, 3) := by decide +kernel
theorem dX6_readKind_4 : decode cX6_readKind 4 = .ok (.aload_n 0, 1) := by decide +kernel
theorem dX6_readKind_5 : decode cX6_readKind 5 = .ok (.invokevirtual 77, 3) := by decide +kernel
theorem dX6_readKind_8 : decode cX6_readKind 8 = .ok (.putfield 90, 3) := by decide +kernel
theorem dX6_readKind_11 : decode cX6_readKind 11 = .ok (.aload_n 0, 1) := by decide +kernel
theorem dX6_readKind_12 : decode cX6_readKind 12 = .ok (.getfield 18, 3) := by decide +kernel
theorem dX6_readKind_15 : decode cX6_readKind 15 = .ok (.getfield 90, 3) := by decide +kernel
theorem dX6_readKind_18 : decode cX6_readKind 18 = .ok (.ifCond .lt 7, 3) := by decide +kernel
theorem dX6_readKind_21 : decode cX6_readKind 21 = .ok (.iconst 1, 1) := by decide +kernel
theorem dX6_readKind_22 : decode cX6_readKind 22 = .ok (.goto 4, 3) := by decide +kernel
theorem dX6_readKind_25 : decode cX6_readKind 25 = .ok (.iconst 0, 1) := by decide +kernel
theorem dX6_readKind_26 : decode cX6_readKind 26 = .ok (.ireturn, 1) := by decide +kernel
theorem dX6_readFigure_0 : decode cX6_readFigure 0 = .ok (.aload_n 0, 1) := by decide +kernel
theorem dX6_readFigure_1 : decode cX6_readFigure 1 = .ok (.getfield 18, 3) := by decide +kernel
theorem dX6_readFigure_4 : decode cX6_readFigure 4 = .ok (.aload_n 0, 1) := by decide +kernel
theorem dX6_readFigure_5 : decode cX6_readFigure 5 = .ok (.invokevirtual 77, 3) := by decide +kernel
theorem dX6_readFigure_8 : decode cX6_readFigure 8 = .ok (.putfield 93, 3) := by decide +kernel
theorem dX6_readFigure_11 : decode cX6_readFigure 11 = .ok (.aload_n 0, 1) := by decide +kernel
theorem dX6_readFigure_12 : decode cX6_readFigure 12 = .ok (.getfield 18, 3) := by decide +kernel
theorem dX6_readFigure_15 : decode cX6_readFigure 15 = .ok (.getfield 93, 3) := by decide +kernel
theorem dX6_readFigure_18 : decode cX6_readFigure 18 = .ok (.ifCond .lt 7, 3) := by decide +kernel
theorem dX6_readFigure_21 : decode cX6_readFigure 21 = .ok (.iconst 1, 1) := by decide +kernel
theorem dX6_readFigure_22 : decode cX6_readFigure 22 = .ok (.goto 4, 3) := by decide +kernel
theorem dX6_readFigure_25 : decode cX6_readFigure 25 = .ok (.iconst 0, 1) := by decide +kernel
theorem dX6_readFigure_26 : decode cX6_readFigure 26 = .ok (.ireturn, 1) := by decide +kernel
theorem dX6_readManner_0 : decode cX6_readManner 0 = .ok (.aload_n 0, 1) := by decide +kernel
theorem dX6_readManner_1 : decode cX6_readManner 1 = .ok (.getfield 18, 3) := by decide +kernel
theorem dX6_readManner_4 : decode cX6_readManner 4 = .ok (.aload_n 0, 1) := by decide +kernel
theorem dX6_readManner_5 : decode cX6_readManner 5 = .ok (.invokevirtual 77, 3) := by decide +kernel
theorem dX6_readManner_8 : decode cX6_readManner 8 = .ok (.putfield 96, 3) := by decide +kernel
theorem dX6_readManner_11 : decode cX6_readManner 11 = .ok (.aload_n 0, 1) := by decide +kernel
theorem dX6_readManner_12 : decode cX6_readManner 12 = .ok (.getfield 18, 3) := by decide +kernel
theorem dX6_readManner_15 : decode cX6_readManner 15 = .ok (.getfield 96, 3) := by decide +kernel
theorem dX6_readManner_18 : decode cX6_readManner 18 = .ok (.ifCond .lt 7, 3) := by decide +kernel
theorem dX6_readManner_21 : decode cX6_readManner 21 = .ok (.iconst 1, 1) := by decide +kernel
theorem dX6_readManner_22 : decode cX6_readManner 22 = .ok (.goto 4, 3) := by decide +kernel
theorem dX6_readManner_25 : decode cX6_readManner 25 = .ok (.iconst 0, 1) := by decide +kernel
theorem dX6_readManner_26 : decode cX6_readManner 26 = .ok (.ireturn, 1) := by decide +kernel
theorem dX6_readKey_0 : decode cX6_readKey 0 = .ok (.aload_n 0, 1) := by decide +kernel
theorem dX6_readKey_1 : decode cX6_readKey 1 = .ok (.getfield 18, 3) := by decide +kernel
theorem dX6_readKey_4 : decode cX6_readKey 4 = .ok (.aload_n 0, 1) := by decide +kernel
theorem dX6_readKey_5 : decode cX6_readKey 5 = .ok (.invokevirtual 99, 3) := by decide +kernel
theorem dX6_readKey_8 : decode cX6_readKey 8 = .ok (.putfield 102, 3) := by decide +kernel
theorem dX6_readKey_11 : decode cX6_readKey 11 = .ok (.aload_n 0, 1) := by decide +kernel
theorem dX6_readKey_12 : decode cX6_readKey 12 = .ok (.getfield 18, 3) := by decide +kernel
theorem dX6_readKey_15 : decode cX6_readKey 15 = .ok (.getfield 102, 3) := by decide +kernel
theorem dX6_readKey_18 : decode cX6_readKey 18 = .ok (.ifCond .lt 7, 3) := by decide +kernel
theorem dX6_readKey_21 : decode cX6_readKey 21 = .ok (.iconst 1, 1) := by decide +kernel
theorem dX6_readKey_22 : decode cX6_readKey 22 = .ok (.goto 4, 3) := by decide +kernel
theorem dX6_readKey_25 : decode cX6_readKey 25 = .ok (.iconst 0, 1) := by decide +kernel
theorem dX6_readKey_26 : decode cX6_readKey 26 = .ok (.ireturn, 1) := by decide +kernel
theorem dX6_readOther_0 : decode cX6_readOther 0 = .ok (.aload_n 0, 1) := by decide +kernel
theorem dX6_readOther_1 : decode cX6_readOther 1 = .ok (.getfield 18, 3) := by decide +kernel
theorem dX6_readOther_4 : decode cX6_readOther 4 = .ok (.aload_n 0, 1) := by decide +kernel
theorem dX6_readOther_5 : decode cX6_readOther 5 = .ok (.invokevirtual 99, 3) := by decide +kernel
theorem dX6_readOther_8 : decode cX6_readOther 8 = .ok (.putfield 105, 3) := by decide +kernel
theorem dX6_readOther_11 : decode cX6_readOther 11 = .ok (.aload_n 0, 1) := by decide +kernel
theorem dX6_readOther_12 : decode cX6_readOther 12 = .ok (.getfield 18, 3) := by decide +kernel
theorem dX6_readOther_15 : decode cX6_readOther 15 = .ok (.getfield 105, 3) := by decide +kernel
theorem dX6_readOther_18 : decode cX6_readOther 18 = .ok (.ifCond .lt 7, 3) := by decide +kernel
theorem dX6_readOther_21 : decode cX6_readOther 21 = .ok (.iconst 1, 1) := by decide +kernel
theorem dX6_readOther_22 : decode cX6_readOther 22 = .ok (.goto 4, 3) := by decide +kernel
theorem dX6_readOther_25 : decode cX6_readOther 25 = .ok (.iconst 0, 1) := by decide +kernel
theorem dX6_readOther_26 : decode cX6_readOther 26 = .ok (.ireturn, 1) := by decide +kernel
theorem dX6_readNumber_0 : decode cX6_readNumber 0 = .ok (.aload_n 0, 1) := by decide +kernel
theorem dX6_readNumber_1 : decode cX6_readNumber 1 = .ok (.getfield 18, 3) := by decide +kernel
theorem dX6_readNumber_4 : decode cX6_readNumber 4 = .ok (.aload_n 0, 1) := by decide +kernel
theorem dX6_readNumber_5 : decode cX6_readNumber 5 = .ok (.invokevirtual 80, 3) := by decide +kernel
theorem dX6_readNumber_8 : decode cX6_readNumber 8 = .ok (.putfield 108, 3) := by decide +kernel
theorem dX6_readNumber_11 : decode cX6_readNumber 11 = .ok (.aload_n 0, 1) := by decide +kernel
theorem dX6_readNumber_12 : decode cX6_readNumber 12 = .ok (.getfield 18, 3) := by decide +kernel
theorem dX6_readNumber_15 : decode cX6_readNumber 15 = .ok (.getfield 108, 3) := by decide +kernel
theorem dX6_readNumber_18 : decode cX6_readNumber 18 = .ok (.ifCond .lt 7, 3) := by decide +kernel
theorem dX6_readNumber_21 : decode cX6_readNumber 21 = .ok (.iconst 1, 1) := by decide +kernel
theorem dX6_readNumber_22 : decode cX6_readNumber 22 = .ok (.goto 4, 3) := by decide +kernel
theorem dX6_readNumber_25 : decode cX6_readNumber 25 = .ok (.iconst 0, 1) := by decide +kernel
theorem dX6_readNumber_26 : decode cX6_readNumber 26 = .ok (.ireturn, 1) := by decide +kernel
theorem dX6_readSign_0 : decode cX6_readSign 0 = .ok (.aload_n 0, 1) := by decide +kernel
theorem dX6_readSign_1 : decode cX6_readSign 1 = .ok (.invokevirtual 33, 3) := by decide +kernel
theorem dX6_readSign_4 : decode cX6_readSign 4 = .ok (.iload_n 1, 1) := by decide +kernel
theorem dX6_readSign_5 : decode cX6_readSign 5 = .ok (.if_icmp .eq 5, 3) := by decide +kernel
theorem dX6_readSign_8 : decode cX6_readSign 8 = .ok (.iconst 0, 1) := by decide +kernel
theorem dX6_readSign_9 : decode cX6_readSign 9 = .ok (.ireturn, 1) := by decide +kernel
theorem dX6_readSign_10 : decode cX6_readSign 10 = .ok (.aload_n 0, 1) := by decide +kernel
theorem dX6_readSign_11 : decode cX6_readSign 11 = .ok (.dup, 1) := by decide +kernel
theorem dX6_readSign_12 : decode cX6_readSign 12 = .ok (.getfield 26, 3) := by decide +kernel
theorem dX6_readSign_15 : decode cX6_readSign 15 = .ok (.iconst 1, 1) := by decide +kernel
theorem dX6_readSign_16 : decode cX6_readSign 16 = .ok (.iadd, 1) := by decide +kernel
theorem dX6_readSign_17 : decode cX6_readSign 17 = .ok (.putfield 26, 3) := by decide +kernel
theorem dX6_readSign_20 : decode cX6_readSign 20 = .ok (.iconst 1, 1) := by decide +kernel
theorem dX6_readSign_21 : decode cX6_readSign 21 = .ok (.ireturn, 1) := by decide +kernel
theorem dX6_readPair_0 : decode cX6_readPair 0 = .ok (.aload_n 0, 1) := by decide +kernel
theorem dX6_readPair_1 : decode cX6_readPair 1 = .ok (.invokevirtual 77, 3) := by decide +kernel
theorem dX6_readPair_4 : decode cX6_readPair 4 = .ok (.istore_n 1, 1) := by decide +kernel
theorem dX6_readPair_5 : decode cX6_readPair 5 = .ok (.iload_n 1, 1) := by decide +kernel
theorem dX6_readPair_6 : decode cX6_readPair 6 = .ok (.ifCond .ge 5, 3) := by decide +kernel
theorem dX6_readPair_9 : decode cX6_readPair 9 = .ok (.iconst (-1), 1) := by decide +kernel
theorem dX6_readPair_10 : decode cX6_readPair 10 = .ok (.ireturn, 1) := by decide +kernel
theorem dX6_readPair_11 : decode cX6_readPair 11 = .ok (.aload_n 0, 1) := by decide +kernel
theorem dX6_readPair_12 : decode cX6_readPair 12 = .ok (.invokevirtual 77, 3) := by decide +kernel
theorem dX6_readPair_15 : decode cX6_readPair 15 = .ok (.istore_n 2, 1) := by decide +kernel
theorem dX6_readPair_16 : decode cX6_readPair 16 = .ok (.iload_n 2, 1) := by decide +kernel
theorem dX6_readPair_17 : decode cX6_readPair 17 = .ok (.ifCond .ge 7, 3) := by decide +kernel
theorem dX6_readPair_20 : decode cX6_readPair 20 = .ok (.iconst (-1), 1) := by decide +kernel
theorem dX6_readPair_21 : decode cX6_readPair 21 = .ok (.goto 9, 3) := by decide +kernel
theorem dX6_readPair_24 : decode cX6_readPair 24 = .ok (.bipush 10, 2) := by decide +kernel
theorem dX6_readPair_26 : decode cX6_readPair 26 = .ok (.iload_n 1, 1) := by decide +kernel
theorem dX6_readPair_27 : decode cX6_readPair 27 = .ok (.imul, 1) := by decide +kernel
theorem dX6_readPair_28 : decode cX6_readPair 28 = .ok (.iload_n 2, 1) := by decide +kernel
theorem dX6_readPair_29 : decode cX6_readPair 29 = .ok (.iadd, 1) := by decide +kernel
theorem dX6_readPair_30 : decode cX6_readPair 30 = .ok (.ireturn, 1) := by decide +kernel
theorem dX6_readDigit_0 : decode cX6_readDigit 0 = .ok (.aload_n 0, 1) := by decide +kernel
theorem dX6_readDigit_1 : decode cX6_readDigit 1 = .ok (.invokevirtual 33, 3) := by decide +kernel
theorem dX6_readDigit_4 : decode cX6_readDigit 4 = .ok (.bipush 48, 2) := by decide +kernel
theorem dX6_readDigit_6 : decode cX6_readDigit 6 = .ok (.isub, 1) := by decide +kernel
theorem dX6_readDigit_7 : decode cX6_readDigit 7 = .ok (.istore_n 1, 1) := by decide +kernel
theorem dX6_readDigit_8 : decode cX6_readDigit 8 = .ok (.iload_n 1, 1) := by decide +kernel
theorem dX6_readDigit_9 : decode cX6_readDigit 9 = .ok (.ifCond .lt 9, 3) := by decide +kernel
theorem dX6_readDigit_12 : decode cX6_readDigit 12 = .ok (.iload_n 1, 1) := by decide +kernel
theorem dX6_readDigit_13 : decode cX6_readDigit 13 = .ok (.bipush 9, 2) := by decide +kernel
theorem dX6_readDigit_15 : decode cX6_readDigit 15 = .ok (.if_icmp .le 5, 3) := by decide +kernel
theorem dX6_readDigit_18 : decode cX6_readDigit 18 = .ok (.iconst (-1), 1) := by decide +kernel
theorem dX6_readDigit_19 : decode cX6_readDigit 19 = .ok (.ireturn, 1) := by decide +kernel
theorem dX6_readDigit_20 : decode cX6_readDigit 20 = .ok (.aload_n 0, 1) := by decide +kernel
theorem dX6_readDigit_21 : decode cX6_readDigit 21 = .ok (.dup, 1) := by decide +kernel
theorem dX6_readDigit_22 : decode cX6_readDigit 22 = .ok (.getfield 26, 3) := by decide +kernel
theorem dX6_readDigit_25 : decode cX6_readDigit 25 = .ok (.iconst 1, 1) := by decide +kernel
theorem dX6_readDigit_26 : decode cX6_readDigit 26 = .ok (.iadd, 1) := by decide +kernel
theorem dX6_readDigit_27 : decode cX6_readDigit 27 = .ok (.putfield 26, 3) := by decide +kernel
theorem dX6_readDigit_30 : decode cX6_readDigit 30 = .ok (.iload_n 1, 1) := by decide +kernel
theorem dX6_readDigit_31 : decode cX6_readDigit 31 = .ok (.ireturn, 1) := by decide +kernel
theorem dX6_readKeyLetter_0 : decode cX6_readKeyLetter 0 = .ok (.aload_n 0, 1) := by decide +kernel
theorem dX6_readKeyLetter_1 : decode cX6_readKeyLetter 1 = .ok (.invokevirtual 33, 3) := by decide +kernel
theorem dX6_readKeyLetter_4 : decode cX6_readKeyLetter 4 = .ok (.bipush 97, 2) := by decide +kernel
theorem dX6_readKeyLetter_6 : decode cX6_readKeyLetter 6 = .ok (.isub, 1) := by decide +kernel
theorem dX6_readKeyLetter_7 : decode cX6_readKeyLetter 7 = .ok (.istore_n 1, 1) := by decide +kernel
theorem dX6_readKeyLetter_8 : decode cX6_readKeyLetter 8 = .ok (.iload_n 1, 1) := by decide +kernel
theorem dX6_readKeyLetter_9 : decode cX6_readKeyLetter 9 = .ok (.invokestatic 111, 3) := by decide +kernel
theorem dX6_readKeyLetter_12 : decode cX6_readKeyLetter 12 = .ok (.ifCond .eq 5, 3) := by decide +kernel
theorem dX6_readKeyLetter_15 : decode cX6_readKeyLetter 15 = .ok (.iconst (-1), 1) := by decide +kernel
theorem dX6_readKeyLetter_16 : decode cX6_readKeyLetter 16 = .ok (.ireturn, 1) := by decide +kernel
theorem dX6_readKeyLetter_17 : decode cX6_readKeyLetter 17 = .ok (.aload_n 0, 1) := by decide +kernel
theorem dX6_readKeyLetter_18 : decode cX6_readKeyLetter 18 = .ok (.dup, 1) := by decide +kernel
theorem dX6_readKeyLetter_19 : decode cX6_readKeyLetter 19 = .ok (.getfield 26, 3) := by decide +kernel
theorem dX6_readKeyLetter_22 : decode cX6_readKeyLetter 22 = .ok (.iconst 1, 1) := by decide +kernel
theorem dX6_readKeyLetter_23 : decode cX6_readKeyLetter 23 = .ok (.iadd, 1) := by decide +kernel
theorem dX6_readKeyLetter_24 : decode cX6_readKeyLetter 24 = .ok (.putfield 26, 3) := by decide +kernel
theorem dX6_readKeyLetter_27 : decode cX6_readKeyLetter 27 = .ok (.iload_n 1, 1) := by decide +kernel
theorem dX6_readKeyLetter_28 : decode cX6_readKeyLetter 28 = .ok (.ireturn, 1) := by decide +kernel
theorem dX6_letterHere_0 : decode cX6_letterHere 0 = .ok (.aload_n 0, 1) := by decide +kernel
theorem dX6_letterHere_1 : decode cX6_letterHere 1 = .ok (.getfield 26, 3) := by decide +kernel
theorem dX6_letterHere_4 : decode cX6_letterHere 4 = .ok (.ifCond .lt 35, 3) := by decide +kernel
theorem dX6_letterHere_7 : decode cX6_letterHere 7 = .ok (.aload_n 0, 1) := by decide +kernel
theorem dX6_letterHere_8 : decode cX6_letterHere 8 = .ok (.getfield 26, 3) := by decide +kernel
theorem dX6_letterHere_11 : decode cX6_letterHere 11 = .ok (.aload_n 0, 1) := by decide +kernel
theorem dX6_letterHere_12 : decode cX6_letterHere 12 = .ok (.getfield 22, 3) := by decide +kernel
theorem dX6_letterHere_15 : decode cX6_letterHere 15 = .ok (.if_icmp .ge 24, 3) := by decide +kernel
theorem dX6_letterHere_18 : decode cX6_letterHere 18 = .ok (.aload_n 0, 1) := by decide +kernel
theorem dX6_letterHere_19 : decode cX6_letterHere 19 = .ok (.getfield 26, 3) := by decide +kernel
theorem dX6_letterHere_22 : decode cX6_letterHere 22 = .ok (.bipush 96, 2) := by decide +kernel
theorem dX6_letterHere_24 : decode cX6_letterHere 24 = .ok (.if_icmp .ge 15, 3) := by decide +kernel
theorem dX6_letterHere_27 : decode cX6_letterHere 27 = .ok (.aload_n 0, 1) := by decide +kernel
theorem dX6_letterHere_28 : decode cX6_letterHere 28 = .ok (.getfield 9, 3) := by decide +kernel
theorem dX6_letterHere_31 : decode cX6_letterHere 31 = .ok (.aload_n 0, 1) := by decide +kernel
theorem dX6_letterHere_32 : decode cX6_letterHere 32 = .ok (.getfield 26, 3) := by decide +kernel
theorem dX6_letterHere_35 : decode cX6_letterHere 35 = .ok (.iaload, 1) := by decide +kernel
theorem dX6_letterHere_36 : decode cX6_letterHere 36 = .ok (.goto 4, 3) := by decide +kernel
theorem dX6_letterHere_39 : decode cX6_letterHere 39 = .ok (.iconst (-1), 1) := by decide +kernel
theorem dX6_letterHere_40 : decode cX6_letterHere 40 = .ok (.ireturn, 1) := by decide +kernel
theorem dX7_init_0 : decode cX7_init 0 = .ok (.aload_n 0, 1) := by decide +kernel
theorem dX7_init_1 : decode cX7_init 1 = .ok (.invokespecial 1, 3) := by decide +kernel
theorem dX7_init_4 : decode cX7_init 4 = .ok (.aload_n 0, 1) := by decide +kernel
theorem dX7_init_5 : decode cX7_init 5 = .ok (.new 7, 3) := by decide +kernel
theorem dX7_init_8 : decode cX7_init 8 = .ok (.dup, 1) := by decide +kernel
theorem dX7_init_9 : decode cX7_init 9 = .ok (.invokespecial 9, 3) := by decide +kernel
theorem dX7_init_12 : decode cX7_init 12 = .ok (.putfield 10, 3) := by decide +kernel
theorem dX7_init_15 : decode cX7_init 15 = .ok (.aload_n 0, 1) := by decide +kernel
theorem dX7_init_16 : decode cX7_init 16 = .ok (.new 7, 3) := by decide +kernel
theorem dX7_init_19 : decode cX7_init 19 = .ok (.dup, 1) := by decide +kernel
theorem dX7_init_20 : decode cX7_init 20 = .ok (.invokespecial 9, 3) := by decide +kernel
theorem dX7_init_23 : decode cX7_init 23 = .ok (.putfield 16, 3) := by decide +kernel
theorem dX7_init_26 : decode cX7_init 26 = .ok (.aload_n 0, 1) := by decide +kernel
theorem dX7_init_27 : decode cX7_init 27 = .ok (.new 7, 3) := by decide +kernel
theorem dX7_init_30 : decode cX7_init 30 = .ok (.dup, 1) := by decide +kernel
theorem dX7_init_31 : decode cX7_init 31 = .ok (.invokespecial 9, 3) := by decide +kernel
theorem dX7_init_34 : decode cX7_init 34 = .ok (.putfield 19, 3) := by decide +kernel
theorem dX7_init_37 : decode cX7_init 37 = .ok (.aload_n 0, 1) := by decide +kernel
theorem dX7_init_38 : decode cX7_init 38 = .ok (.new 22, 3) := by decide +kernel
theorem dX7_init_41 : decode cX7_init 41 = .ok (.dup, 1) := by decide +kernel
theorem dX7_init_42 : decode cX7_init 42 = .ok (.invokespecial 24, 3) := by decide +kernel
theorem dX7_init_45 : decode cX7_init 45 = .ok (.putfield 25, 3) := by decide +kernel
theorem dX7_init_48 : decode cX7_init 48 = .ok (.aload_n 0, 1) := by decide +kernel
theorem dX7_init_49 : decode cX7_init 49 = .ok (.new 29, 3) := by decide +kernel
theorem dX7_init_52 : decode cX7_init 52 = .ok (.dup, 1) := by decide +kernel
theorem dX7_init_53 : decode cX7_init 53 = .ok (.invokespecial 31, 3) := by decide +kernel
theorem dX7_init_56 : decode cX7_init 56 = .ok (.putfield 32, 3) := by decide +kernel
theorem dX7_init_59 : decode cX7_init 59 = .ok (.aload_n 0, 1) := by decide +kernel
theorem dX7_init_60 : decode cX7_init 60 = .ok (.new 36, 3) := by decide +kernel
theorem dX7_init_63 : decode cX7_init 63 = .ok (.dup, 1) := by decide +kernel
theorem dX7_init_64 : decode cX7_init 64 = .ok (.invokespecial 38, 3) := by decide +kernel
theorem dX7_init_67 : decode cX7_init 67 = .ok (.putfield 39, 3) := by decide +kernel
theorem dX7_init_70 : decode cX7_init 70 = .ok (.aload_n 0, 1) := by decide +kernel
theorem dX7_init_71 : decode cX7_init 71 = .ok (.new 43, 3) := by decide +kernel
theorem dX7_init_74 : decode cX7_init 74 = .ok (.dup, 1) := by decide +kernel
theorem dX7_init_75 : decode cX7_init 75 = .ok (.invokespecial 45, 3) := by decide +kernel
theorem dX7_init_78 : decode cX7_init 78 = .ok (.putfield 46, 3) := by decide +kernel
theorem dX7_init_81 : decode cX7_init 81 = .ok (.aload_n 0, 1) := by decide +kernel
theorem dX7_init_82 : decode cX7_init 82 = .ok (.bipush 8, 2) := by decide +kernel
theorem dX7_init_84 : decode cX7_init 84 = .ok (.anewarray 50, 3) := by decide +kernel
theorem dX7_init_87 : decode cX7_init 87 = .ok (.putfield 52, 3) := by decide +kernel
theorem dX7_init_90 : decode cX7_init 90 = .ok (.aload_n 0, 1) := by decide +kernel
theorem dX7_init_91 : decode cX7_init 91 = .ok (.bipush 7, 2) := by decide +kernel
theorem dX7_init_93 : decode cX7_init 93 = .ok (.newarray .int, 2) := by decide +kernel
theorem dX7_init_95 : decode cX7_init 95 = .ok (.putfield 56, 3) := by decide +kernel
theorem dX7_init_98 : decode cX7_init 98 = .ok (.iconst 0, 1) := by decide +kernel
theorem dX7_init_99 : decode cX7_init 99 = .ok (.istore_n 1, 1) := by decide +kernel
theorem dX7_init_100 : decode cX7_init 100 = .ok (.iload_n 1, 1) := by decide +kernel
theorem dX7_init_101 : decode cX7_init 101 = .ok (.bipush 8, 2) := by decide +kernel
theorem dX7_init_103 : decode cX7_init 103 = .ok (.if_icmp .ge 22, 3) := by decide +kernel
theorem dX7_init_106 : decode cX7_init 106 = .ok (.aload_n 0, 1) := by decide +kernel
theorem dX7_init_107 : decode cX7_init 107 = .ok (.getfield 52, 3) := by decide +kernel
theorem dX7_init_110 : decode cX7_init 110 = .ok (.iload_n 1, 1) := by decide +kernel
theorem dX7_init_111 : decode cX7_init 111 = .ok (.new 50, 3) := by decide +kernel
theorem dX7_init_114 : decode cX7_init 114 = .ok (.dup, 1) := by decide +kernel
theorem dX7_init_115 : decode cX7_init 115 = .ok (.invokespecial 60, 3) := by decide +kernel
theorem dX7_init_118 : decode cX7_init 118 = .ok (.aastore, 1) := by decide +kernel
theorem dX7_init_119 : decode cX7_init 119 = .ok (.iinc 1 1, 3) := by decide +kernel
theorem dX7_init_122 : decode cX7_init 122 = .ok (.goto (-22), 3) := by decide +kernel
theorem dX7_init_125 : decode cX7_init 125 = .ok (.return_, 1) := by decide +kernel
theorem dX7_letter_0 : decode cX7_letter 0 = .ok (.iload_n 1, 1) := by decide +kernel
theorem dX7_letter_1 : decode cX7_letter 1 = .ok (.ifCond .ge 10, 3) := by decide +kernel
theorem dX7_letter_4 : decode cX7_letter 4 = .ok (.aload_n 0, 1) := by decide +kernel
theorem dX7_letter_5 : decode cX7_letter 5 = .ok (.bipush (-4), 2) := by decide +kernel
theorem dX7_letter_7 : decode cX7_letter 7 = .ok (.invokevirtual 61, 3) := by decide +kernel
theorem dX7_letter_10 : decode cX7_letter 10 = .ok (.ireturn, 1) := by decide +kernel
theorem dX7_letter_11 : decode cX7_letter 11 = .ok (.iload_n 1, 1) := by decide +kernel
theorem dX7_letter_12 : decode cX7_letter 12 = .ok (.sipush 255, 3) := by decide +kernel
theorem dX7_letter_15 : decode cX7_letter 15 = .ok (.if_icmp .gt 15, 3) := by decide +kernel
theorem dX7_letter_18 : decode cX7_letter 18 = .ok (.aload_n 0, 1) := by decide +kernel
theorem dX7_letter_19 : decode cX7_letter 19 = .ok (.getfield 32, 3) := by decide +kernel
theorem dX7_letter_22 : decode cX7_letter 22 = .ok (.getfield 65, 3) := by decide +kernel
theorem dX7_letter_25 : decode cX7_letter 25 = .ok (.bipush 96, 2) := by decide +kernel
theorem dX7_letter_27 : decode cX7_letter 27 = .ok (.if_icmp .lt 10, 3) := by decide +kernel
theorem dX7_letter_30 : decode cX7_letter 30 = .ok (.aload_n 0, 1) := by decide +kernel
theorem dX7_letter_31 : decode cX7_letter 31 = .ok (.bipush (-6), 2) := by decide +kernel
theorem dX7_letter_33 : decode cX7_letter 33 = .ok (.invokevirtual 61, 3) := by decide +kernel
theorem dX7_letter_36 : decode cX7_letter 36 = .ok (.ireturn, 1) := by decide +kernel
theorem dX7_letter_37 : decode cX7_letter 37 = .ok (.aload_n 0, 1) := by decide +kernel
theorem dX7_letter_38 : decode cX7_letter 38 = .ok (.getfield 32, 3) := by decide +kernel
theorem dX7_letter_41 : decode cX7_letter 41 = .ok (.iload_n 1, 1) := by decide +kernel
theorem dX7_letter_42 : decode cX7_letter 42 = .ok (.invokevirtual 69, 3) := by decide +kernel
theorem dX7_letter_45 : decode cX7_letter 45 = .ok (.ireturn, 1) := by decide +kernel
theorem dX7_settings_0 : decode cX7_settings 0 = .ok (.aload_n 0, 1) := by decide +kernel
theorem dX7_settings_1 : decode cX7_settings 1 = .ok (.getfield 32, 3) := by decide +kernel
theorem dX7_settings_4 : decode cX7_settings 4 = .ok (.invokevirtual 72, 3) := by decide +kernel
theorem dX7_settings_7 : decode cX7_settings 7 = .ok (.ifCond .eq 10, 3) := by decide +kernel
theorem dX7_settings_10 : decode cX7_settings 10 = .ok (.aload_n 0, 1) := by decide +kernel
theorem dX7_settings_11 : decode cX7_settings 11 = .ok (.invokevirtual 76, 3) := by decide +kernel
theorem dX7_settings_14 : decode cX7_settings 14 = .ok (.goto 14, 3) := by decide +kernel
theorem dX7_settings_17 : decode cX7_settings 17 = .ok (.sipush (-1000), 3) := by decide +kernel
theorem dX7_settings_20 : decode cX7_settings 20 = .ok (.aload_n 0, 1) := by decide +kernel
theorem dX7_settings_21 : decode cX7_settings 21 = .ok (.getfield 32, 3) := by decide +kernel
theorem dX7_settings_24 : decode cX7_settings 24 = .ok (.getfield 80, 3) := by decide +kernel
theorem dX7_settings_27 : decode cX7_settings 27 = .ok (.isub, 1) := by decide +kernel
theorem dX7_settings_28 : decode cX7_settings 28 = .ok (.istore_n 1, 1) := by decide +kernel
theorem dX7_settings_29 : decode cX7_settings 29 = .ok (.aload_n 0, 1) := by decide +kernel
theorem dX7_settings_30 : decode cX7_settings 30 = .ok (.getfield 32, 3) := by decide +kernel
theorem dX7_settings_33 : decode cX7_settings 33 = .ok (.iconst 0, 1) := by decide +kernel
theorem dX7_settings_34 : decode cX7_settings 34 = .ok (.putfield 65, 3) := by decide +kernel
theorem dX7_settings_37 : decode cX7_settings 37 = .ok (.iload_n 1, 1) := by decide +kernel
theorem dX7_settings_38 : decode cX7_settings 38 = .ok (.ireturn, 1) := by decide +kernel
theorem dX7_turns_0 : decode cX7_turns 0 = .ok (.iload_n 1, 1) := by decide +kernel
theorem dX7_turns_1 : decode cX7_turns 1 = .ok (.invokestatic 83, 3) := by decide +kernel
theorem dX7_turns_4 : decode cX7_turns 4 = .ok (.ifCond .eq 9, 3) := by decide +kernel
theorem dX7_turns_7 : decode cX7_turns 7 = .ok (.aload_n 0, 1) := by decide +kernel
theorem dX7_turns_8 : decode cX7_turns 8 = .ok (.iconst (-1), 1) := by decide +kernel
theorem dX7_turns_9 : decode cX7_turns 9 = .ok (.invokevirtual 61, 3) := by decide +kernel
theorem dX7_turns_12 : decode cX7_turns 12 = .ok (.ireturn, 1) := by decide +kernel
theorem dX7_turns_13 : decode cX7_turns 13 = .ok (.aload_n 0, 1) := by decide +kernel
theorem dX7_turns_14 : decode cX7_turns 14 = .ok (.getfield 10, 3) := by decide +kernel
theorem dX7_turns_17 : decode cX7_turns 17 = .ok (.iload_n 1, 1) := by decide +kernel
theorem dX7_turns_18 : decode cX7_turns 18 = .ok (.invokevirtual 87, 3) := by decide +kernel
theorem dX7_turns_21 : decode cX7_turns 21 = .ok (.aload_n 0, 1) := by decide +kernel
theorem dX7_turns_22 : decode cX7_turns 22 = .ok (.getfield 10, 3) := by decide +kernel
theorem dX7_turns_25 : decode cX7_turns 25 = .ok (.iload_n 1, 1) := by decide +kernel
theorem dX7_turns_26 : decode cX7_turns 26 = .ok (.invokevirtual 91, 3) := by decide +kernel
theorem dX7_turns_29 : decode cX7_turns 29 = .ok (.ifCond .eq 7, 3) := by decide +kernel
theorem dX7_turns_32 : decode cX7_turns 32 = .ok (.iconst 1, 1) := by decide +kernel
theorem dX7_turns_33 : decode cX7_turns 33 = .ok (.goto 4, 3) := by decide +kernel
theorem dX7_turns_36 : decode cX7_turns 36 = .ok (.iconst 0, 1) := by decide +kernel
theorem dX7_turns_37 : decode cX7_turns 37 = .ok (.ireturn, 1) := by decide +kernel
theorem dX7_kind_0 : decode cX7_kind 0 = .ok (.iload_n 1, 1) := by decide +kernel
theorem dX7_kind_1 : decode cX7_kind 1 = .ok (.invokestatic 83, 3) := by decide +kernel
theorem dX7_kind_4 : decode cX7_kind 4 = .ok (.ifCond .eq 9, 3) := by decide +kernel
theorem dX7_kind_7 : decode cX7_kind 7 = .ok (.aload_n 0, 1) := by decide +kernel
theorem dX7_kind_8 : decode cX7_kind 8 = .ok (.iconst (-1), 1) := by decide +kernel
theorem dX7_kind_9 : decode cX7_kind 9 = .ok (.invokevirtual 61, 3) := by decide +kernel
theorem dX7_kind_12 : decode cX7_kind 12 = .ok (.ireturn, 1) := by decide +kernel
theorem dX7_kind_13 : decode cX7_kind 13 = .ok (.iload_n 2, 1) := by decide +kernel
theorem dX7_kind_14 : decode cX7_kind 14 = .ok (.ifCond .lt 9, 3) := by decide +kernel
theorem dX7_kind_17 : decode cX7_kind 17 = .ok (.iload_n 2, 1) := by decide +kernel
theorem dX7_kind_18 : decode cX7_kind 18 = .ok (.bipush 6, 2) := by decide +kernel
theorem dX7_kind_20 : decode cX7_kind 20 = .ok (.if_icmp .lt 10, 3) := by decide +kernel
theorem dX7_kind_23 : decode cX7_kind 23 = .ok (.aload_n 0, 1) := by decide +kernel
theorem dX7_kind_24 : decode cX7_kind 24 = .ok (.bipush (-2), 2) := by decide +kernel
theorem dX7_kind_26 : decode cX7_kind 26 = .ok (.invokevirtual 61, 3) := by decide +kernel
theorem dX7_kind_29 : decode cX7_kind 29 = .ok (.ireturn, 1) := by decide +kernel
theorem dX7_kind_30 : decode cX7_kind 30 = .ok (.iload_n 3, 1) := by decide +kernel
theorem dX7_kind_31 : decode cX7_kind 31 = .ok (.bipush 9, 2) := by decide +kernel
theorem dX7_kind_33 : decode cX7_kind 33 = .ok (.invokestatic 94, 3) := by decide +kernel
theorem dX7_kind_36 : decode cX7_kind 36 = .ok (.istore 4, 2) := by decide +kernel
theorem dX7_kind_38 : decode cX7_kind 38 = .ok (.iload 4, 2) := by decide +kernel
theorem dX7_kind_40 : decode cX7_kind 40 = .ok (.ifCond .eq 10, 3) := by decide +kernel
theorem dX7_kind_43 : decode cX7_kind 43 = .ok (.aload_n 0, 1) := by decide +kernel
theorem dX7_kind_44 : decode cX7_kind 44 = .ok (.iload 4, 2) := by decide +kernel
theorem dX7_kind_46 : decode cX7_kind 46 = .ok (.invokevirtual 61, 3) := by decide +kernel
theorem dX7_kind_49 : decode cX7_kind 49 = .ok (.ireturn, 1) := by decide +kernel
theorem dX7_kind_50 : decode cX7_kind 50 = .ok (.bipush 10, 2) := by decide +kernel
theorem dX7_kind_52 : decode cX7_kind 52 = .ok (.aload_n 0, 1) := by decide +kernel
theorem dX7_kind_53 : decode cX7_kind 53 = .ok (.getfield 10, 3) := by decide +kernel
theorem dX7_kind_56 : decode cX7_kind 56 = .ok (.getfield 98, 3) := by decide +kernel
theorem dX7_kind_59 : decode cX7_kind 59 = .ok (.iload_n 1, 1) := by decide +kernel
theorem dX7_kind_60 : decode cX7_kind 60 = .ok (.iaload, 1) := by decide +kernel
theorem dX7_kind_61 : decode cX7_kind 61 = .ok (.imul, 1) := by decide +kernel
theorem dX7_kind_62 : decode cX7_kind 62 = .ok (.aload_n 0, 1) := by decide +kernel
theorem dX7_kind_63 : decode cX7_kind 63 = .ok (.getfield 10, 3) := by decide +kernel
theorem dX7_kind_66 : decode cX7_kind 66 = .ok (.getfield 101, 3) := by decide +kernel
theorem dX7_kind_69 : decode cX7_kind 69 = .ok (.iload_n 1, 1) := by decide +kernel
theorem dX7_kind_70 : decode cX7_kind 70 = .ok (.iaload, 1) := by decide +kernel
theorem dX7_kind_71 : decode cX7_kind 71 = .ok (.iadd, 1) := by decide +kernel
theorem dX7_kind_72 : decode cX7_kind 72 = .ok (.istore 5, 2) := by decide +kernel
theorem dX7_kind_74 : decode cX7_kind 74 = .ok (.aload_n 0, 1) := by decide +kernel
theorem dX7_kind_75 : decode cX7_kind 75 = .ok (.getfield 10, 3) := by decide +kernel
theorem dX7_kind_78 : decode cX7_kind 78 = .ok (.iload_n 1, 1) := by decide +kernel
theorem dX7_kind_79 : decode cX7_kind 79 = .ok (.iload_n 2, 1) := by decide +kernel
theorem dX7_kind_80 : decode cX7_kind 80 = .ok (.iload_n 3, 1) := by decide +kernel
theorem dX7_kind_81 : decode cX7_kind 81 = .ok (.invokevirtual 104, 3) := by decide +kernel
theorem dX7_kind_84 : decode cX7_kind 84 = .ok (.iload 5, 2) := by decide +kernel
theorem dX7_kind_86 : decode cX7_kind 86 = .ok (.ireturn, 1) := by decide +kernel
theorem dX7_manner_0 : decode cX7_manner 0 = .ok (.iload_n 1, 1) := by decide +kernel
theorem dX7_manner_1 : decode cX7_manner 1 = .ok (.invokestatic 108, 3) := by decide +kernel
theorem dX7_manner_4 : decode cX7_manner 4 = .ok (.ifCond .eq 9, 3) := by decide +kernel
theorem dX7_manner_7 : decode cX7_manner 7 = .ok (.aload_n 0, 1) := by decide +kernel
theorem dX7_manner_8 : decode cX7_manner 8 = .ok (.iconst (-1), 1) := by decide +kernel
theorem dX7_manner_9 : decode cX7_manner 9 = .ok (.invokevirtual 61, 3) := by decide +kernel
theorem dX7_manner_12 : decode cX7_manner 12 = .ok (.ireturn, 1) := by decide +kernel
theorem dX7_manner_13 : decode cX7_manner 13 = .ok (.iload_n 2, 1) := by decide +kernel
theorem dX7_manner_14 : decode cX7_manner 14 = .ok (.ifCond .lt 8, 3) := by decide +kernel
theorem dX7_manner_17 : decode cX7_manner 17 = .ok (.iload_n 2, 1) := by decide +kernel
theorem dX7_manner_18 : decode cX7_manner 18 = .ok (.iconst 5, 1) := by decide +kernel
theorem dX7_manner_19 : decode cX7_manner 19 = .ok (.if_icmp .lt 10, 3) := by decide +kernel
theorem dX7_manner_22 : decode cX7_manner 22 = .ok (.aload_n 0, 1) := by decide +kernel
theorem dX7_manner_23 : decode cX7_manner 23 = .ok (.bipush (-2), 2) := by decide +kernel
theorem dX7_manner_25 : decode cX7_manner 25 = .ok (.invokevirtual 61, 3) := by decide +kernel
theorem dX7_manner_28 : decode cX7_manner 28 = .ok (.ireturn, 1) := by decide +kernel
theorem dX7_manner_29 : decode cX7_manner 29 = .ok (.aload_n 0, 1) := by decide +kernel
theorem dX7_manner_30 : decode cX7_manner 30 = .ok (.getfield 10, 3) := by decide +kernel
theorem dX7_manner_33 : decode cX7_manner 33 = .ok (.getfield 111, 3) := by decide +kernel
theorem dX7_manner_36 : decode cX7_manner 36 = .ok (.iload_n 1, 1) := by decide +kernel
theorem dX7_manner_37 : decode cX7_manner 37 = .ok (.iaload, 1) := by decide +kernel
theorem dX7_manner_38 : decode cX7_manner 38 = .ok (.istore_n 3, 1) := by decide +kernel
theorem dX7_manner_39 : decode cX7_manner 39 = .ok (.aload_n 0, 1) := by decide +kernel
theorem dX7_manner_40 : decode cX7_manner 40 = .ok (.getfield 10, 3) := by decide +kernel
theorem dX7_manner_43 : decode cX7_manner 43 = .ok (.getfield 111, 3) := by decide +kernel
theorem dX7_manner_46 : decode cX7_manner 46 = .ok (.iload_n 1, 1) := by decide +kernel
theorem dX7_manner_47 : decode cX7_manner 47 = .ok (.iload_n 2, 1) := by decide +kernel
theorem dX7_manner_48 : decode cX7_manner 48 = .ok (.iastore, 1) := by decide +kernel
theorem dX7_manner_49 : decode cX7_manner 49 = .ok (.iload_n 3, 1) := by decide +kernel
theorem dX7_manner_50 : decode cX7_manner 50 = .ok (.ireturn, 1) := by decide +kernel
theorem dX7_sets_0 : decode cX7_sets 0 = .ok (.iload_n 1, 1) := by decide +kernel
theorem dX7_sets_1 : decode cX7_sets 1 = .ok (.invokestatic 83, 3) := by decide +kernel
theorem dX7_sets_4 : decode cX7_sets 4 = .ok (.ifCond .ne 10, 3) := by decide +kernel
theorem dX7_sets_7 : decode cX7_sets 7 = .ok (.iload_n 2, 1) := by decide +kernel
theorem dX7_sets_8 : decode cX7_sets 8 = .ok (.invokestatic 108, 3) := by decide +kernel
theorem dX7_sets_11 : decode cX7_sets 11 = .ok (.ifCond .eq 7, 3) := by decide +kernel
theorem dX7_sets_14 : decode cX7_sets 14 = .ok (.iconst (-1), 1) := by decide +kernel
theorem dX7_sets_15 : decode cX7_sets 15 = .ok (.goto 9, 3) := by decide +kernel
theorem dX7_sets_18 : decode cX7_sets 18 = .ok (.iload_n 3, 1) := by decide +kernel
theorem dX7_sets_19 : decode cX7_sets 19 = .ok (.bipush 99, 2) := by decide +kernel
theorem dX7_sets_21 : decode cX7_sets 21 = .ok (.invokestatic 94, 3) := by decide +kernel
theorem dX7_sets_24 : decode cX7_sets 24 = .ok (.istore 4, 2) := by decide +kernel
theorem dX7_sets_26 : decode cX7_sets 26 = .ok (.iload 4, 2) := by decide +kernel
theorem dX7_sets_28 : decode cX7_sets 28 = .ok (.ifCond .eq 10, 3) := by decide +kernel
theorem dX7_sets_31 : decode cX7_sets 31 = .ok (.aload_n 0, 1) := by decide +kernel
theorem dX7_sets_32 : decode cX7_sets 32 = .ok (.iload 4, 2) := by decide +kernel
theorem dX7_sets_34 : decode cX7_sets 34 = .ok (.invokevirtual 61, 3) := by decide +kernel
theorem dX7_sets_37 : decode cX7_sets 37 = .ok (.ireturn, 1) := by decide +kernel
theorem dX7_sets_38 : decode cX7_sets 38 = .ok (.aload_n 0, 1) := by decide +kernel
theorem dX7_sets_39 : decode cX7_sets 39 = .ok (.iload_n 1, 1) := by decide +kernel
theorem dX7_sets_40 : decode cX7_sets 40 = .ok (.iload_n 2, 1) := by decide +kernel
theorem dX7_sets_41 : decode cX7_sets 41 = .ok (.iconst 0, 1) := by decide +kernel
theorem dX7_sets_42 : decode cX7_sets 42 = .ok (.iload_n 3, 1) := by decide +kernel
theorem dX7_sets_43 : decode cX7_sets 43 = .ok (.bipush (-9), 2) := by decide +kernel
theorem dX7_sets_45 : decode cX7_sets 45 = .ok (.invokevirtual 114, 3) := by decide +kernel
theorem dX7_sets_48 : decode cX7_sets 48 = .ok (.ireturn, 1) := by decide +kernel
theorem dX7_adds_0 : decode cX7_adds 0 = .ok (.iload_n 1, 1) := by decide +kernel
theorem dX7_adds_1 : decode cX7_adds 1 = .ok (.invokestatic 83, 3) := by decide +kernel
theorem dX7_adds_4 : decode cX7_adds 4 = .ok (.ifCond .ne 10, 3) := by decide +kernel
theorem dX7_adds_7 : decode cX7_adds 7 = .ok (.iload_n 2, 1) := by decide +kernel
theorem dX7_adds_8 : decode cX7_adds 8 = .ok (.invokestatic 108, 3) := by decide +kernel
theorem dX7_adds_11 : decode cX7_adds 11 = .ok (.ifCond .eq 9, 3) := by decide +kernel
theorem dX7_adds_14 : decode cX7_adds 14 = .ok (.aload_n 0, 1) := by decide +kernel
theorem dX7_adds_15 : decode cX7_adds 15 = .ok (.iconst (-1), 1) := by decide +kernel
theorem dX7_adds_16 : decode cX7_adds 16 = .ok (.invokevirtual 61, 3) := by decide +kernel
theorem dX7_adds_19 : decode cX7_adds 19 = .ok (.ireturn, 1) := by decide +kernel
theorem dX7_adds_20 : decode cX7_adds 20 = .ok (.iload_n 1, 1) := by decide +kernel
theorem dX7_adds_21 : decode cX7_adds 21 = .ok (.iload_n 2, 1) := by decide +kernel
theorem dX7_adds_22 : decode cX7_adds 22 = .ok (.invokestatic 118, 3) := by decide +kernel
theorem dX7_adds_25 : decode cX7_adds 25 = .ok (.istore 5, 2) := by decide +kernel
theorem dX7_adds_27 : decode cX7_adds 27 = .ok (.aload_n 0, 1) := by decide +kernel
theorem dX7_adds_28 : decode cX7_adds 28 = .ok (.getfield 10, 3) := by decide +kernel
theorem dX7_adds_31 : decode cX7_adds 31 = .ok (.getfield 121, 3) := by decide +kernel
theorem dX7_adds_34 : decode cX7_adds 34 = .ok (.iload 5, 2) := by decide +kernel
theorem dX7_adds_36 : decode cX7_adds 36 = .ok (.iaload, 1) := by decide +kernel
theorem dX7_adds_37 : decode cX7_adds 37 = .ok (.istore 6, 2) := by decide +kernel
theorem dX7_adds_39 : decode cX7_adds 39 = .ok (.iload 6, 2) := by decide +kernel
theorem dX7_adds_41 : decode cX7_adds 41 = .ok (.iconst (-1), 1) := by decide +kernel
theorem dX7_adds_42 : decode cX7_adds 42 = .ok (.if_icmp .eq 29, 3) := by decide +kernel
theorem dX7_adds_45 : decode cX7_adds 45 = .ok (.iload 6, 2) := by decide +kernel
theorem dX7_adds_47 : decode cX7_adds 47 = .ok (.iconst 1, 1) := by decide +kernel
theorem dX7_adds_48 : decode cX7_adds 48 = .ok (.if_icmp .ne 16, 3) := by decide +kernel
theorem dX7_adds_51 : decode cX7_adds 51 = .ok (.aload_n 0, 1) := by decide +kernel
theorem dX7_adds_52 : decode cX7_adds 52 = .ok (.getfield 10, 3) := by decide +kernel
theorem dX7_adds_55 : decode cX7_adds 55 = .ok (.iload 5, 2) := by decide +kernel
theorem dX7_adds_57 : decode cX7_adds 57 = .ok (.iload_n 3, 1) := by decide +kernel
theorem dX7_adds_58 : decode cX7_adds 58 = .ok (.invokevirtual 124, 3) := by decide +kernel
theorem dX7_adds_61 : decode cX7_adds 61 = .ok (.ifCond .eq 10, 3) := by decide +kernel
theorem dX7_adds_64 : decode cX7_adds 64 = .ok (.aload_n 0, 1) := by decide +kernel
theorem dX7_adds_65 : decode cX7_adds 65 = .ok (.bipush (-3), 2) := by decide +kernel
theorem dX7_adds_67 : decode cX7_adds 67 = .ok (.invokevirtual 61, 3) := by decide +kernel
theorem dX7_adds_70 : decode cX7_adds 70 = .ok (.ireturn, 1) := by decide +kernel
theorem dX7_adds_71 : decode cX7_adds 71 = .ok (.iload_n 3, 1) := by decide +kernel
theorem dX7_adds_72 : decode cX7_adds 72 = .ok (.ifCond .lt 8, 3) := by decide +kernel
theorem dX7_adds_75 : decode cX7_adds 75 = .ok (.iload 4, 2) := by decide +kernel
theorem dX7_adds_77 : decode cX7_adds 77 = .ok (.ifCond .ge 10, 3) := by decide +kernel
theorem dX7_adds_80 : decode cX7_adds 80 = .ok (.aload_n 0, 1) := by decide +kernel
theorem dX7_adds_81 : decode cX7_adds 81 = .ok (.bipush (-4), 2) := by decide +kernel
theorem dX7_adds_83 : decode cX7_adds 83 = .ok (.invokevirtual 61, 3) := by decide +kernel
theorem dX7_adds_86 : decode cX7_adds 86 = .ok (.ireturn, 1) := by decide +kernel
theorem dX7_adds_87 : decode cX7_adds 87 = .ok (.iload 6, 2) := by decide +kernel
theorem dX7_adds_89 : decode cX7_adds 89 = .ok (.iconst 1, 1) := by decide +kernel
theorem dX7_adds_90 : decode cX7_adds 90 = .ok (.if_icmp .ne 21, 3) := by decide +kernel
theorem dX7_adds_93 : decode cX7_adds 93 = .ok (.aload_n 0, 1) := by decide +kernel
theorem dX7_adds_94 : decode cX7_adds 94 = .ok (.getfield 10, 3) := by decide +kernel
theorem dX7_adds_97 : decode cX7_adds 97 = .ok (.getfield 128, 3) := by decide +kernel
theorem dX7_adds_100 : decode cX7_adds 100 = .ok (.iload 5, 2) := by decide +kernel
theorem dX7_adds_102 : decode cX7_adds 102 = .ok (.iaload, 1) := by decide +kernel
theorem dX7_adds_103 : decode cX7_adds 103 = .ok (.iconst 4, 1) := by decide +kernel
theorem dX7_adds_104 : decode cX7_adds 104 = .ok (.if_icmp .lt 7, 3) := by decide +kernel
theorem dX7_adds_107 : decode cX7_adds 107 = .ok (.iconst 1, 1) := by decide +kernel
theorem dX7_adds_108 : decode cX7_adds 108 = .ok (.goto 4, 3) := by decide +kernel
theorem dX7_adds_111 : decode cX7_adds 111 = .ok (.iconst 0, 1) := by decide +kernel
theorem dX7_adds_112 : decode cX7_adds 112 = .ok (.istore 7, 2) := by decide +kernel
theorem dX7_adds_114 : decode cX7_adds 114 = .ok (.iload_n 3, 1) := by decide +kernel
theorem dX7_adds_115 : decode cX7_adds 115 = .ok (.bipush 9, 2) := by decide +kernel
theorem dX7_adds_117 : decode cX7_adds 117 = .ok (.if_icmp .gt 15, 3) := by decide +kernel
theorem dX7_adds_120 : decode cX7_adds 120 = .ok (.iload 4, 2) := by decide +kernel
theorem dX7_adds_122 : decode cX7_adds 122 = .ok (.bipush 99, 2) := by decide +kernel
theorem dX7_adds_124 : decode cX7_adds 124 = .ok (.if_icmp .gt 8, 3) := by decide +kernel
theorem dX7_adds_127 : decode cX7_adds 127 = .ok (.iload 7, 2) := by decide +kernel
theorem dX7_adds_129 : decode cX7_adds 129 = .ok (.ifCond .eq 10, 3) := by decide +kernel
theorem dX7_adds_132 : decode cX7_adds 132 = .ok (.aload_n 0, 1) := by decide +kernel
theorem dX7_adds_133 : decode cX7_adds 133 = .ok (.bipush (-6), 2) := by decide +kernel
theorem dX7_adds_135 : decode cX7_adds 135 = .ok (.invokevirtual 61, 3) := by decide +kernel
theorem dX7_adds_138 : decode cX7_adds 138 = .ok (.ireturn, 1) := by decide +kernel
theorem dX7_adds_139 : decode cX7_adds 139 = .ok (.iload 6, 2) := by decide +kernel
theorem dX7_adds_141 : decode cX7_adds 141 = .ok (.iconst (-1), 1) := by decide +kernel
theorem dX7_adds_142 : decode cX7_adds 142 = .ok (.if_icmp .ne 16, 3) := by decide +kernel
theorem dX7_adds_145 : decode cX7_adds 145 = .ok (.aload_n 0, 1) := by decide +kernel
theorem dX7_adds_146 : decode cX7_adds 146 = .ok (.getfield 10, 3) := by decide +kernel
theorem dX7_adds_149 : decode cX7_adds 149 = .ok (.iload 5, 2) := by decide +kernel
theorem dX7_adds_151 : decode cX7_adds 151 = .ok (.iconst 1, 1) := by decide +kernel
theorem dX7_adds_152 : decode cX7_adds 152 = .ok (.iconst 0, 1) := by decide +kernel
theorem dX7_adds_153 : decode cX7_adds 153 = .ok (.bipush (-9), 2) := by decide +kernel
theorem dX7_adds_155 : decode cX7_adds 155 = .ok (.invokevirtual 131, 3) := by decide +kernel
theorem dX7_adds_158 : decode cX7_adds 158 = .ok (.aload_n 0, 1) := by decide +kernel
theorem dX7_adds_159 : decode cX7_adds 159 = .ok (.getfield 10, 3) := by decide +kernel
theorem dX7_adds_162 : decode cX7_adds 162 = .ok (.iload 5, 2) := by decide +kernel
theorem dX7_adds_164 : decode cX7_adds 164 = .ok (.iload_n 3, 1) := by decide +kernel
theorem dX7_adds_165 : decode cX7_adds 165 = .ok (.iload 4, 2) := by decide +kernel
theorem dX7_adds_167 : decode cX7_adds 167 = .ok (.invokevirtual 135, 3) := by decide +kernel
theorem dX7_adds_170 : decode cX7_adds 170 = .ok (.ireturn, 1) := by decide +kernel
theorem dX7_refers_0 : decode cX7_refers 0 = .ok (.iload_n 1, 1) := by decide +kernel
theorem dX7_refers_1 : decode cX7_refers 1 = .ok (.invokestatic 83, 3) := by decide +kernel
theorem dX7_refers_4 : decode cX7_refers 4 = .ok (.ifCond .ne 17, 3) := by decide +kernel
theorem dX7_refers_7 : decode cX7_refers 7 = .ok (.iload_n 2, 1) := by decide +kernel
theorem dX7_refers_8 : decode cX7_refers 8 = .ok (.invokestatic 108, 3) := by decide +kernel
theorem dX7_refers_11 : decode cX7_refers 11 = .ok (.ifCond .ne 10, 3) := by decide +kernel
theorem dX7_refers_14 : decode cX7_refers 14 = .ok (.iload_n 3, 1) := by decide +kernel
theorem dX7_refers_15 : decode cX7_refers 15 = .ok (.invokestatic 108, 3) := by decide +kernel
theorem dX7_refers_18 : decode cX7_refers 18 = .ok (.ifCond .eq 9, 3) := by decide +kernel
theorem dX7_refers_21 : decode cX7_refers 21 = .ok (.aload_n 0, 1) := by decide +kernel
theorem dX7_refers_22 : decode cX7_refers 22 = .ok (.iconst (-1), 1) := by decide +kernel
theorem dX7_refers_23 : decode cX7_refers 23 = .ok (.invokevirtual 61, 3) := by decide +kernel
theorem dX7_refers_26 : decode cX7_refers 26 = .ok (.ireturn, 1) := by decide +kernel
theorem dX7_refers_27 : decode cX7_refers 27 = .ok (.iload 4, 2) := by decide +kernel
theorem dX7_refers_29 : decode cX7_refers 29 = .ok (.iconst (-1), 1) := by decide +kernel
theorem dX7_refers_30 : decode cX7_refers 30 = .ok (.if_icmp .ge 10, 3) := by decide +kernel
theorem dX7_refers_33 : decode cX7_refers 33 = .ok (.aload_n 0, 1) := by decide +kernel
theorem dX7_refers_34 : decode cX7_refers 34 = .ok (.bipush (-4), 2) := by decide +kernel
theorem dX7_refers_36 : decode cX7_refers 36 = .ok (.invokevirtual 61, 3) := by decide +kernel
theorem dX7_refers_39 : decode cX7_refers 39 = .ok (.ireturn, 1) := by decide +kernel
theorem dX7_refers_40 : decode cX7_refers 40 = .ok (.iload 4, 2) := by decide +kernel
theorem dX7_refers_42 : decode cX7_refers 42 = .ok (.bipush 99, 2) := by decide +kernel
theorem dX7_refers_44 : decode cX7_refers 44 = .ok (.if_icmp .le 10, 3) := by decide +kernel
theorem dX7_refers_47 : decode cX7_refers 47 = .ok (.aload_n 0, 1) := by decide +kernel
theorem dX7_refers_48 : decode cX7_refers 48 = .ok (.bipush (-6), 2) := by decide +kernel
theorem dX7_refers_50 : decode cX7_refers 50 = .ok (.invokevirtual 61, 3) := by decide +kernel
theorem dX7_refers_53 : decode cX7_refers 53 = .ok (.ireturn, 1) := by decide +kernel
theorem dX7_refers_54 : decode cX7_refers 54 = .ok (.iload 4, 2) := by decide +kernel
theorem dX7_refers_56 : decode cX7_refers 56 = .ok (.ifCond .ge 13, 3) := by decide +kernel
theorem dX7_refers_59 : decode cX7_refers 59 = .ok (.aload_n 0, 1) := by decide +kernel
theorem dX7_refers_60 : decode cX7_refers 60 = .ok (.iload_n 1, 1) := by decide +kernel
theorem dX7_refers_61 : decode cX7_refers 61 = .ok (.iload_n 2, 1) := by decide +kernel
theorem dX7_refers_62 : decode cX7_refers 62 = .ok (.iconst 2, 1) := by decide +kernel
theorem dX7_refers_63 : decode cX7_refers 63 = .ok (.iconst 0, 1) := by decide +kernel
theorem dX7_refers_64 : decode cX7_refers 64 = .ok (.iload_n 3, 1) := by decide +kernel
theorem dX7_refers_65 : decode cX7_refers 65 = .ok (.invokevirtual 114, 3) := by decide +kernel
theorem dX7_refers_68 : decode cX7_refers 68 = .ok (.ireturn, 1) := by decide +kernel
theorem dX7_refers_69 : decode cX7_refers 69 = .ok (.aload_n 0, 1) := by decide +kernel
theorem dX7_refers_70 : decode cX7_refers 70 = .ok (.iload_n 1, 1) := by decide +kernel
theorem dX7_refers_71 : decode cX7_refers 71 = .ok (.iload_n 2, 1) := by decide +kernel
theorem dX7_refers_72 : decode cX7_refers 72 = .ok (.iconst 3, 1) := by decide +kernel
theorem dX7_refers_73 : decode cX7_refers 73 = .ok (.iload 4, 2) := by decide +kernel
theorem dX7_refers_75 : decode cX7_refers 75 = .ok (.iload_n 3, 1) := by decide +kernel
theorem dX7_refers_76 : decode cX7_refers 76 = .ok (.invokevirtual 114, 3) := by decide +kernel
theorem dX7_refers_79 : decode cX7_refers 79 = .ok (.ireturn, 1) := by decide +kernel
theorem dX7_gap_0 : decode cX7_gap 0 = .ok (.iload_n 1, 1) := by decide +kernel
theorem dX7_gap_1 : decode cX7_gap 1 = .ok (.invokestatic 83, 3) := by decide +kernel
theorem dX7_gap_4 : decode cX7_gap 4 = .ok (.ifCond .ne 10, 3) := by decide +kernel
theorem dX7_gap_7 : decode cX7_gap 7 = .ok (.iload_n 2, 1) := by decide +kernel
theorem dX7_gap_8 : decode cX7_gap 8 = .ok (.invokestatic 108, 3) := by decide +kernel
theorem dX7_gap_11 : decode cX7_gap 11 = .ok (.ifCond .eq 9, 3) := by decide +kernel
theorem dX7_gap_14 : decode cX7_gap 14 = .ok (.aload_n 0, 1) := by decide +kernel
theorem dX7_gap_15 : decode cX7_gap 15 = .ok (.iconst (-1), 1) := by decide +kernel
theorem dX7_gap_16 : decode cX7_gap 16 = .ok (.invokevirtual 61, 3) := by decide +kernel
theorem dX7_gap_19 : decode cX7_gap 19 = .ok (.ireturn, 1) := by decide +kernel
theorem dX7_gap_20 : decode cX7_gap 20 = .ok (.aload_n 0, 1) := by decide +kernel
theorem dX7_gap_21 : decode cX7_gap 21 = .ok (.iload_n 1, 1) := by decide +kernel
theorem dX7_gap_22 : decode cX7_gap 22 = .ok (.iload_n 2, 1) := by decide +kernel
theorem dX7_gap_23 : decode cX7_gap 23 = .ok (.iconst 4, 1) := by decide +kernel
theorem dX7_gap_24 : decode cX7_gap 24 = .ok (.iconst 0, 1) := by decide +kernel
theorem dX7_gap_25 : decode cX7_gap 25 = .ok (.bipush (-9), 2) := by decide +kernel
theorem dX7_gap_27 : decode cX7_gap 27 = .ok (.invokevirtual 114, 3) := by decide +kernel
theorem dX7_gap_30 : decode cX7_gap 30 = .ok (.ireturn, 1) := by decide +kernel
theorem dX7_drops_0 : decode cX7_drops 0 = .ok (.aload_n 0, 1) := by decide +kernel
theorem dX7_drops_1 : decode cX7_drops 1 = .ok (.iload_n 1, 1) := by decide +kernel
theorem dX7_drops_2 : decode cX7_drops 2 = .ok (.iload_n 2, 1) := by decide +kernel
theorem dX7_drops_3 : decode cX7_drops 3 = .ok (.invokevirtual 139, 3) := by decide +kernel
theorem dX7_drops_6 : decode cX7_drops 6 = .ok (.ifCond .eq 9, 3) := by decide +kernel
theorem dX7_drops_9 : decode cX7_drops 9 = .ok (.aload_n 0, 1) := by decide +kernel
theorem dX7_drops_10 : decode cX7_drops 10 = .ok (.iconst (-1), 1) := by decide +kernel
theorem dX7_drops_11 : decode cX7_drops 11 = .ok (.invokevirtual 61, 3) := by decide +kernel
theorem dX7_drops_14 : decode cX7_drops 14 = .ok (.ireturn, 1) := by decide +kernel
theorem dX7_drops_15 : decode cX7_drops 15 = .ok (.aload_n 0, 1) := by decide +kernel
theorem dX7_drops_16 : decode cX7_drops 16 = .ok (.getfield 10, 3) := by decide +kernel
theorem dX7_drops_19 : decode cX7_drops 19 = .ok (.iload_n 1, 1) := by decide +kernel
theorem dX7_drops_20 : decode cX7_drops 20 = .ok (.iload_n 2, 1) := by decide +kernel
theorem dX7_drops_21 : decode cX7_drops 21 = .ok (.invokestatic 118, 3) := by decide +kernel
theorem dX7_drops_24 : decode cX7_drops 24 = .ok (.invokevirtual 142, 3) := by decide +kernel
theorem dX7_drops_27 : decode cX7_drops 27 = .ok (.aload_n 0, 1) := by decide +kernel
theorem dX7_drops_28 : decode cX7_drops 28 = .ok (.getfield 10, 3) := by decide +kernel
theorem dX7_drops_31 : decode cX7_drops 31 = .ok (.iload_n 1, 1) := by decide +kernel
theorem dX7_drops_32 : decode cX7_drops 32 = .ok (.invokevirtual 145, 3) := by decide +kernel
theorem dX7_drops_35 : decode cX7_drops 35 = .ok (.invokestatic 148, 3) := by decide +kernel
theorem dX7_drops_38 : decode cX7_drops 38 = .ok (.ireturn, 1) := by decide +kernel
theorem dX7_layer_0 : decode cX7_layer 0 = .ok (.iload_n 1, 1) := by decide +kernel
theorem dX7_layer_1 : decode cX7_layer 1 = .ok (.invokestatic 83, 3) := by decide +kernel
theorem dX7_layer_4 : decode cX7_layer 4 = .ok (.ifCond .eq 9, 3) := by decide +kernel
theorem dX7_layer_7 : decode cX7_layer 7 = .ok (.aload_n 0, 1) := by decide +kernel
theorem dX7_layer_8 : decode cX7_layer 8 = .ok (.iconst (-1), 1) := by decide +kernel
theorem dX7_layer_9 : decode cX7_layer 9 = .ok (.invokevirtual 61, 3) := by decide +kernel
theorem dX7_layer_12 : decode cX7_layer 12 = .ok (.ireturn, 1) := by decide +kernel
theorem dX7_layer_13 : decode cX7_layer 13 = .ok (.iload_n 2, 1) := by decide +kernel
theorem dX7_layer_14 : decode cX7_layer 14 = .ok (.tableswitch 105 0 5 #[38, 55, 65, 75, 87, 96], 38) := by decide +kernel
theorem dX7_layer_52 : decode cX7_layer 52 = .ok (.aload_n 0, 1) := by decide +kernel
theorem dX7_layer_53 : decode cX7_layer 53 = .ok (.getfield 10, 3) := by decide +kernel
theorem dX7_layer_56 : decode cX7_layer 56 = .ok (.iload_n 1, 1) := by decide +kernel
theorem dX7_layer_57 : decode cX7_layer 57 = .ok (.invokevirtual 91, 3) := by decide +kernel
theorem dX7_layer_60 : decode cX7_layer 60 = .ok (.ifCond .eq 7, 3) := by decide +kernel
theorem dX7_layer_63 : decode cX7_layer 63 = .ok (.iconst 1, 1) := by decide +kernel
theorem dX7_layer_64 : decode cX7_layer 64 = .ok (.goto 4, 3) := by decide +kernel
theorem dX7_layer_67 : decode cX7_layer 67 = .ok (.iconst 0, 1) := by decide +kernel
theorem dX7_layer_68 : decode cX7_layer 68 = .ok (.ireturn, 1) := by decide +kernel
theorem dX7_layer_69 : decode cX7_layer 69 = .ok (.aload_n 0, 1) := by decide +kernel
theorem dX7_layer_70 : decode cX7_layer 70 = .ok (.getfield 10, 3) := by decide +kernel
theorem dX7_layer_73 : decode cX7_layer 73 = .ok (.getfield 98, 3) := by decide +kernel
theorem dX7_layer_76 : decode cX7_layer 76 = .ok (.iload_n 1, 1) := by decide +kernel
theorem dX7_layer_77 : decode cX7_layer 77 = .ok (.iaload, 1) := by decide +kernel
theorem dX7_layer_78 : decode cX7_layer 78 = .ok (.ireturn, 1) := by decide +kernel
theorem dX7_layer_79 : decode cX7_layer 79 = .ok (.aload_n 0, 1) := by decide +kernel
theorem dX7_layer_80 : decode cX7_layer 80 = .ok (.getfield 10, 3) := by decide +kernel
theorem dX7_layer_83 : decode cX7_layer 83 = .ok (.getfield 101, 3) := by decide +kernel
theorem dX7_layer_86 : decode cX7_layer 86 = .ok (.iload_n 1, 1) := by decide +kernel
theorem dX7_layer_87 : decode cX7_layer 87 = .ok (.iaload, 1) := by decide +kernel
theorem dX7_layer_88 : decode cX7_layer 88 = .ok (.ireturn, 1) := by decide +kernel
theorem dX7_layer_89 : decode cX7_layer 89 = .ok (.aload_n 0, 1) := by decide +kernel
theorem dX7_layer_90 : decode cX7_layer 90 = .ok (.getfield 10, 3) := by decide +kernel
theorem dX7_layer_93 : decode cX7_layer 93 = .ok (.iload_n 1, 1) := by decide +kernel
theorem dX7_layer_94 : decode cX7_layer 94 = .ok (.invokevirtual 153, 3) := by decide +kernel
theorem dX7_layer_97 : decode cX7_layer 97 = .ok (.bipush 100, 2) := by decide +kernel
theorem dX7_layer_99 : decode cX7_layer 99 = .ok (.iadd, 1) := by decide +kernel
theorem dX7_layer_100 : decode cX7_layer 100 = .ok (.ireturn, 1) := by decide +kernel
theorem dX7_layer_101 : decode cX7_layer 101 = .ok (.aload_n 0, 1) := by decide +kernel
theorem dX7_layer_102 : decode cX7_layer 102 = .ok (.getfield 10, 3) := by decide +kernel
theorem dX7_layer_105 : decode cX7_layer 105 = .ok (.iload_n 1, 1) := by decide +kernel
theorem dX7_layer_106 : decode cX7_layer 106 = .ok (.invokevirtual 145, 3) := by decide +kernel
theorem dX7_layer_109 : decode cX7_layer 109 = .ok (.ireturn, 1) := by decide +kernel
theorem dX7_layer_110 : decode cX7_layer 110 = .ok (.aload_n 0, 1) := by decide +kernel
theorem dX7_layer_111 : decode cX7_layer 111 = .ok (.getfield 10, 3) := by decide +kernel
theorem dX7_layer_114 : decode cX7_layer 114 = .ok (.iload_n 1, 1) := by decide +kernel
theorem dX7_layer_115 : decode cX7_layer 115 = .ok (.invokevirtual 156, 3) := by decide +kernel
theorem dX7_layer_118 : decode cX7_layer 118 = .ok (.ireturn, 1) := by decide +kernel
theorem dX7_layer_119 : decode cX7_layer 119 = .ok (.aload_n 0, 1) := by decide +kernel
theorem dX7_layer_120 : decode cX7_layer 120 = .ok (.bipush (-2), 2) := by decide +kernel
theorem dX7_layer_122 : decode cX7_layer 122 = .ok (.invokevirtual 61, 3) := by decide +kernel
theorem dX7_layer_125 : decode cX7_layer 125 = .ok (.ireturn, 1) := by decide +kernel
theorem dX7_entry_0 : decode cX7_entry 0 = .ok (.aload_n 0, 1) := by decide +kernel
theorem dX7_entry_1 : decode cX7_entry 1 = .ok (.iload_n 1, 1) := by decide +kernel
theorem dX7_entry_2 : decode cX7_entry 2 = .ok (.iload_n 2, 1) := by decide +kernel
theorem dX7_entry_3 : decode cX7_entry 3 = .ok (.invokevirtual 139, 3) := by decide +kernel
theorem dX7_entry_6 : decode cX7_entry 6 = .ok (.ifCond .eq 9, 3) := by decide +kernel
theorem dX7_entry_9 : decode cX7_entry 9 = .ok (.aload_n 0, 1) := by decide +kernel
theorem dX7_entry_10 : decode cX7_entry 10 = .ok (.iconst (-1), 1) := by decide +kernel
theorem dX7_entry_11 : decode cX7_entry 11 = .ok (.invokevirtual 61, 3) := by decide +kernel
theorem dX7_entry_14 : decode cX7_entry 14 = .ok (.ireturn, 1) := by decide +kernel
theorem dX7_entry_15 : decode cX7_entry 15 = .ok (.iload_n 1, 1) := by decide +kernel
theorem dX7_entry_16 : decode cX7_entry 16 = .ok (.iload_n 2, 1) := by decide +kernel
theorem dX7_entry_17 : decode cX7_entry 17 = .ok (.invokestatic 118, 3) := by decide +kernel
theorem dX7_entry_20 : decode cX7_entry 20 = .ok (.istore 4, 2) := by decide +kernel
theorem dX7_entry_22 : decode cX7_entry 22 = .ok (.iload_n 3, 1) := by decide +kernel
theorem dX7_entry_23 : decode cX7_entry 23 = .ok (.tableswitch 58 0 2 #[25, 36, 47], 25) := by decide +kernel
theorem dX7_entry_48 : decode cX7_entry 48 = .ok (.aload_n 0, 1) := by decide +kernel
theorem dX7_entry_49 : decode cX7_entry 49 = .ok (.getfield 10, 3) := by decide +kernel
theorem dX7_entry_52 : decode cX7_entry 52 = .ok (.getfield 121, 3) := by decide +kernel
theorem dX7_entry_55 : decode cX7_entry 55 = .ok (.iload 4, 2) := by decide +kernel
theorem dX7_entry_57 : decode cX7_entry 57 = .ok (.iaload, 1) := by decide +kernel
theorem dX7_entry_58 : decode cX7_entry 58 = .ok (.ireturn, 1) := by decide +kernel
theorem dX7_entry_59 : decode cX7_entry 59 = .ok (.aload_n 0, 1) := by decide +kernel
theorem dX7_entry_60 : decode cX7_entry 60 = .ok (.getfield 10, 3) := by decide +kernel
theorem dX7_entry_63 : decode cX7_entry 63 = .ok (.getfield 128, 3) := by decide +kernel
theorem dX7_entry_66 : decode cX7_entry 66 = .ok (.iload 4, 2) := by decide +kernel
theorem dX7_entry_68 : decode cX7_entry 68 = .ok (.iaload, 1) := by decide +kernel
theorem dX7_entry_69 : decode cX7_entry 69 = .ok (.ireturn, 1) := by decide +kernel
theorem dX7_entry_70 : decode cX7_entry 70 = .ok (.aload_n 0, 1) := by decide +kernel
theorem dX7_entry_71 : decode cX7_entry 71 = .ok (.getfield 10, 3) := by decide +kernel
theorem dX7_entry_74 : decode cX7_entry 74 = .ok (.getfield 159, 3) := by decide +kernel
theorem dX7_entry_77 : decode cX7_entry 77 = .ok (.iload 4, 2) := by decide +kernel
theorem dX7_entry_79 : decode cX7_entry 79 = .ok (.iaload, 1) := by decide +kernel
theorem dX7_entry_80 : decode cX7_entry 80 = .ok (.ireturn, 1) := by decide +kernel
theorem dX7_entry_81 : decode cX7_entry 81 = .ok (.aload_n 0, 1) := by decide +kernel
theorem dX7_entry_82 : decode cX7_entry 82 = .ok (.bipush (-2), 2) := by decide +kernel
theorem dX7_entry_84 : decode cX7_entry 84 = .ok (.invokevirtual 61, 3) := by decide +kernel
theorem dX7_entry_87 : decode cX7_entry 87 = .ok (.ireturn, 1) := by decide +kernel
theorem dX7_value_0 : decode cX7_value 0 = .ok (.iload_n 1, 1) := by decide +kernel
theorem dX7_value_1 : decode cX7_value 1 = .ok (.invokestatic 108, 3) := by decide +kernel
theorem dX7_value_4 : decode cX7_value 4 = .ok (.ifCond .eq 9, 3) := by decide +kernel
theorem dX7_value_7 : decode cX7_value 7 = .ok (.aload_n 0, 1) := by decide +kernel
theorem dX7_value_8 : decode cX7_value 8 = .ok (.iconst (-1), 1) := by decide +kernel
theorem dX7_value_9 : decode cX7_value 9 = .ok (.invokevirtual 61, 3) := by decide +kernel
theorem dX7_value_12 : decode cX7_value 12 = .ok (.ireturn, 1) := by decide +kernel
theorem dX7_value_13 : decode cX7_value 13 = .ok (.iload_n 2, 1) := by decide +kernel
theorem dX7_value_14 : decode cX7_value 14 = .ok (.ifCond .lt 8, 3) := by decide +kernel
theorem dX7_value_17 : decode cX7_value 17 = .ok (.iload_n 2, 1) := by decide +kernel
theorem dX7_value_18 : decode cX7_value 18 = .ok (.iconst 3, 1) := by decide +kernel
theorem dX7_value_19 : decode cX7_value 19 = .ok (.if_icmp .le 10, 3) := by decide +kernel
theorem dX7_value_22 : decode cX7_value 22 = .ok (.aload_n 0, 1) := by decide +kernel
theorem dX7_value_23 : decode cX7_value 23 = .ok (.bipush (-2), 2) := by decide +kernel
theorem dX7_value_25 : decode cX7_value 25 = .ok (.invokevirtual 61, 3) := by decide +kernel
theorem dX7_value_28 : decode cX7_value 28 = .ok (.ireturn, 1) := by decide +kernel
theorem dX7_value_29 : decode cX7_value 29 = .ok (.aload_n 0, 1) := by decide +kernel
theorem dX7_value_30 : decode cX7_value 30 = .ok (.getfield 25, 3) := by decide +kernel
theorem dX7_value_33 : decode cX7_value 33 = .ok (.aload_n 0, 1) := by decide +kernel
theorem dX7_value_34 : decode cX7_value 34 = .ok (.getfield 10, 3) := by decide +kernel
theorem dX7_value_37 : decode cX7_value 37 = .ok (.iload_n 1, 1) := by decide +kernel
theorem dX7_value_38 : decode cX7_value 38 = .ok (.invokevirtual 162, 3) := by decide +kernel
theorem dX7_value_41 : decode cX7_value 41 = .ok (.astore_n 3, 1) := by decide +kernel
theorem dX7_value_42 : decode cX7_value 42 = .ok (.iload_n 2, 1) := by decide +kernel
theorem dX7_value_43 : decode cX7_value 43 = .ok (.tableswitch 57 0 2 #[25, 30, 52], 25) := by decide +kernel
theorem dX7_value_68 : decode cX7_value 68 = .ok (.aload_n 3, 1) := by decide +kernel
theorem dX7_value_69 : decode cX7_value 69 = .ok (.getfield 166, 3) := by decide +kernel
theorem dX7_value_72 : decode cX7_value 72 = .ok (.ireturn, 1) := by decide +kernel
theorem dX7_value_73 : decode cX7_value 73 = .ok (.aload_n 3, 1) := by decide +kernel
theorem dX7_value_74 : decode cX7_value 74 = .ok (.getfield 166, 3) := by decide +kernel
theorem dX7_value_77 : decode cX7_value 77 = .ok (.iconst 2, 1) := by decide +kernel
theorem dX7_value_78 : decode cX7_value 78 = .ok (.if_icmp .ne 12, 3) := by decide +kernel
theorem dX7_value_81 : decode cX7_value 81 = .ok (.aload_n 3, 1) := by decide +kernel
theorem dX7_value_82 : decode cX7_value 82 = .ok (.getfield 169, 3) := by decide +kernel
theorem dX7_value_85 : decode cX7_value 85 = .ok (.iconst 0, 1) := by decide +kernel
theorem dX7_value_86 : decode cX7_value 86 = .ok (.iaload, 1) := by decide +kernel
theorem dX7_value_87 : decode cX7_value 87 = .ok (.goto 7, 3) := by decide +kernel
theorem dX7_value_90 : decode cX7_value 90 = .ok (.aload_n 3, 1) := by decide +kernel
theorem dX7_value_91 : decode cX7_value 91 = .ok (.getfield 172, 3) := by decide +kernel
theorem dX7_value_94 : decode cX7_value 94 = .ok (.ireturn, 1) := by decide +kernel
theorem dX7_value_95 : decode cX7_value 95 = .ok (.aload_n 3, 1) := by decide +kernel
theorem dX7_value_96 : decode cX7_value 96 = .ok (.getfield 175, 3) := by decide +kernel
theorem dX7_value_99 : decode cX7_value 99 = .ok (.ireturn, 1) := by decide +kernel
theorem dX7_value_100 : decode cX7_value 100 = .ok (.aload_n 3, 1) := by decide +kernel
theorem dX7_value_101 : decode cX7_value 101 = .ok (.getfield 178, 3) := by decide +kernel
theorem dX7_value_104 : decode cX7_value 104 = .ok (.ireturn, 1) := by decide +kernel
theorem dX7_item_0 : decode cX7_item 0 = .ok (.iload_n 1, 1) := by decide +kernel
theorem dX7_item_1 : decode cX7_item 1 = .ok (.invokestatic 108, 3) := by decide +kernel
theorem dX7_item_4 : decode cX7_item 4 = .ok (.ifCond .eq 9, 3) := by decide +kernel
theorem dX7_item_7 : decode cX7_item 7 = .ok (.aload_n 0, 1) := by decide +kernel
theorem dX7_item_8 : decode cX7_item 8 = .ok (.iconst (-1), 1) := by decide +kernel
theorem dX7_item_9 : decode cX7_item 9 = .ok (.invokevirtual 61, 3) := by decide +kernel
theorem dX7_item_12 : decode cX7_item 12 = .ok (.ireturn, 1) := by decide +kernel
theorem dX7_item_13 : decode cX7_item 13 = .ok (.aload_n 0, 1) := by decide +kernel
theorem dX7_item_14 : decode cX7_item 14 = .ok (.getfield 25, 3) := by decide +kernel
theorem dX7_item_17 : decode cX7_item 17 = .ok (.aload_n 0, 1) := by decide +kernel
theorem dX7_item_18 : decode cX7_item 18 = .ok (.getfield 10, 3) := by decide +kernel
theorem dX7_item_21 : decode cX7_item 21 = .ok (.iload_n 1, 1) := by decide +kernel
theorem dX7_item_22 : decode cX7_item 22 = .ok (.invokevirtual 162, 3) := by decide +kernel
theorem dX7_item_25 : decode cX7_item 25 = .ok (.astore 4, 2) := by decide +kernel
theorem dX7_item_27 : decode cX7_item 27 = .ok (.aload 4, 2) := by decide +kernel
theorem dX7_item_29 : decode cX7_item 29 = .ok (.getfield 166, 3) := by decide +kernel
theorem dX7_item_32 : decode cX7_item 32 = .ok (.iconst 1, 1) := by decide +kernel
theorem dX7_item_33 : decode cX7_item 33 = .ok (.if_icmp .ne 16, 3) := by decide +kernel
theorem dX7_item_36 : decode cX7_item 36 = .ok (.iload_n 2, 1) := by decide +kernel
theorem dX7_item_37 : decode cX7_item 37 = .ok (.ifCond .lt 12, 3) := by decide +kernel
theorem dX7_item_40 : decode cX7_item 40 = .ok (.iload_n 2, 1) := by decide +kernel
theorem dX7_item_41 : decode cX7_item 41 = .ok (.aload 4, 2) := by decide +kernel
theorem dX7_item_43 : decode cX7_item 43 = .ok (.getfield 172, 3) := by decide +kernel
theorem dX7_item_46 : decode cX7_item 46 = .ok (.if_icmp .lt 9, 3) := by decide +kernel
theorem dX7_item_49 : decode cX7_item 49 = .ok (.aload_n 0, 1) := by decide +kernel
theorem dX7_item_50 : decode cX7_item 50 = .ok (.iconst (-1), 1) := by decide +kernel
theorem dX7_item_51 : decode cX7_item 51 = .ok (.invokevirtual 61, 3) := by decide +kernel
theorem dX7_item_54 : decode cX7_item 54 = .ok (.ireturn, 1) := by decide +kernel
theorem dX7_item_55 : decode cX7_item 55 = .ok (.iload_n 3, 1) := by decide +kernel
theorem dX7_item_56 : decode cX7_item 56 = .ok (.tableswitch 52 0 2 #[28, 36, 44], 28) := by decide +kernel
theorem dX7_item_84 : decode cX7_item 84 = .ok (.aload 4, 2) := by decide +kernel
theorem dX7_item_86 : decode cX7_item 86 = .ok (.getfield 181, 3) := by decide +kernel
theorem dX7_item_89 : decode cX7_item 89 = .ok (.iload_n 2, 1) := by decide +kernel
theorem dX7_item_90 : decode cX7_item 90 = .ok (.iaload, 1) := by decide +kernel
theorem dX7_item_91 : decode cX7_item 91 = .ok (.ireturn, 1) := by decide +kernel
theorem dX7_item_92 : decode cX7_item 92 = .ok (.aload 4, 2) := by decide +kernel
theorem dX7_item_94 : decode cX7_item 94 = .ok (.getfield 184, 3) := by decide +kernel
theorem dX7_item_97 : decode cX7_item 97 = .ok (.iload_n 2, 1) := by decide +kernel
theorem dX7_item_98 : decode cX7_item 98 = .ok (.iaload, 1) := by decide +kernel
theorem dX7_item_99 : decode cX7_item 99 = .ok (.ireturn, 1) := by decide +kernel
theorem dX7_item_100 : decode cX7_item 100 = .ok (.aload 4, 2) := by decide +kernel
theorem dX7_item_102 : decode cX7_item 102 = .ok (.getfield 187, 3) := by decide +kernel
theorem dX7_item_105 : decode cX7_item 105 = .ok (.iload_n 2, 1) := by decide +kernel
theorem dX7_item_106 : decode cX7_item 106 = .ok (.iaload, 1) := by decide +kernel
theorem dX7_item_107 : decode cX7_item 107 = .ok (.ireturn, 1) := by decide +kernel
theorem dX7_item_108 : decode cX7_item 108 = .ok (.aload_n 0, 1) := by decide +kernel
theorem dX7_item_109 : decode cX7_item 109 = .ok (.bipush (-2), 2) := by decide +kernel
theorem dX7_item_111 : decode cX7_item 111 = .ok (.invokevirtual 61, 3) := by decide +kernel
theorem dX7_item_114 : decode cX7_item 114 = .ok (.ireturn, 1) := by decide +kernel
theorem dX7_fault_0 : decode cX7_fault 0 = .ok (.iload_n 1, 1) := by decide +kernel
theorem dX7_fault_1 : decode cX7_fault 1 = .ok (.invokestatic 108, 3) := by decide +kernel
theorem dX7_fault_4 : decode cX7_fault 4 = .ok (.ifCond .eq 9, 3) := by decide +kernel
theorem dX7_fault_7 : decode cX7_fault 7 = .ok (.aload_n 0, 1) := by decide +kernel
theorem dX7_fault_8 : decode cX7_fault 8 = .ok (.iconst (-1), 1) := by decide +kernel
theorem dX7_fault_9 : decode cX7_fault 9 = .ok (.invokevirtual 61, 3) := by decide +kernel
theorem dX7_fault_12 : decode cX7_fault 12 = .ok (.ireturn, 1) := by decide +kernel
theorem dX7_fault_13 : decode cX7_fault 13 = .ok (.aload_n 0, 1) := by decide +kernel
theorem dX7_fault_14 : decode cX7_fault 14 = .ok (.getfield 25, 3) := by decide +kernel
theorem dX7_fault_17 : decode cX7_fault 17 = .ok (.aload_n 0, 1) := by decide +kernel
theorem dX7_fault_18 : decode cX7_fault 18 = .ok (.getfield 10, 3) := by decide +kernel
theorem dX7_fault_21 : decode cX7_fault 21 = .ok (.iload_n 1, 1) := by decide +kernel
theorem dX7_fault_22 : decode cX7_fault 22 = .ok (.invokevirtual 162, 3) := by decide +kernel
theorem dX7_fault_25 : decode cX7_fault 25 = .ok (.astore 4, 2) := by decide +kernel
theorem dX7_fault_27 : decode cX7_fault 27 = .ok (.aload 4, 2) := by decide +kernel
theorem dX7_fault_29 : decode cX7_fault 29 = .ok (.getfield 166, 3) := by decide +kernel
theorem dX7_fault_32 : decode cX7_fault 32 = .ok (.iconst 2, 1) := by decide +kernel
theorem dX7_fault_33 : decode cX7_fault 33 = .ok (.if_icmp .ne 16, 3) := by decide +kernel
theorem dX7_fault_36 : decode cX7_fault 36 = .ok (.iload_n 2, 1) := by decide +kernel
theorem dX7_fault_37 : decode cX7_fault 37 = .ok (.ifCond .lt 12, 3) := by decide +kernel
theorem dX7_fault_40 : decode cX7_fault 40 = .ok (.iload_n 2, 1) := by decide +kernel
theorem dX7_fault_41 : decode cX7_fault 41 = .ok (.aload 4, 2) := by decide +kernel
theorem dX7_fault_43 : decode cX7_fault 43 = .ok (.getfield 190, 3) := by decide +kernel
theorem dX7_fault_46 : decode cX7_fault 46 = .ok (.if_icmp .lt 9, 3) := by decide +kernel
theorem dX7_fault_49 : decode cX7_fault 49 = .ok (.aload_n 0, 1) := by decide +kernel
theorem dX7_fault_50 : decode cX7_fault 50 = .ok (.iconst (-1), 1) := by decide +kernel
theorem dX7_fault_51 : decode cX7_fault 51 = .ok (.invokevirtual 61, 3) := by decide +kernel
theorem dX7_fault_54 : decode cX7_fault 54 = .ok (.ireturn, 1) := by decide +kernel
theorem dX7_fault_55 : decode cX7_fault 55 = .ok (.iload_n 3, 1) := by decide +kernel
theorem dX7_fault_56 : decode cX7_fault 56 = .ok (.lookupswitch 44 #[(0, 28), (1, 36)], 28) := by decide +kernel
theorem dX7_fault_84 : decode cX7_fault 84 = .ok (.aload 4, 2) := by decide +kernel
theorem dX7_fault_86 : decode cX7_fault 86 = .ok (.getfield 169, 3) := by decide +kernel
theorem dX7_fault_89 : decode cX7_fault 89 = .ok (.iload_n 2, 1) := by decide +kernel
theorem dX7_fault_90 : decode cX7_fault 90 = .ok (.iaload, 1) := by decide +kernel
theorem dX7_fault_91 : decode cX7_fault 91 = .ok (.ireturn, 1) := by decide +kernel
theorem dX7_fault_92 : decode cX7_fault 92 = .ok (.aload 4, 2) := by decide +kernel
theorem dX7_fault_94 : decode cX7_fault 94 = .ok (.getfield 193, 3) := by decide +kernel
theorem dX7_fault_97 : decode cX7_fault 97 = .ok (.iload_n 2, 1) := by decide +kernel
theorem dX7_fault_98 : decode cX7_fault 98 = .ok (.iaload, 1) := by decide +kernel
theorem dX7_fault_99 : decode cX7_fault 99 = .ok (.ireturn, 1) := by decide +kernel
theorem dX7_fault_100 : decode cX7_fault 100 = .ok (.aload_n 0, 1) := by decide +kernel
theorem dX7_fault_101 : decode cX7_fault 101 = .ok (.bipush (-2), 2) := by decide +kernel
theorem dX7_fault_103 : decode cX7_fault 103 = .ok (.invokevirtual 61, 3) := by decide +kernel
theorem dX7_fault_106 : decode cX7_fault 106 = .ok (.ireturn, 1) := by decide +kernel
theorem dX7_sources_0 : decode cX7_sources 0 = .ok (.iload_n 1, 1) := by decide +kernel
theorem dX7_sources_1 : decode cX7_sources 1 = .ok (.invokestatic 108, 3) := by decide +kernel
theorem dX7_sources_4 : decode cX7_sources 4 = .ok (.ifCond .eq 9, 3) := by decide +kernel
theorem dX7_sources_7 : decode cX7_sources 7 = .ok (.aload_n 0, 1) := by decide +kernel
theorem dX7_sources_8 : decode cX7_sources 8 = .ok (.iconst (-1), 1) := by decide +kernel
theorem dX7_sources_9 : decode cX7_sources 9 = .ok (.invokevirtual 61, 3) := by decide +kernel
theorem dX7_sources_12 : decode cX7_sources 12 = .ok (.ireturn, 1) := by decide +kernel
theorem dX7_sources_13 : decode cX7_sources 13 = .ok (.aload_n 0, 1) := by decide +kernel
theorem dX7_sources_14 : decode cX7_sources 14 = .ok (.getfield 25, 3) := by decide +kernel
theorem dX7_sources_17 : decode cX7_sources 17 = .ok (.aload_n 0, 1) := by decide +kernel
theorem dX7_sources_18 : decode cX7_sources 18 = .ok (.getfield 10, 3) := by decide +kernel
theorem dX7_sources_21 : decode cX7_sources 21 = .ok (.iload_n 1, 1) := by decide +kernel
theorem dX7_sources_22 : decode cX7_sources 22 = .ok (.invokevirtual 162, 3) := by decide +kernel
theorem dX7_sources_25 : decode cX7_sources 25 = .ok (.astore_n 3, 1) := by decide +kernel
theorem dX7_sources_26 : decode cX7_sources 26 = .ok (.aload_n 3, 1) := by decide +kernel
theorem dX7_sources_27 : decode cX7_sources 27 = .ok (.getfield 166, 3) := by decide +kernel
theorem dX7_sources_30 : decode cX7_sources 30 = .ok (.iconst 2, 1) := by decide +kernel
theorem dX7_sources_31 : decode cX7_sources 31 = .ok (.if_icmp .ne 10, 3) := by decide +kernel
theorem dX7_sources_34 : decode cX7_sources 34 = .ok (.aload_n 0, 1) := by decide +kernel
theorem dX7_sources_35 : decode cX7_sources 35 = .ok (.bipush (-3), 2) := by decide +kernel
theorem dX7_sources_37 : decode cX7_sources 37 = .ok (.invokevirtual 61, 3) := by decide +kernel
theorem dX7_sources_40 : decode cX7_sources 40 = .ok (.ireturn, 1) := by decide +kernel
theorem dX7_sources_41 : decode cX7_sources 41 = .ok (.iload_n 2, 1) := by decide +kernel
theorem dX7_sources_42 : decode cX7_sources 42 = .ok (.lookupswitch 36 #[(0, 26), (1, 31)], 26) := by decide +kernel
theorem dX7_sources_68 : decode cX7_sources 68 = .ok (.aload_n 3, 1) := by decide +kernel
theorem dX7_sources_69 : decode cX7_sources 69 = .ok (.getfield 196, 3) := by decide +kernel
theorem dX7_sources_72 : decode cX7_sources 72 = .ok (.ireturn, 1) := by decide +kernel
theorem dX7_sources_73 : decode cX7_sources 73 = .ok (.aload_n 3, 1) := by decide +kernel
theorem dX7_sources_74 : decode cX7_sources 74 = .ok (.getfield 199, 3) := by decide +kernel
theorem dX7_sources_77 : decode cX7_sources 77 = .ok (.ireturn, 1) := by decide +kernel
theorem dX7_sources_78 : decode cX7_sources 78 = .ok (.aload_n 0, 1) := by decide +kernel
theorem dX7_sources_79 : decode cX7_sources 79 = .ok (.bipush (-2), 2) := by decide +kernel
theorem dX7_sources_81 : decode cX7_sources 81 = .ok (.invokevirtual 61, 3) := by decide +kernel
theorem dX7_sources_84 : decode cX7_sources 84 = .ok (.ireturn, 1) := by decide +kernel
theorem dX7_uses_0 : decode cX7_uses 0 = .ok (.iload_n 1, 1) := by decide +kernel
theorem dX7_uses_1 : decode cX7_uses 1 = .ok (.invokestatic 108, 3) := by decide +kernel
theorem dX7_uses_4 : decode cX7_uses 4 = .ok (.ifCond .eq 9, 3) := by decide +kernel
theorem dX7_uses_7 : decode cX7_uses 7 = .ok (.aload_n 0, 1) := by decide +kernel
theorem dX7_uses_8 : decode cX7_uses 8 = .ok (.iconst (-1), 1) := by decide +kernel
theorem dX7_uses_9 : decode cX7_uses 9 = .ok (.invokevirtual 61, 3) := by decide +kernel
theorem dX7_uses_12 : decode cX7_uses 12 = .ok (.ireturn, 1) := by decide +kernel
theorem dX7_uses_13 : decode cX7_uses 13 = .ok (.iload_n 2, 1) := by decide +kernel
theorem dX7_uses_14 : decode cX7_uses 14 = .ok (.lookupswitch 48 #[(0, 26), (1, 42)], 26) := by decide +kernel
theorem dX7_uses_40 : decode cX7_uses 40 = .ok (.aload_n 0, 1) := by decide +kernel
theorem dX7_uses_41 : decode cX7_uses 41 = .ok (.getfield 25, 3) := by decide +kernel
theorem dX7_uses_44 : decode cX7_uses 44 = .ok (.aload_n 0, 1) := by decide +kernel
theorem dX7_uses_45 : decode cX7_uses 45 = .ok (.getfield 10, 3) := by decide +kernel
theorem dX7_uses_48 : decode cX7_uses 48 = .ok (.iload_n 1, 1) := by decide +kernel
theorem dX7_uses_49 : decode cX7_uses 49 = .ok (.invokevirtual 162, 3) := by decide +kernel
theorem dX7_uses_52 : decode cX7_uses 52 = .ok (.getfield 202, 3) := by decide +kernel
theorem dX7_uses_55 : decode cX7_uses 55 = .ok (.ireturn, 1) := by decide +kernel
theorem dX7_uses_56 : decode cX7_uses 56 = .ok (.aload_n 0, 1) := by decide +kernel
theorem dX7_uses_57 : decode cX7_uses 57 = .ok (.iload_n 1, 1) := by decide +kernel
theorem dX7_uses_58 : decode cX7_uses 58 = .ok (.invokevirtual 205, 3) := by decide +kernel
theorem dX7_uses_61 : decode cX7_uses 61 = .ok (.ireturn, 1) := by decide +kernel
theorem dX7_uses_62 : decode cX7_uses 62 = .ok (.aload_n 0, 1) := by decide +kernel
theorem dX7_uses_63 : decode cX7_uses 63 = .ok (.bipush (-2), 2) := by decide +kernel
theorem dX7_uses_65 : decode cX7_uses 65 = .ok (.invokevirtual 61, 3) := by decide +kernel
theorem dX7_uses_68 : decode cX7_uses 68 = .ok (.ireturn, 1) := by decide +kernel
theorem dX7_all_0 : decode cX7_all 0 = .ok (.iload_n 1, 1) := by decide +kernel
theorem dX7_all_1 : decode cX7_all 1 = .ok (.ifCond .lt 8, 3) := by decide +kernel
theorem dX7_all_4 : decode cX7_all 4 = .ok (.iload_n 1, 1) := by decide +kernel
theorem dX7_all_5 : decode cX7_all 5 = .ok (.iconst 2, 1) := by decide +kernel
theorem dX7_all_6 : decode cX7_all 6 = .ok (.if_icmp .le 10, 3) := by decide +kernel
theorem dX7_all_9 : decode cX7_all 9 = .ok (.aload_n 0, 1) := by decide +kernel
theorem dX7_all_10 : decode cX7_all 10 = .ok (.bipush (-2), 2) := by decide +kernel
theorem dX7_all_12 : decode cX7_all 12 = .ok (.invokevirtual 61, 3) := by decide +kernel
theorem dX7_all_15 : decode cX7_all 15 = .ok (.ireturn, 1) := by decide +kernel
theorem dX7_all_16 : decode cX7_all 16 = .ok (.iconst 0, 1) := by decide +kernel
theorem dX7_all_17 : decode cX7_all 17 = .ok (.istore_n 2, 1) := by decide +kernel
theorem dX7_all_18 : decode cX7_all 18 = .ok (.iconst 0, 1) := by decide +kernel
theorem dX7_all_19 : decode cX7_all 19 = .ok (.istore_n 3, 1) := by decide +kernel
theorem dX7_all_20 : decode cX7_all 20 = .ok (.iload_n 3, 1) := by decide +kernel
theorem dX7_all_21 : decode cX7_all 21 = .ok (.bipush 8, 2) := by decide +kernel
theorem dX7_all_23 : decode cX7_all 23 = .ok (.if_icmp .ge 35, 3) := by decide +kernel
theorem dX7_all_26 : decode cX7_all 26 = .ok (.aload_n 0, 1) := by decide +kernel
theorem dX7_all_27 : decode cX7_all 27 = .ok (.getfield 25, 3) := by decide +kernel
theorem dX7_all_30 : decode cX7_all 30 = .ok (.aload_n 0, 1) := by decide +kernel
theorem dX7_all_31 : decode cX7_all 31 = .ok (.getfield 10, 3) := by decide +kernel
theorem dX7_all_34 : decode cX7_all 34 = .ok (.iload_n 3, 1) := by decide +kernel
theorem dX7_all_35 : decode cX7_all 35 = .ok (.invokevirtual 162, 3) := by decide +kernel
theorem dX7_all_38 : decode cX7_all 38 = .ok (.iload_n 3, 1) := by decide +kernel
theorem dX7_all_39 : decode cX7_all 39 = .ok (.iload_n 1, 1) := by decide +kernel
theorem dX7_all_40 : decode cX7_all 40 = .ok (.invokestatic 208, 3) := by decide +kernel
theorem dX7_all_43 : decode cX7_all 43 = .ok (.ifCond .eq 9, 3) := by decide +kernel
theorem dX7_all_46 : decode cX7_all 46 = .ok (.iload_n 2, 1) := by decide +kernel
theorem dX7_all_47 : decode cX7_all 47 = .ok (.iconst 1, 1) := by decide +kernel
theorem dX7_all_48 : decode cX7_all 48 = .ok (.iload_n 3, 1) := by decide +kernel
theorem dX7_all_49 : decode cX7_all 49 = .ok (.ishl, 1) := by decide +kernel
theorem dX7_all_50 : decode cX7_all 50 = .ok (.ior, 1) := by decide +kernel
theorem dX7_all_51 : decode cX7_all 51 = .ok (.istore_n 2, 1) := by decide +kernel
theorem dX7_all_52 : decode cX7_all 52 = .ok (.iinc 3 1, 3) := by decide +kernel
theorem dX7_all_55 : decode cX7_all 55 = .ok (.goto (-35), 3) := by decide +kernel
theorem dX7_all_58 : decode cX7_all 58 = .ok (.iload_n 2, 1) := by decide +kernel
theorem dX7_all_59 : decode cX7_all 59 = .ok (.ireturn, 1) := by decide +kernel
theorem dX7_hidden_0 : decode cX7_hidden 0 = .ok (.iload_n 1, 1) := by decide +kernel
theorem dX7_hidden_1 : decode cX7_hidden 1 = .ok (.invokestatic 108, 3) := by decide +kernel
theorem dX7_hidden_4 : decode cX7_hidden 4 = .ok (.ifCond .eq 9, 3) := by decide +kernel
theorem dX7_hidden_7 : decode cX7_hidden 7 = .ok (.aload_n 0, 1) := by decide +kernel
theorem dX7_hidden_8 : decode cX7_hidden 8 = .ok (.iconst (-1), 1) := by decide +kernel
theorem dX7_hidden_9 : decode cX7_hidden 9 = .ok (.invokevirtual 61, 3) := by decide +kernel
theorem dX7_hidden_12 : decode cX7_hidden 12 = .ok (.ireturn, 1) := by decide +kernel
theorem dX7_hidden_13 : decode cX7_hidden 13 = .ok (.iconst 0, 1) := by decide +kernel
theorem dX7_hidden_14 : decode cX7_hidden 14 = .ok (.istore_n 2, 1) := by decide +kernel
theorem dX7_hidden_15 : decode cX7_hidden 15 = .ok (.aload_n 0, 1) := by decide +kernel
theorem dX7_hidden_16 : decode cX7_hidden 16 = .ok (.getfield 52, 3) := by decide +kernel
theorem dX7_hidden_19 : decode cX7_hidden 19 = .ok (.iload_n 1, 1) := by decide +kernel
theorem dX7_hidden_20 : decode cX7_hidden 20 = .ok (.aaload, 1) := by decide +kernel
theorem dX7_hidden_21 : decode cX7_hidden 21 = .ok (.aload_n 0, 1) := by decide +kernel
theorem dX7_hidden_22 : decode cX7_hidden 22 = .ok (.getfield 25, 3) := by decide +kernel
theorem dX7_hidden_25 : decode cX7_hidden 25 = .ok (.aload_n 0, 1) := by decide +kernel
theorem dX7_hidden_26 : decode cX7_hidden 26 = .ok (.getfield 10, 3) := by decide +kernel
theorem dX7_hidden_29 : decode cX7_hidden 29 = .ok (.iload_n 1, 1) := by decide +kernel
theorem dX7_hidden_30 : decode cX7_hidden 30 = .ok (.invokevirtual 162, 3) := by decide +kernel
theorem dX7_hidden_33 : decode cX7_hidden 33 = .ok (.invokevirtual 212, 3) := by decide +kernel
theorem dX7_hidden_36 : decode cX7_hidden 36 = .ok (.iconst 0, 1) := by decide +kernel
theorem dX7_hidden_37 : decode cX7_hidden 37 = .ok (.istore_n 3, 1) := by decide +kernel
theorem dX7_hidden_38 : decode cX7_hidden 38 = .ok (.iload_n 3, 1) := by decide +kernel
theorem dX7_hidden_39 : decode cX7_hidden 39 = .ok (.bipush 6, 2) := by decide +kernel
theorem dX7_hidden_41 : decode cX7_hidden 41 = .ok (.if_icmp .ge 80, 3) := by decide +kernel
theorem dX7_hidden_44 : decode cX7_hidden 44 = .ok (.iload_n 3, 1) := by decide +kernel
theorem dX7_hidden_45 : decode cX7_hidden 45 = .ok (.iload_n 1, 1) := by decide +kernel
theorem dX7_hidden_46 : decode cX7_hidden 46 = .ok (.invokestatic 118, 3) := by decide +kernel
theorem dX7_hidden_49 : decode cX7_hidden 49 = .ok (.istore 4, 2) := by decide +kernel
theorem dX7_hidden_51 : decode cX7_hidden 51 = .ok (.aload_n 0, 1) := by decide +kernel
theorem dX7_hidden_52 : decode cX7_hidden 52 = .ok (.getfield 10, 3) := by decide +kernel
theorem dX7_hidden_55 : decode cX7_hidden 55 = .ok (.getfield 121, 3) := by decide +kernel
theorem dX7_hidden_58 : decode cX7_hidden 58 = .ok (.iload 4, 2) := by decide +kernel
theorem dX7_hidden_60 : decode cX7_hidden 60 = .ok (.iaload, 1) := by decide +kernel
theorem dX7_hidden_61 : decode cX7_hidden 61 = .ok (.iconst (-1), 1) := by decide +kernel
theorem dX7_hidden_62 : decode cX7_hidden 62 = .ok (.if_icmp .eq 53, 3) := by decide +kernel
theorem dX7_hidden_65 : decode cX7_hidden 65 = .ok (.aload_n 0, 1) := by decide +kernel
theorem dX7_hidden_66 : decode cX7_hidden 66 = .ok (.getfield 19, 3) := by decide +kernel
theorem dX7_hidden_69 : decode cX7_hidden 69 = .ok (.aload_n 0, 1) := by decide +kernel
theorem dX7_hidden_70 : decode cX7_hidden 70 = .ok (.getfield 10, 3) := by decide +kernel
theorem dX7_hidden_73 : decode cX7_hidden 73 = .ok (.invokevirtual 216, 3) := by decide +kernel
theorem dX7_hidden_76 : decode cX7_hidden 76 = .ok (.aload_n 0, 1) := by decide +kernel
theorem dX7_hidden_77 : decode cX7_hidden 77 = .ok (.getfield 19, 3) := by decide +kernel
theorem dX7_hidden_80 : decode cX7_hidden 80 = .ok (.iload 4, 2) := by decide +kernel
theorem dX7_hidden_82 : decode cX7_hidden 82 = .ok (.invokevirtual 142, 3) := by decide +kernel
theorem dX7_hidden_85 : decode cX7_hidden 85 = .ok (.aload_n 0, 1) := by decide +kernel
theorem dX7_hidden_86 : decode cX7_hidden 86 = .ok (.getfield 52, 3) := by decide +kernel
theorem dX7_hidden_89 : decode cX7_hidden 89 = .ok (.iload_n 1, 1) := by decide +kernel
theorem dX7_hidden_90 : decode cX7_hidden 90 = .ok (.aaload, 1) := by decide +kernel
theorem dX7_hidden_91 : decode cX7_hidden 91 = .ok (.aload_n 0, 1) := by decide +kernel
theorem dX7_hidden_92 : decode cX7_hidden 92 = .ok (.getfield 25, 3) := by decide +kernel
theorem dX7_hidden_95 : decode cX7_hidden 95 = .ok (.aload_n 0, 1) := by decide +kernel
theorem dX7_hidden_96 : decode cX7_hidden 96 = .ok (.getfield 19, 3) := by decide +kernel
theorem dX7_hidden_99 : decode cX7_hidden 99 = .ok (.iload_n 1, 1) := by decide +kernel
theorem dX7_hidden_100 : decode cX7_hidden 100 = .ok (.invokevirtual 162, 3) := by decide +kernel
theorem dX7_hidden_103 : decode cX7_hidden 103 = .ok (.invokevirtual 220, 3) := by decide +kernel
theorem dX7_hidden_106 : decode cX7_hidden 106 = .ok (.ifCond .eq 9, 3) := by decide +kernel
theorem dX7_hidden_109 : decode cX7_hidden 109 = .ok (.iload_n 2, 1) := by decide +kernel
theorem dX7_hidden_110 : decode cX7_hidden 110 = .ok (.iconst 1, 1) := by decide +kernel
theorem dX7_hidden_111 : decode cX7_hidden 111 = .ok (.iload_n 3, 1) := by decide +kernel
theorem dX7_hidden_112 : decode cX7_hidden 112 = .ok (.ishl, 1) := by decide +kernel
theorem dX7_hidden_113 : decode cX7_hidden 113 = .ok (.ior, 1) := by decide +kernel
theorem dX7_hidden_114 : decode cX7_hidden 114 = .ok (.istore_n 2, 1) := by decide +kernel
theorem dX7_hidden_115 : decode cX7_hidden 115 = .ok (.iinc 3 1, 3) := by decide +kernel
theorem dX7_hidden_118 : decode cX7_hidden 118 = .ok (.goto (-80), 3) := by decide +kernel
theorem dX7_hidden_121 : decode cX7_hidden 121 = .ok (.iload_n 2, 1) := by decide +kernel
theorem dX7_hidden_122 : decode cX7_hidden 122 = .ok (.ireturn, 1) := by decide +kernel
theorem dX7_without_0 : decode cX7_without 0 = .ok (.iload_n 1, 1) := by decide +kernel
theorem dX7_without_1 : decode cX7_without 1 = .ok (.invokestatic 83, 3) := by decide +kernel
theorem dX7_without_4 : decode cX7_without 4 = .ok (.ifCond .ne 10, 3) := by decide +kernel
theorem dX7_without_7 : decode cX7_without 7 = .ok (.iload_n 2, 1) := by decide +kernel
theorem dX7_without_8 : decode cX7_without 8 = .ok (.invokestatic 108, 3) := by decide +kernel
theorem dX7_without_11 : decode cX7_without 11 = .ok (.ifCond .eq 9, 3) := by decide +kernel
theorem dX7_without_14 : decode cX7_without 14 = .ok (.aload_n 0, 1) := by decide +kernel
theorem dX7_without_15 : decode cX7_without 15 = .ok (.iconst (-1), 1) := by decide +kernel
theorem dX7_without_16 : decode cX7_without 16 = .ok (.invokevirtual 61, 3) := by decide +kernel
theorem dX7_without_19 : decode cX7_without 19 = .ok (.ireturn, 1) := by decide +kernel
theorem dX7_without_20 : decode cX7_without 20 = .ok (.aload_n 0, 1) := by decide +kernel
theorem dX7_without_21 : decode cX7_without 21 = .ok (.getfield 19, 3) := by decide +kernel
theorem dX7_without_24 : decode cX7_without 24 = .ok (.aload_n 0, 1) := by decide +kernel
theorem dX7_without_25 : decode cX7_without 25 = .ok (.getfield 10, 3) := by decide +kernel
theorem dX7_without_28 : decode cX7_without 28 = .ok (.invokevirtual 216, 3) := by decide +kernel
theorem dX7_without_31 : decode cX7_without 31 = .ok (.aload_n 0, 1) := by decide +kernel
theorem dX7_without_32 : decode cX7_without 32 = .ok (.getfield 19, 3) := by decide +kernel
theorem dX7_without_35 : decode cX7_without 35 = .ok (.dup, 1) := by decide +kernel
theorem dX7_without_36 : decode cX7_without 36 = .ok (.getfield 224, 3) := by decide +kernel
theorem dX7_without_39 : decode cX7_without 39 = .ok (.iconst 1, 1) := by decide +kernel
theorem dX7_without_40 : decode cX7_without 40 = .ok (.iload_n 1, 1) := by decide +kernel
theorem dX7_without_41 : decode cX7_without 41 = .ok (.ishl, 1) := by decide +kernel
theorem dX7_without_42 : decode cX7_without 42 = .ok (.iconst (-1), 1) := by decide +kernel
theorem dX7_without_43 : decode cX7_without 43 = .ok (.ixor, 1) := by decide +kernel
theorem dX7_without_44 : decode cX7_without 44 = .ok (.iand, 1) := by decide +kernel
theorem dX7_without_45 : decode cX7_without 45 = .ok (.putfield 224, 3) := by decide +kernel
theorem dX7_without_48 : decode cX7_without 48 = .ok (.aload_n 0, 1) := by decide +kernel
theorem dX7_without_49 : decode cX7_without 49 = .ok (.getfield 25, 3) := by decide +kernel
theorem dX7_without_52 : decode cX7_without 52 = .ok (.aload_n 0, 1) := by decide +kernel
theorem dX7_without_53 : decode cX7_without 53 = .ok (.getfield 19, 3) := by decide +kernel
theorem dX7_without_56 : decode cX7_without 56 = .ok (.iload_n 2, 1) := by decide +kernel
theorem dX7_without_57 : decode cX7_without 57 = .ok (.invokevirtual 162, 3) := by decide +kernel
theorem dX7_without_60 : decode cX7_without 60 = .ok (.invokevirtual 227, 3) := by decide +kernel
theorem dX7_without_63 : decode cX7_without 63 = .ok (.ireturn, 1) := by decide +kernel
theorem dX7_turn_0 : decode cX7_turn 0 = .ok (.iload_n 1, 1) := by decide +kernel
theorem dX7_turn_1 : decode cX7_turn 1 = .ok (.invokestatic 108, 3) := by decide +kernel
theorem dX7_turn_4 : decode cX7_turn 4 = .ok (.ifCond .eq 7, 3) := by decide +kernel
theorem dX7_turn_7 : decode cX7_turn 7 = .ok (.iconst (-1), 1) := by decide +kernel
theorem dX7_turn_8 : decode cX7_turn 8 = .ok (.goto 10, 3) := by decide +kernel
theorem dX7_turn_11 : decode cX7_turn 11 = .ok (.iload_n 2, 1) := by decide +kernel
theorem dX7_turn_12 : decode cX7_turn 12 = .ok (.sipush 999, 3) := by decide +kernel
theorem dX7_turn_15 : decode cX7_turn 15 = .ok (.invokestatic 94, 3) := by decide +kernel
theorem dX7_turn_18 : decode cX7_turn 18 = .ok (.istore_n 3, 1) := by decide +kernel
theorem dX7_turn_19 : decode cX7_turn 19 = .ok (.iload_n 3, 1) := by decide +kernel
theorem dX7_turn_20 : decode cX7_turn 20 = .ok (.ifCond .eq 9, 3) := by decide +kernel
theorem dX7_turn_23 : decode cX7_turn 23 = .ok (.aload_n 0, 1) := by decide +kernel
theorem dX7_turn_24 : decode cX7_turn 24 = .ok (.iload_n 3, 1) := by decide +kernel
theorem dX7_turn_25 : decode cX7_turn 25 = .ok (.invokevirtual 61, 3) := by decide +kernel
theorem dX7_turn_28 : decode cX7_turn 28 = .ok (.ireturn, 1) := by decide +kernel
theorem dX7_turn_29 : decode cX7_turn 29 = .ok (.aload_n 0, 1) := by decide +kernel
theorem dX7_turn_30 : decode cX7_turn 30 = .ok (.getfield 25, 3) := by decide +kernel
theorem dX7_turn_33 : decode cX7_turn 33 = .ok (.aload_n 0, 1) := by decide +kernel
theorem dX7_turn_34 : decode cX7_turn 34 = .ok (.getfield 10, 3) := by decide +kernel
theorem dX7_turn_37 : decode cX7_turn 37 = .ok (.iload_n 1, 1) := by decide +kernel
theorem dX7_turn_38 : decode cX7_turn 38 = .ok (.invokevirtual 162, 3) := by decide +kernel
theorem dX7_turn_41 : decode cX7_turn 41 = .ok (.invokevirtual 227, 3) := by decide +kernel
theorem dX7_turn_44 : decode cX7_turn 44 = .ok (.iload_n 2, 1) := by decide +kernel
theorem dX7_turn_45 : decode cX7_turn 45 = .ok (.if_icmp .ne 6, 3) := by decide +kernel
theorem dX7_turn_48 : decode cX7_turn 48 = .ok (.bipush (-9), 2) := by decide +kernel
theorem dX7_turn_50 : decode cX7_turn 50 = .ok (.ireturn, 1) := by decide +kernel
theorem dX7_turn_51 : decode cX7_turn 51 = .ok (.aload_n 0, 1) := by decide +kernel
theorem dX7_turn_52 : decode cX7_turn 52 = .ok (.getfield 19, 3) := by decide +kernel
theorem dX7_turn_55 : decode cX7_turn 55 = .ok (.aload_n 0, 1) := by decide +kernel
theorem dX7_turn_56 : decode cX7_turn 56 = .ok (.getfield 10, 3) := by decide +kernel
theorem dX7_turn_59 : decode cX7_turn 59 = .ok (.invokevirtual 216, 3) := by decide +kernel
theorem dX7_turn_62 : decode cX7_turn 62 = .ok (.iconst 0, 1) := by decide +kernel
theorem dX7_turn_63 : decode cX7_turn 63 = .ok (.istore 4, 2) := by decide +kernel
theorem dX7_turn_65 : decode cX7_turn 65 = .ok (.iload 4, 2) := by decide +kernel
theorem dX7_turn_67 : decode cX7_turn 67 = .ok (.bipush 6, 2) := by decide +kernel
theorem dX7_turn_69 : decode cX7_turn 69 = .ok (.if_icmp .ge 50, 3) := by decide +kernel
theorem dX7_turn_72 : decode cX7_turn 72 = .ok (.aload_n 0, 1) := by decide +kernel
theorem dX7_turn_73 : decode cX7_turn 73 = .ok (.getfield 19, 3) := by decide +kernel
theorem dX7_turn_76 : decode cX7_turn 76 = .ok (.aload_n 0, 1) := by decide +kernel
theorem dX7_turn_77 : decode cX7_turn 77 = .ok (.getfield 10, 3) := by decide +kernel
theorem dX7_turn_80 : decode cX7_turn 80 = .ok (.getfield 224, 3) := by decide +kernel
theorem dX7_turn_83 : decode cX7_turn 83 = .ok (.iconst 1, 1) := by decide +kernel
theorem dX7_turn_84 : decode cX7_turn 84 = .ok (.iload 4, 2) := by decide +kernel
theorem dX7_turn_86 : decode cX7_turn 86 = .ok (.ishl, 1) := by decide +kernel
theorem dX7_turn_87 : decode cX7_turn 87 = .ok (.ixor, 1) := by decide +kernel
theorem dX7_turn_88 : decode cX7_turn 88 = .ok (.putfield 224, 3) := by decide +kernel
theorem dX7_turn_91 : decode cX7_turn 91 = .ok (.aload_n 0, 1) := by decide +kernel
theorem dX7_turn_92 : decode cX7_turn 92 = .ok (.getfield 25, 3) := by decide +kernel
theorem dX7_turn_95 : decode cX7_turn 95 = .ok (.aload_n 0, 1) := by decide +kernel
theorem dX7_turn_96 : decode cX7_turn 96 = .ok (.getfield 19, 3) := by decide +kernel
theorem dX7_turn_99 : decode cX7_turn 99 = .ok (.iload_n 1, 1) := by decide +kernel
theorem dX7_turn_100 : decode cX7_turn 100 = .ok (.invokevirtual 162, 3) := by decide +kernel
theorem dX7_turn_103 : decode cX7_turn 103 = .ok (.invokevirtual 227, 3) := by decide +kernel
theorem dX7_turn_106 : decode cX7_turn 106 = .ok (.iload_n 2, 1) := by decide +kernel
theorem dX7_turn_107 : decode cX7_turn 107 = .ok (.if_icmp .ne 6, 3) := by decide +kernel
theorem dX7_turn_110 : decode cX7_turn 110 = .ok (.iload 4, 2) := by decide +kernel
theorem dX7_turn_112 : decode cX7_turn 112 = .ok (.ireturn, 1) := by decide +kernel
theorem dX7_turn_113 : decode cX7_turn 113 = .ok (.iinc 4 1, 3) := by decide +kernel
theorem dX7_turn_116 : decode cX7_turn 116 = .ok (.goto (-51), 3) := by decide +kernel
theorem dX7_turn_119 : decode cX7_turn 119 = .ok (.bipush (-9), 2) := by decide +kernel
theorem dX7_turn_121 : decode cX7_turn 121 = .ok (.ireturn, 1) := by decide +kernel
theorem dX7_set_0 : decode cX7_set 0 = .ok (.iload_n 1, 1) := by decide +kernel
theorem dX7_set_1 : decode cX7_set 1 = .ok (.invokestatic 83, 3) := by decide +kernel
theorem dX7_set_4 : decode cX7_set 4 = .ok (.ifCond .ne 17, 3) := by decide +kernel
theorem dX7_set_7 : decode cX7_set 7 = .ok (.iload_n 2, 1) := by decide +kernel
theorem dX7_set_8 : decode cX7_set 8 = .ok (.invokestatic 108, 3) := by decide +kernel
theorem dX7_set_11 : decode cX7_set 11 = .ok (.ifCond .ne 10, 3) := by decide +kernel
theorem dX7_set_14 : decode cX7_set 14 = .ok (.iload_n 3, 1) := by decide +kernel
theorem dX7_set_15 : decode cX7_set 15 = .ok (.invokestatic 108, 3) := by decide +kernel
theorem dX7_set_18 : decode cX7_set 18 = .ok (.ifCond .eq 7, 3) := by decide +kernel
theorem dX7_set_21 : decode cX7_set 21 = .ok (.iconst 1, 1) := by decide +kernel
theorem dX7_set_22 : decode cX7_set 22 = .ok (.goto 4, 3) := by decide +kernel
theorem dX7_set_25 : decode cX7_set 25 = .ok (.iconst 0, 1) := by decide +kernel
theorem dX7_set_26 : decode cX7_set 26 = .ok (.istore 5, 2) := by decide +kernel
theorem dX7_set_28 : decode cX7_set 28 = .ok (.iload 5, 2) := by decide +kernel
theorem dX7_set_30 : decode cX7_set 30 = .ok (.ifCond .eq 7, 3) := by decide +kernel
