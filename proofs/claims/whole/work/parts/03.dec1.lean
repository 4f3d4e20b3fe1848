/-! decode rows -/
theorem dX0_init_0 : decode cX0_init 0 = .ok (.aload_n 0, 1) := by decide +kernel
theorem dX0_init_1 : decode cX0_init 1 = .ok (.invokespecial 1, 3) := by decide +kernel
theorem dX0_init_4 : decode cX0_init 4 = .ok (.return_, 1) := by decide +kernel
theorem dX0_below_0 : decode cX0_below 0 = .ok (.aload_n 0, 1) := by decide +kernel
theorem dX0_below_1 : decode cX0_below 1 = .ok (.aload_n 0, 1) := by decide +kernel
theorem dX0_below_2 : decode cX0_below 2 = .ok (.getfield 7, 3) := by decide +kernel
theorem dX0_below_5 : decode cX0_below 5 = .ok (.ldc 13, 2) := by decide +kernel
theorem dX0_below_7 : decode cX0_below 7 = .ok (.imul, 1) := by decide +kernel
theorem dX0_below_8 : decode cX0_below 8 = .ok (.ldc 14, 2) := by decide +kernel
theorem dX0_below_10 : decode cX0_below 10 = .ok (.iadd, 1) := by decide +kernel
theorem dX0_below_11 : decode cX0_below 11 = .ok (.putfield 7, 3) := by decide +kernel
theorem dX0_below_14 : decode cX0_below 14 = .ok (.iload_n 1, 1) := by decide +kernel
theorem dX0_below_15 : decode cX0_below 15 = .ok (.ifCond .gt 7, 3) := by decide +kernel
theorem dX0_below_18 : decode cX0_below 18 = .ok (.iconst 0, 1) := by decide +kernel
theorem dX0_below_19 : decode cX0_below 19 = .ok (.goto 16, 3) := by decide +kernel
theorem dX0_below_22 : decode cX0_below 22 = .ok (.aload_n 0, 1) := by decide +kernel
theorem dX0_below_23 : decode cX0_below 23 = .ok (.getfield 7, 3) := by decide +kernel
theorem dX0_below_26 : decode cX0_below 26 = .ok (.ldc 15, 2) := by decide +kernel
theorem dX0_below_28 : decode cX0_below 28 = .ok (.iand, 1) := by decide +kernel
theorem dX0_below_29 : decode cX0_below 29 = .ok (.sipush 256, 3) := by decide +kernel
theorem dX0_below_32 : decode cX0_below 32 = .ok (.idiv, 1) := by decide +kernel
theorem dX0_below_33 : decode cX0_below 33 = .ok (.iload_n 1, 1) := by decide +kernel
theorem dX0_below_34 : decode cX0_below 34 = .ok (.irem, 1) := by decide +kernel
theorem dX0_below_35 : decode cX0_below 35 = .ok (.ireturn, 1) := by decide +kernel
theorem dX1_init_0 : decode cX1_init 0 = .ok (.aload_n 0, 1) := by decide +kernel
theorem dX1_init_1 : decode cX1_init 1 = .ok (.invokespecial 3, 3) := by decide +kernel
theorem dX1_init_4 : decode cX1_init 4 = .ok (.aload_n 0, 1) := by decide +kernel
theorem dX1_init_5 : decode cX1_init 5 = .ok (.bipush 10, 2) := by decide +kernel
theorem dX1_init_7 : decode cX1_init 7 = .ok (.newarray .int, 2) := by decide +kernel
theorem dX1_init_9 : decode cX1_init 9 = .ok (.putfield 9, 3) := by decide +kernel
theorem dX1_init_12 : decode cX1_init 12 = .ok (.aload_n 0, 1) := by decide +kernel
theorem dX1_init_13 : decode cX1_init 13 = .ok (.bipush 10, 2) := by decide +kernel
theorem dX1_init_15 : decode cX1_init 15 = .ok (.newarray .int, 2) := by decide +kernel
theorem dX1_init_17 : decode cX1_init 17 = .ok (.putfield 15, 3) := by decide +kernel
theorem dX1_init_20 : decode cX1_init 20 = .ok (.aload_n 0, 1) := by decide +kernel
theorem dX1_init_21 : decode cX1_init 21 = .ok (.bipush 10, 2) := by decide +kernel
theorem dX1_init_23 : decode cX1_init 23 = .ok (.newarray .int, 2) := by decide +kernel
theorem dX1_init_25 : decode cX1_init 25 = .ok (.putfield 18, 3) := by decide +kernel
theorem dX1_init_28 : decode cX1_init 28 = .ok (.aload_n 0, 1) := by decide +kernel
theorem dX1_init_29 : decode cX1_init 29 = .ok (.bipush 9, 2) := by decide +kernel
theorem dX1_init_31 : decode cX1_init 31 = .ok (.newarray .int, 2) := by decide +kernel
theorem dX1_init_33 : decode cX1_init 33 = .ok (.putfield 21, 3) := by decide +kernel
theorem dX1_init_36 : decode cX1_init 36 = .ok (.aload_n 0, 1) := by decide +kernel
theorem dX1_init_37 : decode cX1_init 37 = .ok (.bipush 9, 2) := by decide +kernel
theorem dX1_init_39 : decode cX1_init 39 = .ok (.newarray .int, 2) := by decide +kernel
theorem dX1_init_41 : decode cX1_init 41 = .ok (.putfield 24, 3) := by decide +kernel
theorem dX1_init_44 : decode cX1_init 44 = .ok (.aload_n 0, 1) := by decide +kernel
theorem dX1_init_45 : decode cX1_init 45 = .ok (.bipush 6, 2) := by decide +kernel
theorem dX1_init_47 : decode cX1_init 47 = .ok (.newarray .int, 2) := by decide +kernel
theorem dX1_init_49 : decode cX1_init 49 = .ok (.putfield 27, 3) := by decide +kernel
theorem dX1_init_52 : decode cX1_init 52 = .ok (.return_, 1) := by decide +kernel
theorem dX1_reset_0 : decode cX1_reset 0 = .ok (.aload_n 0, 1) := by decide +kernel
theorem dX1_reset_1 : decode cX1_reset 1 = .ok (.iconst 0, 1) := by decide +kernel
theorem dX1_reset_2 : decode cX1_reset 2 = .ok (.putfield 30, 3) := by decide +kernel
theorem dX1_reset_5 : decode cX1_reset 5 = .ok (.aload_n 0, 1) := by decide +kernel
theorem dX1_reset_6 : decode cX1_reset 6 = .ok (.iconst 0, 1) := by decide +kernel
theorem dX1_reset_7 : decode cX1_reset 7 = .ok (.putfield 34, 3) := by decide +kernel
theorem dX1_reset_10 : decode cX1_reset 10 = .ok (.aload_n 0, 1) := by decide +kernel
theorem dX1_reset_11 : decode cX1_reset 11 = .ok (.iconst 0, 1) := by decide +kernel
theorem dX1_reset_12 : decode cX1_reset 12 = .ok (.putfield 37, 3) := by decide +kernel
theorem dX1_reset_15 : decode cX1_reset 15 = .ok (.aload_n 0, 1) := by decide +kernel
theorem dX1_reset_16 : decode cX1_reset 16 = .ok (.iconst 0, 1) := by decide +kernel
theorem dX1_reset_17 : decode cX1_reset 17 = .ok (.putfield 40, 3) := by decide +kernel
theorem dX1_reset_20 : decode cX1_reset 20 = .ok (.aload_n 0, 1) := by decide +kernel
theorem dX1_reset_21 : decode cX1_reset 21 = .ok (.iconst 0, 1) := by decide +kernel
theorem dX1_reset_22 : decode cX1_reset 22 = .ok (.putfield 43, 3) := by decide +kernel
theorem dX1_reset_25 : decode cX1_reset 25 = .ok (.aload_n 0, 1) := by decide +kernel
theorem dX1_reset_26 : decode cX1_reset 26 = .ok (.iconst 0, 1) := by decide +kernel
theorem dX1_reset_27 : decode cX1_reset 27 = .ok (.putfield 46, 3) := by decide +kernel
theorem dX1_reset_30 : decode cX1_reset 30 = .ok (.aload_n 0, 1) := by decide +kernel
theorem dX1_reset_31 : decode cX1_reset 31 = .ok (.iconst 0, 1) := by decide +kernel
theorem dX1_reset_32 : decode cX1_reset 32 = .ok (.putfield 49, 3) := by decide +kernel
theorem dX1_reset_35 : decode cX1_reset 35 = .ok (.aload_n 0, 1) := by decide +kernel
theorem dX1_reset_36 : decode cX1_reset 36 = .ok (.iconst 0, 1) := by decide +kernel
theorem dX1_reset_37 : decode cX1_reset 37 = .ok (.putfield 52, 3) := by decide +kernel
theorem dX1_reset_40 : decode cX1_reset 40 = .ok (.return_, 1) := by decide +kernel
theorem dX1_addOffer_0 : decode cX1_addOffer 0 = .ok (.aload_n 0, 1) := by decide +kernel
theorem dX1_addOffer_1 : decode cX1_addOffer 1 = .ok (.getfield 27, 3) := by decide +kernel
theorem dX1_addOffer_4 : decode cX1_addOffer 4 = .ok (.aload_n 0, 1) := by decide +kernel
theorem dX1_addOffer_5 : decode cX1_addOffer 5 = .ok (.getfield 40, 3) := by decide +kernel
theorem dX1_addOffer_8 : decode cX1_addOffer 8 = .ok (.iload_n 1, 1) := by decide +kernel
theorem dX1_addOffer_9 : decode cX1_addOffer 9 = .ok (.iastore, 1) := by decide +kernel
theorem dX1_addOffer_10 : decode cX1_addOffer 10 = .ok (.aload_n 0, 1) := by decide +kernel
theorem dX1_addOffer_11 : decode cX1_addOffer 11 = .ok (.dup, 1) := by decide +kernel
theorem dX1_addOffer_12 : decode cX1_addOffer 12 = .ok (.getfield 40, 3) := by decide +kernel
theorem dX1_addOffer_15 : decode cX1_addOffer 15 = .ok (.iconst 1, 1) := by decide +kernel
theorem dX1_addOffer_16 : decode cX1_addOffer 16 = .ok (.iadd, 1) := by decide +kernel
theorem dX1_addOffer_17 : decode cX1_addOffer 17 = .ok (.putfield 40, 3) := by decide +kernel
theorem dX1_addOffer_20 : decode cX1_addOffer 20 = .ok (.aload_n 0, 1) := by decide +kernel
theorem dX1_addOffer_21 : decode cX1_addOffer 21 = .ok (.dup, 1) := by decide +kernel
theorem dX1_addOffer_22 : decode cX1_addOffer 22 = .ok (.getfield 43, 3) := by decide +kernel
theorem dX1_addOffer_25 : decode cX1_addOffer 25 = .ok (.iconst 1, 1) := by decide +kernel
theorem dX1_addOffer_26 : decode cX1_addOffer 26 = .ok (.iload_n 1, 1) := by decide +kernel
theorem dX1_addOffer_27 : decode cX1_addOffer 27 = .ok (.ishl, 1) := by decide +kernel
theorem dX1_addOffer_28 : decode cX1_addOffer 28 = .ok (.ior, 1) := by decide +kernel
theorem dX1_addOffer_29 : decode cX1_addOffer 29 = .ok (.putfield 43, 3) := by decide +kernel
theorem dX1_addOffer_32 : decode cX1_addOffer 32 = .ok (.return_, 1) := by decide +kernel
theorem dX1_offerLayer_0 : decode cX1_offerLayer 0 = .ok (.aload_n 0, 1) := by decide +kernel
theorem dX1_offerLayer_1 : decode cX1_offerLayer 1 = .ok (.getfield 27, 3) := by decide +kernel
theorem dX1_offerLayer_4 : decode cX1_offerLayer 4 = .ok (.aload_n 0, 1) := by decide +kernel
theorem dX1_offerLayer_5 : decode cX1_offerLayer 5 = .ok (.getfield 40, 3) := by decide +kernel
theorem dX1_offerLayer_8 : decode cX1_offerLayer 8 = .ok (.iconst 1, 1) := by decide +kernel
theorem dX1_offerLayer_9 : decode cX1_offerLayer 9 = .ok (.isub, 1) := by decide +kernel
theorem dX1_offerLayer_10 : decode cX1_offerLayer 10 = .ok (.iload_n 1, 1) := by decide +kernel
theorem dX1_offerLayer_11 : decode cX1_offerLayer 11 = .ok (.isub, 1) := by decide +kernel
theorem dX1_offerLayer_12 : decode cX1_offerLayer 12 = .ok (.iaload, 1) := by decide +kernel
theorem dX1_offerLayer_13 : decode cX1_offerLayer 13 = .ok (.ireturn, 1) := by decide +kernel
theorem dX1_numberOrNothing_0 : decode cX1_numberOrNothing 0 = .ok (.aload_n 0, 1) := by decide +kernel
theorem dX1_numberOrNothing_1 : decode cX1_numberOrNothing 1 = .ok (.getfield 30, 3) := by decide +kernel
theorem dX1_numberOrNothing_4 : decode cX1_numberOrNothing 4 = .ok (.ifCond .ne 10, 3) := by decide +kernel
theorem dX1_numberOrNothing_7 : decode cX1_numberOrNothing 7 = .ok (.aload_n 0, 1) := by decide +kernel
theorem dX1_numberOrNothing_8 : decode cX1_numberOrNothing 8 = .ok (.getfield 34, 3) := by decide +kernel
theorem dX1_numberOrNothing_11 : decode cX1_numberOrNothing 11 = .ok (.goto 5, 3) := by decide +kernel
theorem dX1_numberOrNothing_14 : decode cX1_numberOrNothing 14 = .ok (.bipush (-9), 2) := by decide +kernel
theorem dX1_numberOrNothing_16 : decode cX1_numberOrNothing 16 = .ok (.ireturn, 1) := by decide +kernel
theorem dX1_takeAlone_0 : decode cX1_takeAlone 0 = .ok (.aload_n 0, 1) := by decide +kernel
theorem dX1_takeAlone_1 : decode cX1_takeAlone 1 = .ok (.aload_n 2, 1) := by decide +kernel
theorem dX1_takeAlone_2 : decode cX1_takeAlone 2 = .ok (.getfield 30, 3) := by decide +kernel
theorem dX1_takeAlone_5 : decode cX1_takeAlone 5 = .ok (.putfield 30, 3) := by decide +kernel
theorem dX1_takeAlone_8 : decode cX1_takeAlone 8 = .ok (.aload_n 0, 1) := by decide +kernel
theorem dX1_takeAlone_9 : decode cX1_takeAlone 9 = .ok (.aload_n 2, 1) := by decide +kernel
theorem dX1_takeAlone_10 : decode cX1_takeAlone 10 = .ok (.getfield 34, 3) := by decide +kernel
theorem dX1_takeAlone_13 : decode cX1_takeAlone 13 = .ok (.putfield 34, 3) := by decide +kernel
theorem dX1_takeAlone_16 : decode cX1_takeAlone 16 = .ok (.aload_n 0, 1) := by decide +kernel
theorem dX1_takeAlone_17 : decode cX1_takeAlone 17 = .ok (.iconst 1, 1) := by decide +kernel
theorem dX1_takeAlone_18 : decode cX1_takeAlone 18 = .ok (.iload_n 1, 1) := by decide +kernel
theorem dX1_takeAlone_19 : decode cX1_takeAlone 19 = .ok (.ishl, 1) := by decide +kernel
theorem dX1_takeAlone_20 : decode cX1_takeAlone 20 = .ok (.putfield 46, 3) := by decide +kernel
theorem dX1_takeAlone_23 : decode cX1_takeAlone 23 = .ok (.aload_n 0, 1) := by decide +kernel
theorem dX1_takeAlone_24 : decode cX1_takeAlone 24 = .ok (.iconst 1, 1) := by decide +kernel
theorem dX1_takeAlone_25 : decode cX1_takeAlone 25 = .ok (.iload_n 1, 1) := by decide +kernel
theorem dX1_takeAlone_26 : decode cX1_takeAlone 26 = .ok (.ishl, 1) := by decide +kernel
theorem dX1_takeAlone_27 : decode cX1_takeAlone 27 = .ok (.aload_n 2, 1) := by decide +kernel
theorem dX1_takeAlone_28 : decode cX1_takeAlone 28 = .ok (.getfield 49, 3) := by decide +kernel
theorem dX1_takeAlone_31 : decode cX1_takeAlone 31 = .ok (.ior, 1) := by decide +kernel
theorem dX1_takeAlone_32 : decode cX1_takeAlone 32 = .ok (.putfield 49, 3) := by decide +kernel
theorem dX1_takeAlone_35 : decode cX1_takeAlone 35 = .ok (.aload_n 0, 1) := by decide +kernel
theorem dX1_takeAlone_36 : decode cX1_takeAlone 36 = .ok (.getfield 30, 3) := by decide +kernel
theorem dX1_takeAlone_39 : decode cX1_takeAlone 39 = .ok (.iconst 1, 1) := by decide +kernel
theorem dX1_takeAlone_40 : decode cX1_takeAlone 40 = .ok (.if_icmp .ne 41, 3) := by decide +kernel
theorem dX1_takeAlone_43 : decode cX1_takeAlone 43 = .ok (.aload_n 2, 1) := by decide +kernel
theorem dX1_takeAlone_44 : decode cX1_takeAlone 44 = .ok (.getfield 9, 3) := by decide +kernel
theorem dX1_takeAlone_47 : decode cX1_takeAlone 47 = .ok (.iconst 0, 1) := by decide +kernel
theorem dX1_takeAlone_48 : decode cX1_takeAlone 48 = .ok (.aload_n 0, 1) := by decide +kernel
theorem dX1_takeAlone_49 : decode cX1_takeAlone 49 = .ok (.getfield 9, 3) := by decide +kernel
theorem dX1_takeAlone_52 : decode cX1_takeAlone 52 = .ok (.iconst 0, 1) := by decide +kernel
theorem dX1_takeAlone_53 : decode cX1_takeAlone 53 = .ok (.bipush 10, 2) := by decide +kernel
theorem dX1_takeAlone_55 : decode cX1_takeAlone 55 = .ok (.invokestatic 55, 3) := by decide +kernel
theorem dX1_takeAlone_58 : decode cX1_takeAlone 58 = .ok (.aload_n 2, 1) := by decide +kernel
theorem dX1_takeAlone_59 : decode cX1_takeAlone 59 = .ok (.getfield 15, 3) := by decide +kernel
theorem dX1_takeAlone_62 : decode cX1_takeAlone 62 = .ok (.iconst 0, 1) := by decide +kernel
theorem dX1_takeAlone_63 : decode cX1_takeAlone 63 = .ok (.aload_n 0, 1) := by decide +kernel
theorem dX1_takeAlone_64 : decode cX1_takeAlone 64 = .ok (.getfield 15, 3) := by decide +kernel
theorem dX1_takeAlone_67 : decode cX1_takeAlone 67 = .ok (.iconst 0, 1) := by decide +kernel
theorem dX1_takeAlone_68 : decode cX1_takeAlone 68 = .ok (.bipush 10, 2) := by decide +kernel
theorem dX1_takeAlone_70 : decode cX1_takeAlone 70 = .ok (.invokestatic 55, 3) := by decide +kernel
theorem dX1_takeAlone_73 : decode cX1_takeAlone 73 = .ok (.aload_n 0, 1) := by decide +kernel
theorem dX1_takeAlone_74 : decode cX1_takeAlone 74 = .ok (.getfield 18, 3) := by decide +kernel
theorem dX1_takeAlone_77 : decode cX1_takeAlone 77 = .ok (.iload_n 1, 1) := by decide +kernel
theorem dX1_takeAlone_78 : decode cX1_takeAlone 78 = .ok (.invokestatic 61, 3) := by decide +kernel
theorem dX1_takeAlone_81 : decode cX1_takeAlone 81 = .ok (.iconst 0, 1) := by decide +kernel
theorem dX1_takeAlone_82 : decode cX1_takeAlone 82 = .ok (.ireturn, 1) := by decide +kernel
theorem dX1_takeGreater_0 : decode cX1_takeGreater 0 = .ok (.aload_n 2, 1) := by decide +kernel
theorem dX1_takeGreater_1 : decode cX1_takeGreater 1 = .ok (.getfield 30, 3) := by decide +kernel
theorem dX1_takeGreater_4 : decode cX1_takeGreater 4 = .ok (.ifCond .eq 5, 3) := by decide +kernel
theorem dX1_takeGreater_7 : decode cX1_takeGreater 7 = .ok (.iconst 3, 1) := by decide +kernel
theorem dX1_takeGreater_8 : decode cX1_takeGreater 8 = .ok (.ireturn, 1) := by decide +kernel
theorem dX1_takeGreater_9 : decode cX1_takeGreater 9 = .ok (.aload_n 0, 1) := by decide +kernel
theorem dX1_takeGreater_10 : decode cX1_takeGreater 10 = .ok (.getfield 46, 3) := by decide +kernel
theorem dX1_takeGreater_13 : decode cX1_takeGreater 13 = .ok (.ifCond .eq 14, 3) := by decide +kernel
theorem dX1_takeGreater_16 : decode cX1_takeGreater 16 = .ok (.aload_n 2, 1) := by decide +kernel
theorem dX1_takeGreater_17 : decode cX1_takeGreater 17 = .ok (.getfield 34, 3) := by decide +kernel
theorem dX1_takeGreater_20 : decode cX1_takeGreater 20 = .ok (.aload_n 0, 1) := by decide +kernel
theorem dX1_takeGreater_21 : decode cX1_takeGreater 21 = .ok (.getfield 34, 3) := by decide +kernel
theorem dX1_takeGreater_24 : decode cX1_takeGreater 24 = .ok (.if_icmp .le 7, 3) := by decide +kernel
theorem dX1_takeGreater_27 : decode cX1_takeGreater 27 = .ok (.iconst 1, 1) := by decide +kernel
theorem dX1_takeGreater_28 : decode cX1_takeGreater 28 = .ok (.goto 4, 3) := by decide +kernel
theorem dX1_takeGreater_31 : decode cX1_takeGreater 31 = .ok (.iconst 0, 1) := by decide +kernel
theorem dX1_takeGreater_32 : decode cX1_takeGreater 32 = .ok (.istore_n 3, 1) := by decide +kernel
theorem dX1_takeGreater_33 : decode cX1_takeGreater 33 = .ok (.iload_n 3, 1) := by decide +kernel
theorem dX1_takeGreater_34 : decode cX1_takeGreater 34 = .ok (.ifCond .eq 12, 3) := by decide +kernel
theorem dX1_takeGreater_37 : decode cX1_takeGreater 37 = .ok (.aload_n 0, 1) := by decide +kernel
theorem dX1_takeGreater_38 : decode cX1_takeGreater 38 = .ok (.iload_n 1, 1) := by decide +kernel
theorem dX1_takeGreater_39 : decode cX1_takeGreater 39 = .ok (.aload_n 2, 1) := by decide +kernel
theorem dX1_takeGreater_40 : decode cX1_takeGreater 40 = .ok (.invokevirtual 67, 3) := by decide +kernel
theorem dX1_takeGreater_43 : decode cX1_takeGreater 43 = .ok (.goto 4, 3) := by decide +kernel
theorem dX1_takeGreater_46 : decode cX1_takeGreater 46 = .ok (.iconst 0, 1) := by decide +kernel
theorem dX1_takeGreater_47 : decode cX1_takeGreater 47 = .ok (.ireturn, 1) := by decide +kernel
theorem dX1_takeToTotal_0 : decode cX1_takeToTotal 0 = .ok (.aload_n 2, 1) := by decide +kernel
theorem dX1_takeToTotal_1 : decode cX1_takeToTotal 1 = .ok (.getfield 30, 3) := by decide +kernel
theorem dX1_takeToTotal_4 : decode cX1_takeToTotal 4 = .ok (.ifCond .eq 5, 3) := by decide +kernel
theorem dX1_takeToTotal_7 : decode cX1_takeToTotal 7 = .ok (.iconst 3, 1) := by decide +kernel
theorem dX1_takeToTotal_8 : decode cX1_takeToTotal 8 = .ok (.ireturn, 1) := by decide +kernel
theorem dX1_takeToTotal_9 : decode cX1_takeToTotal 9 = .ok (.aload_n 0, 1) := by decide +kernel
theorem dX1_takeToTotal_10 : decode cX1_takeToTotal 10 = .ok (.iload_n 1, 1) := by decide +kernel
theorem dX1_takeToTotal_11 : decode cX1_takeToTotal 11 = .ok (.aload_n 2, 1) := by decide +kernel
theorem dX1_takeToTotal_12 : decode cX1_takeToTotal 12 = .ok (.invokevirtual 71, 3) := by decide +kernel
theorem dX1_takeToTotal_15 : decode cX1_takeToTotal 15 = .ok (.aload_n 0, 1) := by decide +kernel
theorem dX1_takeToTotal_16 : decode cX1_takeToTotal 16 = .ok (.aload_n 2, 1) := by decide +kernel
theorem dX1_takeToTotal_17 : decode cX1_takeToTotal 17 = .ok (.getfield 34, 3) := by decide +kernel
theorem dX1_takeToTotal_20 : decode cX1_takeToTotal 20 = .ok (.invokevirtual 75, 3) := by decide +kernel
theorem dX1_takeToTotal_23 : decode cX1_takeToTotal 23 = .ok (.ireturn, 1) := by decide +kernel
theorem dX1_takeSource_0 : decode cX1_takeSource 0 = .ok (.aload_n 0, 1) := by decide +kernel
theorem dX1_takeSource_1 : decode cX1_takeSource 1 = .ok (.dup, 1) := by decide +kernel
theorem dX1_takeSource_2 : decode cX1_takeSource 2 = .ok (.getfield 46, 3) := by decide +kernel
theorem dX1_takeSource_5 : decode cX1_takeSource 5 = .ok (.iconst 1, 1) := by decide +kernel
theorem dX1_takeSource_6 : decode cX1_takeSource 6 = .ok (.iload_n 1, 1) := by decide +kernel
theorem dX1_takeSource_7 : decode cX1_takeSource 7 = .ok (.ishl, 1) := by decide +kernel
theorem dX1_takeSource_8 : decode cX1_takeSource 8 = .ok (.ior, 1) := by decide +kernel
theorem dX1_takeSource_9 : decode cX1_takeSource 9 = .ok (.putfield 46, 3) := by decide +kernel
theorem dX1_takeSource_12 : decode cX1_takeSource 12 = .ok (.aload_n 0, 1) := by decide +kernel
theorem dX1_takeSource_13 : decode cX1_takeSource 13 = .ok (.dup, 1) := by decide +kernel
theorem dX1_takeSource_14 : decode cX1_takeSource 14 = .ok (.getfield 49, 3) := by decide +kernel
theorem dX1_takeSource_17 : decode cX1_takeSource 17 = .ok (.iconst 1, 1) := by decide +kernel
theorem dX1_takeSource_18 : decode cX1_takeSource 18 = .ok (.iload_n 1, 1) := by decide +kernel
theorem dX1_takeSource_19 : decode cX1_takeSource 19 = .ok (.ishl, 1) := by decide +kernel
theorem dX1_takeSource_20 : decode cX1_takeSource 20 = .ok (.aload_n 2, 1) := by decide +kernel
theorem dX1_takeSource_21 : decode cX1_takeSource 21 = .ok (.getfield 49, 3) := by decide +kernel
theorem dX1_takeSource_24 : decode cX1_takeSource 24 = .ok (.ior, 1) := by decide +kernel
theorem dX1_takeSource_25 : decode cX1_takeSource 25 = .ok (.ior, 1) := by decide +kernel
theorem dX1_takeSource_26 : decode cX1_takeSource 26 = .ok (.putfield 49, 3) := by decide +kernel
theorem dX1_takeSource_29 : decode cX1_takeSource 29 = .ok (.return_, 1) := by decide +kernel
theorem dX1_increase_0 : decode cX1_increase 0 = .ok (.aload_n 0, 1) := by decide +kernel
theorem dX1_increase_1 : decode cX1_increase 1 = .ok (.getfield 30, 3) := by decide +kernel
theorem dX1_increase_4 : decode cX1_increase 4 = .ok (.ifCond .eq 5, 3) := by decide +kernel
theorem dX1_increase_7 : decode cX1_increase 7 = .ok (.iconst 3, 1) := by decide +kernel
theorem dX1_increase_8 : decode cX1_increase 8 = .ok (.ireturn, 1) := by decide +kernel
theorem dX1_increase_9 : decode cX1_increase 9 = .ok (.aload_n 0, 1) := by decide +kernel
theorem dX1_increase_10 : decode cX1_increase 10 = .ok (.dup, 1) := by decide +kernel
theorem dX1_increase_11 : decode cX1_increase 11 = .ok (.getfield 34, 3) := by decide +kernel
theorem dX1_increase_14 : decode cX1_increase 14 = .ok (.iload_n 1, 1) := by decide +kernel
theorem dX1_increase_15 : decode cX1_increase 15 = .ok (.iadd, 1) := by decide +kernel
theorem dX1_increase_16 : decode cX1_increase 16 = .ok (.putfield 34, 3) := by decide +kernel
theorem dX1_increase_19 : decode cX1_increase 19 = .ok (.aload_n 0, 1) := by decide +kernel
theorem dX1_increase_20 : decode cX1_increase 20 = .ok (.getfield 34, 3) := by decide +kernel
theorem dX1_increase_23 : decode cX1_increase 23 = .ok (.sipush 999, 3) := by decide +kernel
theorem dX1_increase_26 : decode cX1_increase 26 = .ok (.if_icmp .le 7, 3) := by decide +kernel
theorem dX1_increase_29 : decode cX1_increase 29 = .ok (.iconst 4, 1) := by decide +kernel
theorem dX1_increase_30 : decode cX1_increase 30 = .ok (.goto 4, 3) := by decide +kernel
theorem dX1_increase_33 : decode cX1_increase 33 = .ok (.iconst 0, 1) := by decide +kernel
theorem dX1_increase_34 : decode cX1_increase 34 = .ok (.ireturn, 1) := by decide +kernel
theorem dX1_takeItems_0 : decode cX1_takeItems 0 = .ok (.aload_n 2, 1) := by decide +kernel
theorem dX1_takeItems_1 : decode cX1_takeItems 1 = .ok (.getfield 30, 3) := by decide +kernel
theorem dX1_takeItems_4 : decode cX1_takeItems 4 = .ok (.iconst 1, 1) := by decide +kernel
theorem dX1_takeItems_5 : decode cX1_takeItems 5 = .ok (.if_icmp .eq 5, 3) := by decide +kernel
theorem dX1_takeItems_8 : decode cX1_takeItems 8 = .ok (.iconst 3, 1) := by decide +kernel
theorem dX1_takeItems_9 : decode cX1_takeItems 9 = .ok (.ireturn, 1) := by decide +kernel
theorem dX1_takeItems_10 : decode cX1_takeItems 10 = .ok (.aload_n 0, 1) := by decide +kernel
theorem dX1_takeItems_11 : decode cX1_takeItems 11 = .ok (.iconst 1, 1) := by decide +kernel
theorem dX1_takeItems_12 : decode cX1_takeItems 12 = .ok (.putfield 30, 3) := by decide +kernel
theorem dX1_takeItems_15 : decode cX1_takeItems 15 = .ok (.aload_n 0, 1) := by decide +kernel
theorem dX1_takeItems_16 : decode cX1_takeItems 16 = .ok (.iload_n 1, 1) := by decide +kernel
theorem dX1_takeItems_17 : decode cX1_takeItems 17 = .ok (.aload_n 2, 1) := by decide +kernel
theorem dX1_takeItems_18 : decode cX1_takeItems 18 = .ok (.invokevirtual 71, 3) := by decide +kernel
theorem dX1_takeItems_21 : decode cX1_takeItems 21 = .ok (.iconst 0, 1) := by decide +kernel
theorem dX1_takeItems_22 : decode cX1_takeItems 22 = .ok (.istore_n 3, 1) := by decide +kernel
theorem dX1_takeItems_23 : decode cX1_takeItems 23 = .ok (.iload_n 3, 1) := by decide +kernel
theorem dX1_takeItems_24 : decode cX1_takeItems 24 = .ok (.aload_n 2, 1) := by decide +kernel
theorem dX1_takeItems_25 : decode cX1_takeItems 25 = .ok (.getfield 34, 3) := by decide +kernel
theorem dX1_takeItems_28 : decode cX1_takeItems 28 = .ok (.if_icmp .ge 31, 3) := by decide +kernel
theorem dX1_takeItems_31 : decode cX1_takeItems 31 = .ok (.aload_n 0, 1) := by decide +kernel
theorem dX1_takeItems_32 : decode cX1_takeItems 32 = .ok (.aload_n 2, 1) := by decide +kernel
theorem dX1_takeItems_33 : decode cX1_takeItems 33 = .ok (.getfield 9, 3) := by decide +kernel
theorem dX1_takeItems_36 : decode cX1_takeItems 36 = .ok (.iload_n 3, 1) := by decide +kernel
theorem dX1_takeItems_37 : decode cX1_takeItems 37 = .ok (.iaload, 1) := by decide +kernel
theorem dX1_takeItems_38 : decode cX1_takeItems 38 = .ok (.aload_n 2, 1) := by decide +kernel
theorem dX1_takeItems_39 : decode cX1_takeItems 39 = .ok (.getfield 15, 3) := by decide +kernel
theorem dX1_takeItems_42 : decode cX1_takeItems 42 = .ok (.iload_n 3, 1) := by decide +kernel
theorem dX1_takeItems_43 : decode cX1_takeItems 43 = .ok (.iaload, 1) := by decide +kernel
theorem dX1_takeItems_44 : decode cX1_takeItems 44 = .ok (.iload_n 1, 1) := by decide +kernel
theorem dX1_takeItems_45 : decode cX1_takeItems 45 = .ok (.invokevirtual 79, 3) := by decide +kernel
theorem dX1_takeItems_48 : decode cX1_takeItems 48 = .ok (.ifCond .ne 5, 3) := by decide +kernel
theorem dX1_takeItems_51 : decode cX1_takeItems 51 = .ok (.iconst 4, 1) := by decide +kernel
theorem dX1_takeItems_52 : decode cX1_takeItems 52 = .ok (.ireturn, 1) := by decide +kernel
theorem dX1_takeItems_53 : decode cX1_takeItems 53 = .ok (.iinc 3 1, 3) := by decide +kernel
theorem dX1_takeItems_56 : decode cX1_takeItems 56 = .ok (.goto (-33), 3) := by decide +kernel
theorem dX1_takeItems_59 : decode cX1_takeItems 59 = .ok (.iconst 0, 1) := by decide +kernel
theorem dX1_takeItems_60 : decode cX1_takeItems 60 = .ok (.ireturn, 1) := by decide +kernel
theorem dX1_takeItem_0 : decode cX1_takeItem 0 = .ok (.iconst 0, 1) := by decide +kernel
theorem dX1_takeItem_1 : decode cX1_takeItem 1 = .ok (.istore 4, 2) := by decide +kernel
theorem dX1_takeItem_3 : decode cX1_takeItem 3 = .ok (.iload 4, 2) := by decide +kernel
theorem dX1_takeItem_5 : decode cX1_takeItem 5 = .ok (.aload_n 0, 1) := by decide +kernel
theorem dX1_takeItem_6 : decode cX1_takeItem 6 = .ok (.getfield 34, 3) := by decide +kernel
theorem dX1_takeItem_9 : decode cX1_takeItem 9 = .ok (.if_icmp .ge 20, 3) := by decide +kernel
theorem dX1_takeItem_12 : decode cX1_takeItem 12 = .ok (.aload_n 0, 1) := by decide +kernel
theorem dX1_takeItem_13 : decode cX1_takeItem 13 = .ok (.getfield 9, 3) := by decide +kernel
theorem dX1_takeItem_16 : decode cX1_takeItem 16 = .ok (.iload 4, 2) := by decide +kernel
theorem dX1_takeItem_18 : decode cX1_takeItem 18 = .ok (.iaload, 1) := by decide +kernel
theorem dX1_takeItem_19 : decode cX1_takeItem 19 = .ok (.iload_n 1, 1) := by decide +kernel
theorem dX1_takeItem_20 : decode cX1_takeItem 20 = .ok (.if_icmp .eq 9, 3) := by decide +kernel
theorem dX1_takeItem_23 : decode cX1_takeItem 23 = .ok (.iinc 4 1, 3) := by decide +kernel
theorem dX1_takeItem_26 : decode cX1_takeItem 26 = .ok (.goto (-23), 3) := by decide +kernel
theorem dX1_takeItem_29 : decode cX1_takeItem 29 = .ok (.iload 4, 2) := by decide +kernel
theorem dX1_takeItem_31 : decode cX1_takeItem 31 = .ok (.bipush 10, 2) := by decide +kernel
theorem dX1_takeItem_33 : decode cX1_takeItem 33 = .ok (.if_icmp .lt 5, 3) := by decide +kernel
theorem dX1_takeItem_36 : decode cX1_takeItem 36 = .ok (.iconst 0, 1) := by decide +kernel
theorem dX1_takeItem_37 : decode cX1_takeItem 37 = .ok (.ireturn, 1) := by decide +kernel
theorem dX1_takeItem_38 : decode cX1_takeItem 38 = .ok (.iload 4, 2) := by decide +kernel
theorem dX1_takeItem_40 : decode cX1_takeItem 40 = .ok (.aload_n 0, 1) := by decide +kernel
theorem dX1_takeItem_41 : decode cX1_takeItem 41 = .ok (.getfield 34, 3) := by decide +kernel
theorem dX1_takeItem_44 : decode cX1_takeItem 44 = .ok (.if_icmp .ne 13, 3) := by decide +kernel
theorem dX1_takeItem_47 : decode cX1_takeItem 47 = .ok (.aload_n 0, 1) := by decide +kernel
theorem dX1_takeItem_48 : decode cX1_takeItem 48 = .ok (.dup, 1) := by decide +kernel
theorem dX1_takeItem_49 : decode cX1_takeItem 49 = .ok (.getfield 34, 3) := by decide +kernel
theorem dX1_takeItem_52 : decode cX1_takeItem 52 = .ok (.iconst 1, 1) := by decide +kernel
theorem dX1_takeItem_53 : decode cX1_takeItem 53 = .ok (.iadd, 1) := by decide +kernel
theorem dX1_takeItem_54 : decode cX1_takeItem 54 = .ok (.putfield 34, 3) := by decide +kernel
theorem dX1_takeItem_57 : decode cX1_takeItem 57 = .ok (.aload_n 0, 1) := by decide +kernel
theorem dX1_takeItem_58 : decode cX1_takeItem 58 = .ok (.getfield 9, 3) := by decide +kernel
theorem dX1_takeItem_61 : decode cX1_takeItem 61 = .ok (.iload 4, 2) := by decide +kernel
theorem dX1_takeItem_63 : decode cX1_takeItem 63 = .ok (.iload_n 1, 1) := by decide +kernel
theorem dX1_takeItem_64 : decode cX1_takeItem 64 = .ok (.iastore, 1) := by decide +kernel
theorem dX1_takeItem_65 : decode cX1_takeItem 65 = .ok (.aload_n 0, 1) := by decide +kernel
theorem dX1_takeItem_66 : decode cX1_takeItem 66 = .ok (.getfield 15, 3) := by decide +kernel
theorem dX1_takeItem_69 : decode cX1_takeItem 69 = .ok (.iload 4, 2) := by decide +kernel
theorem dX1_takeItem_71 : decode cX1_takeItem 71 = .ok (.iload_n 2, 1) := by decide +kernel
theorem dX1_takeItem_72 : decode cX1_takeItem 72 = .ok (.iastore, 1) := by decide +kernel
theorem dX1_takeItem_73 : decode cX1_takeItem 73 = .ok (.aload_n 0, 1) := by decide +kernel
theorem dX1_takeItem_74 : decode cX1_takeItem 74 = .ok (.getfield 18, 3) := by decide +kernel
theorem dX1_takeItem_77 : decode cX1_takeItem 77 = .ok (.iload 4, 2) := by decide +kernel
theorem dX1_takeItem_79 : decode cX1_takeItem 79 = .ok (.iload_n 3, 1) := by decide +kernel
theorem dX1_takeItem_80 : decode cX1_takeItem 80 = .ok (.iastore, 1) := by decide +kernel
theorem dX1_takeItem_81 : decode cX1_takeItem 81 = .ok (.iconst 1, 1) := by decide +kernel
theorem dX1_takeItem_82 : decode cX1_takeItem 82 = .ok (.ireturn, 1) := by decide +kernel
theorem dX1_isInCycle_0 : decode cX1_isInCycle 0 = .ok (.aload_n 0, 1) := by decide +kernel
theorem dX1_isInCycle_1 : decode cX1_isInCycle 1 = .ok (.getfield 37, 3) := by decide +kernel
theorem dX1_isInCycle_4 : decode cX1_isInCycle 4 = .ok (.iconst 1, 1) := by decide +kernel
theorem dX1_isInCycle_5 : decode cX1_isInCycle 5 = .ok (.isub, 1) := by decide +kernel
theorem dX1_isInCycle_6 : decode cX1_isInCycle 6 = .ok (.istore_n 2, 1) := by decide +kernel
theorem dX1_isInCycle_7 : decode cX1_isInCycle 7 = .ok (.aload_n 0, 1) := by decide +kernel
theorem dX1_isInCycle_8 : decode cX1_isInCycle 8 = .ok (.getfield 30, 3) := by decide +kernel
theorem dX1_isInCycle_11 : decode cX1_isInCycle 11 = .ok (.iconst 2, 1) := by decide +kernel
theorem dX1_isInCycle_12 : decode cX1_isInCycle 12 = .ok (.if_icmp .ne 31, 3) := by decide +kernel
theorem dX1_isInCycle_15 : decode cX1_isInCycle 15 = .ok (.iload_n 2, 1) := by decide +kernel
theorem dX1_isInCycle_16 : decode cX1_isInCycle 16 = .ok (.ifCond .lt 27, 3) := by decide +kernel
theorem dX1_isInCycle_19 : decode cX1_isInCycle 19 = .ok (.aload_n 0, 1) := by decide +kernel
theorem dX1_isInCycle_20 : decode cX1_isInCycle 20 = .ok (.getfield 21, 3) := by decide +kernel
theorem dX1_isInCycle_23 : decode cX1_isInCycle 23 = .ok (.iload_n 2, 1) := by decide +kernel
theorem dX1_isInCycle_24 : decode cX1_isInCycle 24 = .ok (.iaload, 1) := by decide +kernel
theorem dX1_isInCycle_25 : decode cX1_isInCycle 25 = .ok (.iconst 2, 1) := by decide +kernel
theorem dX1_isInCycle_26 : decode cX1_isInCycle 26 = .ok (.if_icmp .ne 17, 3) := by decide +kernel
theorem dX1_isInCycle_29 : decode cX1_isInCycle 29 = .ok (.aload_n 0, 1) := by decide +kernel
theorem dX1_isInCycle_30 : decode cX1_isInCycle 30 = .ok (.getfield 24, 3) := by decide +kernel
theorem dX1_isInCycle_33 : decode cX1_isInCycle 33 = .ok (.iload_n 2, 1) := by decide +kernel
theorem dX1_isInCycle_34 : decode cX1_isInCycle 34 = .ok (.iaload, 1) := by decide +kernel
theorem dX1_isInCycle_35 : decode cX1_isInCycle 35 = .ok (.iload_n 1, 1) := by decide +kernel
theorem dX1_isInCycle_36 : decode cX1_isInCycle 36 = .ok (.if_icmp .ne 7, 3) := by decide +kernel
theorem dX1_isInCycle_39 : decode cX1_isInCycle 39 = .ok (.iconst 1, 1) := by decide +kernel
theorem dX1_isInCycle_40 : decode cX1_isInCycle 40 = .ok (.goto 4, 3) := by decide +kernel
theorem dX1_isInCycle_43 : decode cX1_isInCycle 43 = .ok (.iconst 0, 1) := by decide +kernel
theorem dX1_isInCycle_44 : decode cX1_isInCycle 44 = .ok (.ireturn, 1) := by decide +kernel
theorem dX1_keep_0 : decode cX1_keep 0 = .ok (.aload_n 0, 1) := by decide +kernel
theorem dX1_keep_1 : decode cX1_keep 1 = .ok (.aload_n 1, 1) := by decide +kernel
theorem dX1_keep_2 : decode cX1_keep 2 = .ok (.getfield 30, 3) := by decide +kernel
theorem dX1_keep_5 : decode cX1_keep 5 = .ok (.putfield 30, 3) := by decide +kernel
theorem dX1_keep_8 : decode cX1_keep 8 = .ok (.aload_n 0, 1) := by decide +kernel
theorem dX1_keep_9 : decode cX1_keep 9 = .ok (.aload_n 1, 1) := by decide +kernel
theorem dX1_keep_10 : decode cX1_keep 10 = .ok (.getfield 34, 3) := by decide +kernel
theorem dX1_keep_13 : decode cX1_keep 13 = .ok (.putfield 34, 3) := by decide +kernel
theorem dX1_keep_16 : decode cX1_keep 16 = .ok (.aload_n 0, 1) := by decide +kernel
theorem dX1_keep_17 : decode cX1_keep 17 = .ok (.aload_n 1, 1) := by decide +kernel
theorem dX1_keep_18 : decode cX1_keep 18 = .ok (.getfield 37, 3) := by decide +kernel
theorem dX1_keep_21 : decode cX1_keep 21 = .ok (.putfield 37, 3) := by decide +kernel
theorem dX1_keep_24 : decode cX1_keep 24 = .ok (.aload_n 1, 1) := by decide +kernel
theorem dX1_keep_25 : decode cX1_keep 25 = .ok (.getfield 9, 3) := by decide +kernel
theorem dX1_keep_28 : decode cX1_keep 28 = .ok (.iconst 0, 1) := by decide +kernel
theorem dX1_keep_29 : decode cX1_keep 29 = .ok (.aload_n 0, 1) := by decide +kernel
theorem dX1_keep_30 : decode cX1_keep 30 = .ok (.getfield 9, 3) := by decide +kernel
theorem dX1_keep_33 : decode cX1_keep 33 = .ok (.iconst 0, 1) := by decide +kernel
theorem dX1_keep_34 : decode cX1_keep 34 = .ok (.bipush 10, 2) := by decide +kernel
theorem dX1_keep_36 : decode cX1_keep 36 = .ok (.invokestatic 55, 3) := by decide +kernel
theorem dX1_keep_39 : decode cX1_keep 39 = .ok (.aload_n 1, 1) := by decide +kernel
theorem dX1_keep_40 : decode cX1_keep 40 = .ok (.getfield 15, 3) := by decide +kernel
theorem dX1_keep_43 : decode cX1_keep 43 = .ok (.iconst 0, 1) := by decide +kernel
theorem dX1_keep_44 : decode cX1_keep 44 = .ok (.aload_n 0, 1) := by decide +kernel
theorem dX1_keep_45 : decode cX1_keep 45 = .ok (.getfield 15, 3) := by decide +kernel
theorem dX1_keep_48 : decode cX1_keep 48 = .ok (.iconst 0, 1) := by decide +kernel
theorem dX1_keep_49 : decode cX1_keep 49 = .ok (.bipush 10, 2) := by decide +kernel
theorem dX1_keep_51 : decode cX1_keep 51 = .ok (.invokestatic 55, 3) := by decide +kernel
theorem dX1_keep_54 : decode cX1_keep 54 = .ok (.aload_n 1, 1) := by decide +kernel
theorem dX1_keep_55 : decode cX1_keep 55 = .ok (.getfield 21, 3) := by decide +kernel
theorem dX1_keep_58 : decode cX1_keep 58 = .ok (.iconst 0, 1) := by decide +kernel
theorem dX1_keep_59 : decode cX1_keep 59 = .ok (.aload_n 0, 1) := by decide +kernel
theorem dX1_keep_60 : decode cX1_keep 60 = .ok (.getfield 21, 3) := by decide +kernel
theorem dX1_keep_63 : decode cX1_keep 63 = .ok (.iconst 0, 1) := by decide +kernel
theorem dX1_keep_64 : decode cX1_keep 64 = .ok (.bipush 9, 2) := by decide +kernel
theorem dX1_keep_66 : decode cX1_keep 66 = .ok (.invokestatic 55, 3) := by decide +kernel
theorem dX1_keep_69 : decode cX1_keep 69 = .ok (.return_, 1) := by decide +kernel
theorem dX1_isLike_0 : decode cX1_isLike 0 = .ok (.aload_n 0, 1) := by decide +kernel
theorem dX1_isLike_1 : decode cX1_isLike 1 = .ok (.getfield 30, 3) := by decide +kernel
theorem dX1_isLike_4 : decode cX1_isLike 4 = .ok (.aload_n 1, 1) := by decide +kernel
theorem dX1_isLike_5 : decode cX1_isLike 5 = .ok (.getfield 30, 3) := by decide +kernel
theorem dX1_isLike_8 : decode cX1_isLike 8 = .ok (.if_icmp .eq 5, 3) := by decide +kernel
theorem dX1_isLike_11 : decode cX1_isLike 11 = .ok (.iconst 0, 1) := by decide +kernel
theorem dX1_isLike_12 : decode cX1_isLike 12 = .ok (.ireturn, 1) := by decide +kernel
theorem dX1_isLike_13 : decode cX1_isLike 13 = .ok (.aload_n 0, 1) := by decide +kernel
theorem dX1_isLike_14 : decode cX1_isLike 14 = .ok (.getfield 30, 3) := by decide +kernel
theorem dX1_isLike_17 : decode cX1_isLike 17 = .ok (.lookupswitch 97 #[(0, 27), (1, 44)], 27) := by decide +kernel
theorem dX1_isLike_44 : decode cX1_isLike 44 = .ok (.aload_n 0, 1) := by decide +kernel
theorem dX1_isLike_45 : decode cX1_isLike 45 = .ok (.getfield 34, 3) := by decide +kernel
theorem dX1_isLike_48 : decode cX1_isLike 48 = .ok (.aload_n 1, 1) := by decide +kernel
theorem dX1_isLike_49 : decode cX1_isLike 49 = .ok (.getfield 34, 3) := by decide +kernel
theorem dX1_isLike_52 : decode cX1_isLike 52 = .ok (.if_icmp .ne 7, 3) := by decide +kernel
theorem dX1_isLike_55 : decode cX1_isLike 55 = .ok (.iconst 1, 1) := by decide +kernel
theorem dX1_isLike_56 : decode cX1_isLike 56 = .ok (.goto 4, 3) := by decide +kernel
theorem dX1_isLike_59 : decode cX1_isLike 59 = .ok (.iconst 0, 1) := by decide +kernel
theorem dX1_isLike_60 : decode cX1_isLike 60 = .ok (.ireturn, 1) := by decide +kernel
theorem dX1_isLike_61 : decode cX1_isLike 61 = .ok (.aload_n 0, 1) := by decide +kernel
theorem dX1_isLike_62 : decode cX1_isLike 62 = .ok (.getfield 34, 3) := by decide +kernel
theorem dX1_isLike_65 : decode cX1_isLike 65 = .ok (.aload_n 1, 1) := by decide +kernel
theorem dX1_isLike_66 : decode cX1_isLike 66 = .ok (.getfield 34, 3) := by decide +kernel
theorem dX1_isLike_69 : decode cX1_isLike 69 = .ok (.if_icmp .ne 43, 3) := by decide +kernel
theorem dX1_isLike_72 : decode cX1_isLike 72 = .ok (.aload_n 0, 1) := by decide +kernel
theorem dX1_isLike_73 : decode cX1_isLike 73 = .ok (.getfield 9, 3) := by decide +kernel
theorem dX1_isLike_76 : decode cX1_isLike 76 = .ok (.aload_n 1, 1) := by decide +kernel
theorem dX1_isLike_77 : decode cX1_isLike 77 = .ok (.getfield 9, 3) := by decide +kernel
theorem dX1_isLike_80 : decode cX1_isLike 80 = .ok (.aload_n 0, 1) := by decide +kernel
theorem dX1_isLike_81 : decode cX1_isLike 81 = .ok (.getfield 34, 3) := by decide +kernel
theorem dX1_isLike_84 : decode cX1_isLike 84 = .ok (.invokestatic 83, 3) := by decide +kernel
theorem dX1_isLike_87 : decode cX1_isLike 87 = .ok (.ifCond .eq 25, 3) := by decide +kernel
theorem dX1_isLike_90 : decode cX1_isLike 90 = .ok (.aload_n 0, 1) := by decide +kernel
theorem dX1_isLike_91 : decode cX1_isLike 91 = .ok (.getfield 15, 3) := by decide +kernel
theorem dX1_isLike_94 : decode cX1_isLike 94 = .ok (.aload_n 1, 1) := by decide +kernel
theorem dX1_isLike_95 : decode cX1_isLike 95 = .ok (.getfield 15, 3) := by decide +kernel
theorem dX1_isLike_98 : decode cX1_isLike 98 = .ok (.aload_n 0, 1) := by decide +kernel
theorem dX1_isLike_99 : decode cX1_isLike 99 = .ok (.getfield 34, 3) := by decide +kernel
theorem dX1_isLike_102 : decode cX1_isLike 102 = .ok (.invokestatic 83, 3) := by decide +kernel
theorem dX1_isLike_105 : decode cX1_isLike 105 = .ok (.ifCond .eq 7, 3) := by decide +kernel
theorem dX1_isLike_108 : decode cX1_isLike 108 = .ok (.iconst 1, 1) := by decide +kernel
theorem dX1_isLike_109 : decode cX1_isLike 109 = .ok (.goto 4, 3) := by decide +kernel
theorem dX1_isLike_112 : decode cX1_isLike 112 = .ok (.iconst 0, 1) := by decide +kernel
theorem dX1_isLike_113 : decode cX1_isLike 113 = .ok (.ireturn, 1) := by decide +kernel
theorem dX1_isLike_114 : decode cX1_isLike 114 = .ok (.aload_n 0, 1) := by decide +kernel
theorem dX1_isLike_115 : decode cX1_isLike 115 = .ok (.getfield 37, 3) := by decide +kernel
theorem dX1_isLike_118 : decode cX1_isLike 118 = .ok (.aload_n 1, 1) := by decide +kernel
theorem dX1_isLike_119 : decode cX1_isLike 119 = .ok (.getfield 37, 3) := by decide +kernel
theorem dX1_isLike_122 : decode cX1_isLike 122 = .ok (.if_icmp .ne 25, 3) := by decide +kernel
theorem dX1_isLike_125 : decode cX1_isLike 125 = .ok (.aload_n 0, 1) := by decide +kernel
theorem dX1_isLike_126 : decode cX1_isLike 126 = .ok (.getfield 21, 3) := by decide +kernel
theorem dX1_isLike_129 : decode cX1_isLike 129 = .ok (.aload_n 1, 1) := by decide +kernel
theorem dX1_isLike_130 : decode cX1_isLike 130 = .ok (.getfield 21, 3) := by decide +kernel
theorem dX1_isLike_133 : decode cX1_isLike 133 = .ok (.aload_n 0, 1) := by decide +kernel
theorem dX1_isLike_134 : decode cX1_isLike 134 = .ok (.getfield 37, 3) := by decide +kernel
theorem dX1_isLike_137 : decode cX1_isLike 137 = .ok (.invokestatic 83, 3) := by decide +kernel
theorem dX1_isLike_140 : decode cX1_isLike 140 = .ok (.ifCond .eq 7, 3) := by decide +kernel
theorem dX1_isLike_143 : decode cX1_isLike 143 = .ok (.iconst 1, 1) := by decide +kernel
theorem dX1_isLike_144 : decode cX1_isLike 144 = .ok (.goto 4, 3) := by decide +kernel
theorem dX1_isLike_147 : decode cX1_isLike 147 = .ok (.iconst 0, 1) := by decide +kernel
theorem dX1_isLike_148 : decode cX1_isLike 148 = .ok (.ireturn, 1) := by decide +kernel
theorem dX1_isAlike_0 : decode cX1_isAlike 0 = .ok (.iconst 0, 1) := by decide +kernel
theorem dX1_isAlike_1 : decode cX1_isAlike 1 = .ok (.istore_n 3, 1) := by decide +kernel
theorem dX1_isAlike_2 : decode cX1_isAlike 2 = .ok (.iload_n 3, 1) := by decide +kernel
theorem dX1_isAlike_3 : decode cX1_isAlike 3 = .ok (.iload_n 2, 1) := by decide +kernel
theorem dX1_isAlike_4 : decode cX1_isAlike 4 = .ok (.if_icmp .ge 20, 3) := by decide +kernel
theorem dX1_isAlike_7 : decode cX1_isAlike 7 = .ok (.aload_n 0, 1) := by decide +kernel
theorem dX1_isAlike_8 : decode cX1_isAlike 8 = .ok (.iload_n 3, 1) := by decide +kernel
theorem dX1_isAlike_9 : decode cX1_isAlike 9 = .ok (.iaload, 1) := by decide +kernel
theorem dX1_isAlike_10 : decode cX1_isAlike 10 = .ok (.aload_n 1, 1) := by decide +kernel
theorem dX1_isAlike_11 : decode cX1_isAlike 11 = .ok (.iload_n 3, 1) := by decide +kernel
theorem dX1_isAlike_12 : decode cX1_isAlike 12 = .ok (.iaload, 1) := by decide +kernel
theorem dX1_isAlike_13 : decode cX1_isAlike 13 = .ok (.if_icmp .eq 5, 3) := by decide +kernel
theorem dX1_isAlike_16 : decode cX1_isAlike 16 = .ok (.iconst 0, 1) := by decide +kernel
theorem dX1_isAlike_17 : decode cX1_isAlike 17 = .ok (.ireturn, 1) := by decide +kernel
theorem dX1_isAlike_18 : decode cX1_isAlike 18 = .ok (.iinc 3 1, 3) := by decide +kernel
theorem dX1_isAlike_21 : decode cX1_isAlike 21 = .ok (.goto (-19), 3) := by decide +kernel
theorem dX1_isAlike_24 : decode cX1_isAlike 24 = .ok (.iconst 1, 1) := by decide +kernel
theorem dX1_isAlike_25 : decode cX1_isAlike 25 = .ok (.ireturn, 1) := by decide +kernel
theorem dX2_init_0 : decode cX2_init 0 = .ok (.aload_n 0, 1) := by decide +kernel
theorem dX2_init_1 : decode cX2_init 1 = .ok (.invokespecial 3, 3) := by decide +kernel
theorem dX2_init_4 : decode cX2_init 4 = .ok (.aload_n 0, 1) := by decide +kernel
theorem dX2_init_5 : decode cX2_init 5 = .ok (.bipush 9, 2) := by decide +kernel
theorem dX2_init_7 : decode cX2_init 7 = .ok (.newarray .int, 2) := by decide +kernel
theorem dX2_init_9 : decode cX2_init 9 = .ok (.putfield 9, 3) := by decide +kernel
theorem dX2_init_12 : decode cX2_init 12 = .ok (.aload_n 0, 1) := by decide +kernel
theorem dX2_init_13 : decode cX2_init 13 = .ok (.bipush 9, 2) := by decide +kernel
theorem dX2_init_15 : decode cX2_init 15 = .ok (.anewarray 15, 3) := by decide +kernel
theorem dX2_init_18 : decode cX2_init 18 = .ok (.putfield 17, 3) := by decide +kernel
theorem dX2_init_21 : decode cX2_init 21 = .ok (.iconst 0, 1) := by decide +kernel
theorem dX2_init_22 : decode cX2_init 22 = .ok (.istore_n 1, 1) := by decide +kernel
theorem dX2_init_23 : decode cX2_init 23 = .ok (.iload_n 1, 1) := by decide +kernel
theorem dX2_init_24 : decode cX2_init 24 = .ok (.bipush 9, 2) := by decide +kernel
theorem dX2_init_26 : decode cX2_init 26 = .ok (.if_icmp .ge 22, 3) := by decide +kernel
theorem dX2_init_29 : decode cX2_init 29 = .ok (.aload_n 0, 1) := by decide +kernel
theorem dX2_init_30 : decode cX2_init 30 = .ok (.getfield 17, 3) := by decide +kernel
theorem dX2_init_33 : decode cX2_init 33 = .ok (.iload_n 1, 1) := by decide +kernel
theorem dX2_init_34 : decode cX2_init 34 = .ok (.new 15, 3) := by decide +kernel
theorem dX2_init_37 : decode cX2_init 37 = .ok (.dup, 1) := by decide +kernel
theorem dX2_init_38 : decode cX2_init 38 = .ok (.invokespecial 21, 3) := by decide +kernel
theorem dX2_init_41 : decode cX2_init 41 = .ok (.aastore, 1) := by decide +kernel
theorem dX2_init_42 : decode cX2_init 42 = .ok (.iinc 1 1, 3) := by decide +kernel
theorem dX2_init_45 : decode cX2_init 45 = .ok (.goto (-22), 3) := by decide +kernel
theorem dX2_init_48 : decode cX2_init 48 = .ok (.return_, 1) := by decide +kernel
theorem dX2_ask_0 : decode cX2_ask 0 = .ok (.aload_n 0, 1) := by decide +kernel
theorem dX2_ask_1 : decode cX2_ask 1 = .ok (.aload_n 1, 1) := by decide +kernel
theorem dX2_ask_2 : decode cX2_ask 2 = .ok (.putfield 22, 3) := by decide +kernel
theorem dX2_ask_5 : decode cX2_ask 5 = .ok (.aload_n 0, 1) := by decide +kernel
theorem dX2_ask_6 : decode cX2_ask 6 = .ok (.iconst 0, 1) := by decide +kernel
theorem dX2_ask_7 : decode cX2_ask 7 = .ok (.putfield 26, 3) := by decide +kernel
theorem dX2_ask_10 : decode cX2_ask 10 = .ok (.aload_n 0, 1) := by decide +kernel
theorem dX2_ask_11 : decode cX2_ask 11 = .ok (.iconst 0, 1) := by decide +kernel
theorem dX2_ask_12 : decode cX2_ask 12 = .ok (.putfield 30, 3) := by decide +kernel
theorem dX2_ask_15 : decode cX2_ask 15 = .ok (.aload_n 0, 1) := by decide +kernel
theorem dX2_ask_16 : decode cX2_ask 16 = .ok (.iconst 0, 1) := by decide +kernel
theorem dX2_ask_17 : decode cX2_ask 17 = .ok (.putfield 33, 3) := by decide +kernel
theorem dX2_ask_20 : decode cX2_ask 20 = .ok (.aload_n 0, 1) := by decide +kernel
theorem dX2_ask_21 : decode cX2_ask 21 = .ok (.iload_n 2, 1) := by decide +kernel
theorem dX2_ask_22 : decode cX2_ask 22 = .ok (.iconst 0, 1) := by decide +kernel
theorem dX2_ask_23 : decode cX2_ask 23 = .ok (.invokevirtual 36, 3) := by decide +kernel
theorem dX2_ask_26 : decode cX2_ask 26 = .ok (.pop, 1) := by decide +kernel
theorem dX2_ask_27 : decode cX2_ask 27 = .ok (.aload_n 0, 1) := by decide +kernel
theorem dX2_ask_28 : decode cX2_ask 28 = .ok (.getfield 17, 3) := by decide +kernel
theorem dX2_ask_31 : decode cX2_ask 31 = .ok (.iconst 0, 1) := by decide +kernel
theorem dX2_ask_32 : decode cX2_ask 32 = .ok (.aaload, 1) := by decide +kernel
theorem dX2_ask_33 : decode cX2_ask 33 = .ok (.aload_n 0, 1) := by decide +kernel
theorem dX2_ask_34 : decode cX2_ask 34 = .ok (.getfield 33, 3) := by decide +kernel
theorem dX2_ask_37 : decode cX2_ask 37 = .ok (.iconst 1, 1) := by decide +kernel
theorem dX2_ask_38 : decode cX2_ask 38 = .ok (.iload_n 2, 1) := by decide +kernel
theorem dX2_ask_39 : decode cX2_ask 39 = .ok (.ishl, 1) := by decide +kernel
theorem dX2_ask_40 : decode cX2_ask 40 = .ok (.iconst (-1), 1) := by decide +kernel
theorem dX2_ask_41 : decode cX2_ask 41 = .ok (.ixor, 1) := by decide +kernel
theorem dX2_ask_42 : decode cX2_ask 42 = .ok (.iand, 1) := by decide +kernel
theorem dX2_ask_43 : decode cX2_ask 43 = .ok (.putfield 40, 3) := by decide +kernel
theorem dX2_ask_46 : decode cX2_ask 46 = .ok (.aload_n 0, 1) := by decide +kernel
theorem dX2_ask_47 : decode cX2_ask 47 = .ok (.getfield 17, 3) := by decide +kernel
theorem dX2_ask_50 : decode cX2_ask 50 = .ok (.iconst 0, 1) := by decide +kernel
theorem dX2_ask_51 : decode cX2_ask 51 = .ok (.aaload, 1) := by decide +kernel
theorem dX2_ask_52 : decode cX2_ask 52 = .ok (.areturn, 1) := by decide +kernel
theorem dX2_resolve_0 : decode cX2_resolve 0 = .ok (.iload_n 2, 1) := by decide +kernel
theorem dX2_resolve_1 : decode cX2_resolve 1 = .ok (.bipush 9, 2) := by decide +kernel
theorem dX2_resolve_3 : decode cX2_resolve 3 = .ok (.if_icmp .lt 5, 3) := by decide +kernel
theorem dX2_resolve_6 : decode cX2_resolve 6 = .ok (.iconst 0, 1) := by decide +kernel
theorem dX2_resolve_7 : decode cX2_resolve 7 = .ok (.ireturn, 1) := by decide +kernel
theorem dX2_resolve_8 : decode cX2_resolve 8 = .ok (.iconst 1, 1) := by decide +kernel
theorem dX2_resolve_9 : decode cX2_resolve 9 = .ok (.iload_n 1, 1) := by decide +kernel
theorem dX2_resolve_10 : decode cX2_resolve 10 = .ok (.ishl, 1) := by decide +kernel
theorem dX2_resolve_11 : decode cX2_resolve 11 = .ok (.istore_n 3, 1) := by decide +kernel
theorem dX2_resolve_12 : decode cX2_resolve 12 = .ok (.aload_n 0, 1) := by decide +kernel
theorem dX2_resolve_13 : decode cX2_resolve 13 = .ok (.getfield 9, 3) := by decide +kernel
theorem dX2_resolve_16 : decode cX2_resolve 16 = .ok (.iload_n 2, 1) := by decide +kernel
theorem dX2_resolve_17 : decode cX2_resolve 17 = .ok (.iload_n 1, 1) := by decide +kernel
theorem dX2_resolve_18 : decode cX2_resolve 18 = .ok (.iastore, 1) := by decide +kernel
theorem dX2_resolve_19 : decode cX2_resolve 19 = .ok (.aload_n 0, 1) := by decide +kernel
theorem dX2_resolve_20 : decode cX2_resolve 20 = .ok (.getfield 17, 3) := by decide +kernel
theorem dX2_resolve_23 : decode cX2_resolve 23 = .ok (.iload_n 2, 1) := by decide +kernel
theorem dX2_resolve_24 : decode cX2_resolve 24 = .ok (.aaload, 1) := by decide +kernel
theorem dX2_resolve_25 : decode cX2_resolve 25 = .ok (.invokevirtual 43, 3) := by decide +kernel
theorem dX2_resolve_28 : decode cX2_resolve 28 = .ok (.aload_n 0, 1) := by decide +kernel
theorem dX2_resolve_29 : decode cX2_resolve 29 = .ok (.dup, 1) := by decide +kernel
theorem dX2_resolve_30 : decode cX2_resolve 30 = .ok (.getfield 26, 3) := by decide +kernel
theorem dX2_resolve_33 : decode cX2_resolve 33 = .ok (.iconst 1, 1) := by decide +kernel
theorem dX2_resolve_34 : decode cX2_resolve 34 = .ok (.iadd, 1) := by decide +kernel
theorem dX2_resolve_35 : decode cX2_resolve 35 = .ok (.putfield 26, 3) := by decide +kernel
theorem dX2_resolve_38 : decode cX2_resolve 38 = .ok (.aload_n 0, 1) := by decide +kernel
theorem dX2_resolve_39 : decode cX2_resolve 39 = .ok (.dup, 1) := by decide +kernel
theorem dX2_resolve_40 : decode cX2_resolve 40 = .ok (.getfield 33, 3) := by decide +kernel
theorem dX2_resolve_43 : decode cX2_resolve 43 = .ok (.iload_n 3, 1) := by decide +kernel
theorem dX2_resolve_44 : decode cX2_resolve 44 = .ok (.ior, 1) := by decide +kernel
theorem dX2_resolve_45 : decode cX2_resolve 45 = .ok (.putfield 33, 3) := by decide +kernel
theorem dX2_resolve_48 : decode cX2_resolve 48 = .ok (.aload_n 0, 1) := by decide +kernel
theorem dX2_resolve_49 : decode cX2_resolve 49 = .ok (.getfield 26, 3) := by decide +kernel
theorem dX2_resolve_52 : decode cX2_resolve 52 = .ok (.bipush 60, 2) := by decide +kernel
theorem dX2_resolve_54 : decode cX2_resolve 54 = .ok (.if_icmp .le 11, 3) := by decide +kernel
theorem dX2_resolve_57 : decode cX2_resolve 57 = .ok (.aload_n 0, 1) := by decide +kernel
theorem dX2_resolve_58 : decode cX2_resolve 58 = .ok (.bipush 6, 2) := by decide +kernel
theorem dX2_resolve_60 : decode cX2_resolve 60 = .ok (.iload_n 2, 1) := by decide +kernel
theorem dX2_resolve_61 : decode cX2_resolve 61 = .ok (.invokevirtual 46, 3) := by decide +kernel
theorem dX2_resolve_64 : decode cX2_resolve 64 = .ok (.ireturn, 1) := by decide +kernel
theorem dX2_resolve_65 : decode cX2_resolve 65 = .ok (.aload_n 0, 1) := by decide +kernel
theorem dX2_resolve_66 : decode cX2_resolve 66 = .ok (.getfield 30, 3) := by decide +kernel
theorem dX2_resolve_69 : decode cX2_resolve 69 = .ok (.iload_n 3, 1) := by decide +kernel
theorem dX2_resolve_70 : decode cX2_resolve 70 = .ok (.iand, 1) := by decide +kernel
theorem dX2_resolve_71 : decode cX2_resolve 71 = .ok (.ifCond .eq 10, 3) := by decide +kernel
theorem dX2_resolve_74 : decode cX2_resolve 74 = .ok (.aload_n 0, 1) := by decide +kernel
theorem dX2_resolve_75 : decode cX2_resolve 75 = .ok (.iconst 2, 1) := by decide +kernel
theorem dX2_resolve_76 : decode cX2_resolve 76 = .ok (.iload_n 2, 1) := by decide +kernel
theorem dX2_resolve_77 : decode cX2_resolve 77 = .ok (.invokevirtual 46, 3) := by decide +kernel
theorem dX2_resolve_80 : decode cX2_resolve 80 = .ok (.ireturn, 1) := by decide +kernel
theorem dX2_resolve_81 : decode cX2_resolve 81 = .ok (.aload_n 0, 1) := by decide +kernel
theorem dX2_resolve_82 : decode cX2_resolve 82 = .ok (.iload_n 1, 1) := by decide +kernel
theorem dX2_resolve_83 : decode cX2_resolve 83 = .ok (.aload_n 0, 1) := by decide +kernel
theorem dX2_resolve_84 : decode cX2_resolve 84 = .ok (.getfield 17, 3) := by decide +kernel
theorem dX2_resolve_87 : decode cX2_resolve 87 = .ok (.iload_n 2, 1) := by decide +kernel
theorem dX2_resolve_88 : decode cX2_resolve 88 = .ok (.aaload, 1) := by decide +kernel
theorem dX2_resolve_89 : decode cX2_resolve 89 = .ok (.invokevirtual 49, 3) := by decide +kernel
theorem dX2_resolve_92 : decode cX2_resolve 92 = .ok (.aload_n 0, 1) := by decide +kernel
theorem dX2_resolve_93 : decode cX2_resolve 93 = .ok (.getfield 17, 3) := by decide +kernel
theorem dX2_resolve_96 : decode cX2_resolve 96 = .ok (.iload_n 2, 1) := by decide +kernel
theorem dX2_resolve_97 : decode cX2_resolve 97 = .ok (.aaload, 1) := by decide +kernel
theorem dX2_resolve_98 : decode cX2_resolve 98 = .ok (.getfield 53, 3) := by decide +kernel
theorem dX2_resolve_101 : decode cX2_resolve 101 = .ok (.ifCond .ne 10, 3) := by decide +kernel
theorem dX2_resolve_104 : decode cX2_resolve 104 = .ok (.aload_n 0, 1) := by decide +kernel
theorem dX2_resolve_105 : decode cX2_resolve 105 = .ok (.iconst 1, 1) := by decide +kernel
theorem dX2_resolve_106 : decode cX2_resolve 106 = .ok (.iload_n 2, 1) := by decide +kernel
theorem dX2_resolve_107 : decode cX2_resolve 107 = .ok (.invokevirtual 46, 3) := by decide +kernel
theorem dX2_resolve_110 : decode cX2_resolve 110 = .ok (.ireturn, 1) := by decide +kernel
theorem dX2_resolve_111 : decode cX2_resolve 111 = .ok (.aload_n 0, 1) := by decide +kernel
theorem dX2_resolve_112 : decode cX2_resolve 112 = .ok (.dup, 1) := by decide +kernel
theorem dX2_resolve_113 : decode cX2_resolve 113 = .ok (.getfield 30, 3) := by decide +kernel
theorem dX2_resolve_116 : decode cX2_resolve 116 = .ok (.iload_n 3, 1) := by decide +kernel
theorem dX2_resolve_117 : decode cX2_resolve 117 = .ok (.ior, 1) := by decide +kernel
theorem dX2_resolve_118 : decode cX2_resolve 118 = .ok (.putfield 30, 3) := by decide +kernel
theorem dX2_resolve_121 : decode cX2_resolve 121 = .ok (.aload_n 0, 1) := by decide +kernel
theorem dX2_resolve_122 : decode cX2_resolve 122 = .ok (.iload_n 1, 1) := by decide +kernel
theorem dX2_resolve_123 : decode cX2_resolve 123 = .ok (.iload_n 2, 1) := by decide +kernel
theorem dX2_resolve_124 : decode cX2_resolve 124 = .ok (.invokevirtual 56, 3) := by decide +kernel
theorem dX2_resolve_127 : decode cX2_resolve 127 = .ok (.istore 4, 2) := by decide +kernel
theorem dX2_resolve_129 : decode cX2_resolve 129 = .ok (.aload_n 0, 1) := by decide +kernel
theorem dX2_resolve_130 : decode cX2_resolve 130 = .ok (.dup, 1) := by decide +kernel
theorem dX2_resolve_131 : decode cX2_resolve 131 = .ok (.getfield 30, 3) := by decide +kernel
theorem dX2_resolve_134 : decode cX2_resolve 134 = .ok (.iload_n 3, 1) := by decide +kernel
theorem dX2_resolve_135 : decode cX2_resolve 135 = .ok (.iconst (-1), 1) := by decide +kernel
theorem dX2_resolve_136 : decode cX2_resolve 136 = .ok (.ixor, 1) := by decide +kernel
theorem dX2_resolve_137 : decode cX2_resolve 137 = .ok (.iand, 1) := by decide +kernel
theorem dX2_resolve_138 : decode cX2_resolve 138 = .ok (.putfield 30, 3) := by decide +kernel
theorem dX2_resolve_141 : decode cX2_resolve 141 = .ok (.iload 4, 2) := by decide +kernel
theorem dX2_resolve_143 : decode cX2_resolve 143 = .ok (.ireturn, 1) := by decide +kernel
theorem dX2_fail_0 : decode cX2_fail 0 = .ok (.aload_n 0, 1) := by decide +kernel
theorem dX2_fail_1 : decode cX2_fail 1 = .ok (.getfield 17, 3) := by decide +kernel
theorem dX2_fail_4 : decode cX2_fail 4 = .ok (.iconst 0, 1) := by decide +kernel
theorem dX2_fail_5 : decode cX2_fail 5 = .ok (.aaload, 1) := by decide +kernel
theorem dX2_fail_6 : decode cX2_fail 6 = .ok (.astore_n 3, 1) := by decide +kernel
theorem dX2_fail_7 : decode cX2_fail 7 = .ok (.iconst 0, 1) := by decide +kernel
theorem dX2_fail_8 : decode cX2_fail 8 = .ok (.istore 4, 2) := by decide +kernel
theorem dX2_fail_10 : decode cX2_fail 10 = .ok (.iload 4, 2) := by decide +kernel
theorem dX2_fail_12 : decode cX2_fail 12 = .ok (.iload_n 2, 1) := by decide +kernel
theorem dX2_fail_13 : decode cX2_fail 13 = .ok (.if_icmp .ge 31, 3) := by decide +kernel
theorem dX2_fail_16 : decode cX2_fail 16 = .ok (.aload_n 3, 1) := by decide +kernel
theorem dX2_fail_17 : decode cX2_fail 17 = .ok (.getfield 59, 3) := by decide +kernel
theorem dX2_fail_20 : decode cX2_fail 20 = .ok (.iload 4, 2) := by decide +kernel
theorem dX2_fail_22 : decode cX2_fail 22 = .ok (.iconst 5, 1) := by decide +kernel
theorem dX2_fail_23 : decode cX2_fail 23 = .ok (.iastore, 1) := by decide +kernel
theorem dX2_fail_24 : decode cX2_fail 24 = .ok (.aload_n 3, 1) := by decide +kernel
theorem dX2_fail_25 : decode cX2_fail 25 = .ok (.getfield 62, 3) := by decide +kernel
theorem dX2_fail_28 : decode cX2_fail 28 = .ok (.iload 4, 2) := by decide +kernel
theorem dX2_fail_30 : decode cX2_fail 30 = .ok (.aload_n 0, 1) := by decide +kernel
theorem dX2_fail_31 : decode cX2_fail 31 = .ok (.getfield 9, 3) := by decide +kernel
theorem dX2_fail_34 : decode cX2_fail 34 = .ok (.iload 4, 2) := by decide +kernel
theorem dX2_fail_36 : decode cX2_fail 36 = .ok (.iaload, 1) := by decide +kernel
theorem dX2_fail_37 : decode cX2_fail 37 = .ok (.iastore, 1) := by decide +kernel
theorem dX2_fail_38 : decode cX2_fail 38 = .ok (.iinc 4 1, 3) := by decide +kernel
theorem dX2_fail_41 : decode cX2_fail 41 = .ok (.goto (-31), 3) := by decide +kernel
theorem dX2_fail_44 : decode cX2_fail 44 = .ok (.aload_n 3, 1) := by decide +kernel
theorem dX2_fail_45 : decode cX2_fail 45 = .ok (.getfield 59, 3) := by decide +kernel
theorem dX2_fail_48 : decode cX2_fail 48 = .ok (.iload_n 2, 1) := by decide +kernel
theorem dX2_fail_49 : decode cX2_fail 49 = .ok (.iload_n 1, 1) := by decide +kernel
theorem dX2_fail_50 : decode cX2_fail 50 = .ok (.iastore, 1) := by decide +kernel
theorem dX2_fail_51 : decode cX2_fail 51 = .ok (.aload_n 3, 1) := by decide +kernel
theorem dX2_fail_52 : decode cX2_fail 52 = .ok (.getfield 62, 3) := by decide +kernel
theorem dX2_fail_55 : decode cX2_fail 55 = .ok (.iload_n 2, 1) := by decide +kernel
theorem dX2_fail_56 : decode cX2_fail 56 = .ok (.aload_n 0, 1) := by decide +kernel
theorem dX2_fail_57 : decode cX2_fail 57 = .ok (.getfield 9, 3) := by decide +kernel
theorem dX2_fail_60 : decode cX2_fail 60 = .ok (.iload_n 2, 1) := by decide +kernel
theorem dX2_fail_61 : decode cX2_fail 61 = .ok (.iaload, 1) := by decide +kernel
theorem dX2_fail_62 : decode cX2_fail 62 = .ok (.iastore, 1) := by decide +kernel
theorem dX2_fail_63 : decode cX2_fail 63 = .ok (.aload_n 3, 1) := by decide +kernel
theorem dX2_fail_64 : decode cX2_fail 64 = .ok (.iload_n 2, 1) := by decide +kernel
theorem dX2_fail_65 : decode cX2_fail 65 = .ok (.iconst 1, 1) := by decide +kernel
theorem dX2_fail_66 : decode cX2_fail 66 = .ok (.iadd, 1) := by decide +kernel
theorem dX2_fail_67 : decode cX2_fail 67 = .ok (.putfield 65, 3) := by decide +kernel
theorem dX2_fail_70 : decode cX2_fail 70 = .ok (.aload_n 3, 1) := by decide +kernel
theorem dX2_fail_71 : decode cX2_fail 71 = .ok (.iconst 2, 1) := by decide +kernel
theorem dX2_fail_72 : decode cX2_fail 72 = .ok (.putfield 68, 3) := by decide +kernel
theorem dX2_fail_75 : decode cX2_fail 75 = .ok (.iconst 0, 1) := by decide +kernel
theorem dX2_fail_76 : decode cX2_fail 76 = .ok (.ireturn, 1) := by decide +kernel
theorem dX2_gatherOffers_0 : decode cX2_gatherOffers 0 = .ok (.iconst 5, 1) := by decide +kernel
theorem dX2_gatherOffers_1 : decode cX2_gatherOffers 1 = .ok (.istore_n 3, 1) := by decide +kernel
theorem dX2_gatherOffers_2 : decode cX2_gatherOffers 2 = .ok (.iload_n 3, 1) := by decide +kernel
theorem dX2_gatherOffers_3 : decode cX2_gatherOffers 3 = .ok (.ifCond .lt 81, 3) := by decide +kernel
theorem dX2_gatherOffers_6 : decode cX2_gatherOffers 6 = .ok (.aload_n 0, 1) := by decide +kernel
theorem dX2_gatherOffers_7 : decode cX2_gatherOffers 7 = .ok (.getfield 22, 3) := by decide +kernel
theorem dX2_gatherOffers_10 : decode cX2_gatherOffers 10 = .ok (.getfield 71, 3) := by decide +kernel
theorem dX2_gatherOffers_13 : decode cX2_gatherOffers 13 = .ok (.iload_n 3, 1) := by decide +kernel
theorem dX2_gatherOffers_14 : decode cX2_gatherOffers 14 = .ok (.iaload, 1) := by decide +kernel
theorem dX2_gatherOffers_15 : decode cX2_gatherOffers 15 = .ok (.istore 4, 2) := by decide +kernel
theorem dX2_gatherOffers_17 : decode cX2_gatherOffers 17 = .ok (.aload_n 0, 1) := by decide +kernel
theorem dX2_gatherOffers_18 : decode cX2_gatherOffers 18 = .ok (.getfield 22, 3) := by decide +kernel
theorem dX2_gatherOffers_21 : decode cX2_gatherOffers 21 = .ok (.getfield 76, 3) := by decide +kernel
theorem dX2_gatherOffers_24 : decode cX2_gatherOffers 24 = .ok (.iload 4, 2) := by decide +kernel
theorem dX2_gatherOffers_26 : decode cX2_gatherOffers 26 = .ok (.iload_n 1, 1) := by decide +kernel
theorem dX2_gatherOffers_27 : decode cX2_gatherOffers 27 = .ok (.invokestatic 79, 3) := by decide +kernel
theorem dX2_gatherOffers_30 : decode cX2_gatherOffers 30 = .ok (.iaload, 1) := by decide +kernel
theorem dX2_gatherOffers_31 : decode cX2_gatherOffers 31 = .ok (.istore 5, 2) := by decide +kernel
theorem dX2_gatherOffers_33 : decode cX2_gatherOffers 33 = .ok (.iload 5, 2) := by decide +kernel
theorem dX2_gatherOffers_35 : decode cX2_gatherOffers 35 = .ok (.iconst (-1), 1) := by decide +kernel
theorem dX2_gatherOffers_36 : decode cX2_gatherOffers 36 = .ok (.if_icmp .eq 42, 3) := by decide +kernel
theorem dX2_gatherOffers_39 : decode cX2_gatherOffers 39 = .ok (.aload_n 0, 1) := by decide +kernel
theorem dX2_gatherOffers_40 : decode cX2_gatherOffers 40 = .ok (.getfield 22, 3) := by decide +kernel
theorem dX2_gatherOffers_43 : decode cX2_gatherOffers 43 = .ok (.iload 4, 2) := by decide +kernel
theorem dX2_gatherOffers_45 : decode cX2_gatherOffers 45 = .ok (.invokevirtual 83, 3) := by decide +kernel
theorem dX2_gatherOffers_48 : decode cX2_gatherOffers 48 = .ok (.ifCond .eq 30, 3) := by decide +kernel
theorem dX2_gatherOffers_51 : decode cX2_gatherOffers 51 = .ok (.aload_n 0, 1) := by decide +kernel
theorem dX2_gatherOffers_52 : decode cX2_gatherOffers 52 = .ok (.iload 4, 2) := by decide +kernel
theorem dX2_gatherOffers_54 : decode cX2_gatherOffers 54 = .ok (.iload_n 1, 1) := by decide +kernel
theorem dX2_gatherOffers_55 : decode cX2_gatherOffers 55 = .ok (.aload_n 2, 1) := by decide +kernel
theorem dX2_gatherOffers_56 : decode cX2_gatherOffers 56 = .ok (.getfield 53, 3) := by decide +kernel
theorem dX2_gatherOffers_59 : decode cX2_gatherOffers 59 = .ok (.invokevirtual 87, 3) := by decide +kernel
theorem dX2_gatherOffers_62 : decode cX2_gatherOffers 62 = .ok (.ifCond .eq 16, 3) := by decide +kernel
theorem dX2_gatherOffers_65 : decode cX2_gatherOffers 65 = .ok (.iload 5, 2) := by decide +kernel
theorem dX2_gatherOffers_67 : decode cX2_gatherOffers 67 = .ok (.iconst 4, 1) := by decide +kernel
theorem dX2_gatherOffers_68 : decode cX2_gatherOffers 68 = .ok (.if_icmp .ne 4, 3) := by decide +kernel
theorem dX2_gatherOffers_71 : decode cX2_gatherOffers 71 = .ok (.return_, 1) := by decide +kernel
theorem dX2_gatherOffers_72 : decode cX2_gatherOffers 72 = .ok (.aload_n 2, 1) := by decide +kernel
theorem dX2_gatherOffers_73 : decode cX2_gatherOffers 73 = .ok (.iload 4, 2) := by decide +kernel
theorem dX2_gatherOffers_75 : decode cX2_gatherOffers 75 = .ok (.invokevirtual 91, 3) := by decide +kernel
theorem dX2_gatherOffers_78 : decode cX2_gatherOffers 78 = .ok (.iinc 3 (-1), 3) := by decide +kernel
theorem dX2_gatherOffers_81 : decode cX2_gatherOffers 81 = .ok (.goto (-79), 3) := by decide +kernel
theorem dX2_gatherOffers_84 : decode cX2_gatherOffers 84 = .ok (.return_, 1) := by decide +kernel
theorem dX2_counts_0 : decode cX2_counts 0 = .ok (.aload_n 0, 1) := by decide +kernel
theorem dX2_counts_1 : decode cX2_counts 1 = .ok (.getfield 22, 3) := by decide +kernel
theorem dX2_counts_4 : decode cX2_counts 4 = .ok (.getfield 95, 3) := by decide +kernel
theorem dX2_counts_7 : decode cX2_counts 7 = .ok (.iload_n 1, 1) := by decide +kernel
theorem dX2_counts_8 : decode cX2_counts 8 = .ok (.iaload, 1) := by decide +kernel
theorem dX2_counts_9 : decode cX2_counts 9 = .ok (.lookupswitch 56 #[(4, 27), (5, 37)], 27) := by decide +kernel
theorem dX2_counts_36 : decode cX2_counts 36 = .ok (.iload_n 3, 1) := by decide +kernel
theorem dX2_counts_37 : decode cX2_counts 37 = .ok (.ifCond .ne 7, 3) := by decide +kernel
theorem dX2_counts_40 : decode cX2_counts 40 = .ok (.iconst 1, 1) := by decide +kernel
theorem dX2_counts_41 : decode cX2_counts 41 = .ok (.goto 4, 3) := by decide +kernel
theorem dX2_counts_44 : decode cX2_counts 44 = .ok (.iconst 0, 1) := by decide +kernel
theorem dX2_counts_45 : decode cX2_counts 45 = .ok (.ireturn, 1) := by decide +kernel
theorem dX2_counts_46 : decode cX2_counts 46 = .ok (.iload_n 2, 1) := by decide +kernel
theorem dX2_counts_47 : decode cX2_counts 47 = .ok (.aload_n 0, 1) := by decide +kernel
theorem dX2_counts_48 : decode cX2_counts 48 = .ok (.getfield 22, 3) := by decide +kernel
theorem dX2_counts_51 : decode cX2_counts 51 = .ok (.getfield 98, 3) := by decide +kernel
theorem dX2_counts_54 : decode cX2_counts 54 = .ok (.iload_n 1, 1) := by decide +kernel
theorem dX2_counts_55 : decode cX2_counts 55 = .ok (.iaload, 1) := by decide +kernel
theorem dX2_counts_56 : decode cX2_counts 56 = .ok (.if_icmp .gt 7, 3) := by decide +kernel
theorem dX2_counts_59 : decode cX2_counts 59 = .ok (.iconst 1, 1) := by decide +kernel
theorem dX2_counts_60 : decode cX2_counts 60 = .ok (.goto 4, 3) := by decide +kernel
theorem dX2_counts_63 : decode cX2_counts 63 = .ok (.iconst 0, 1) := by decide +kernel
theorem dX2_counts_64 : decode cX2_counts 64 = .ok (.ireturn, 1) := by decide +kernel
theorem dX2_counts_65 : decode cX2_counts 65 = .ok (.iconst 1, 1) := by decide +kernel
theorem dX2_counts_66 : decode cX2_counts 66 = .ok (.ireturn, 1) := by decide +kernel
theorem dX2_merge_0 : decode cX2_merge 0 = .ok (.aload_n 0, 1) := by decide +kernel
theorem dX2_merge_1 : decode cX2_merge 1 = .ok (.getfield 22, 3) := by decide +kernel
theorem dX2_merge_4 : decode cX2_merge 4 = .ok (.getfield 101, 3) := by decide +kernel
theorem dX2_merge_7 : decode cX2_merge 7 = .ok (.iload_n 1, 1) := by decide +kernel
theorem dX2_merge_8 : decode cX2_merge 8 = .ok (.iaload, 1) := by decide +kernel
theorem dX2_merge_9 : decode cX2_merge 9 = .ok (.istore_n 3, 1) := by decide +kernel
theorem dX2_merge_10 : decode cX2_merge 10 = .ok (.aload_n 0, 1) := by decide +kernel
theorem dX2_merge_11 : decode cX2_merge 11 = .ok (.getfield 17, 3) := by decide +kernel
theorem dX2_merge_14 : decode cX2_merge 14 = .ok (.iload_n 2, 1) := by decide +kernel
theorem dX2_merge_15 : decode cX2_merge 15 = .ok (.aaload, 1) := by decide +kernel
theorem dX2_merge_16 : decode cX2_merge 16 = .ok (.astore 4, 2) := by decide +kernel
theorem dX2_merge_18 : decode cX2_merge 18 = .ok (.iload_n 3, 1) := by decide +kernel
theorem dX2_merge_19 : decode cX2_merge 19 = .ok (.ifCond .ne 13, 3) := by decide +kernel
theorem dX2_merge_22 : decode cX2_merge 22 = .ok (.aload 4, 2) := by decide +kernel
theorem dX2_merge_24 : decode cX2_merge 24 = .ok (.getfield 53, 3) := by decide +kernel
theorem dX2_merge_27 : decode cX2_merge 27 = .ok (.iconst 1, 1) := by decide +kernel
theorem dX2_merge_28 : decode cX2_merge 28 = .ok (.isub, 1) := by decide +kernel
theorem dX2_merge_29 : decode cX2_merge 29 = .ok (.goto 4, 3) := by decide +kernel
theorem dX2_merge_32 : decode cX2_merge 32 = .ok (.iconst 0, 1) := by decide +kernel
theorem dX2_merge_33 : decode cX2_merge 33 = .ok (.istore 5, 2) := by decide +kernel
theorem dX2_merge_35 : decode cX2_merge 35 = .ok (.iload_n 3, 1) := by decide +kernel
theorem dX2_merge_36 : decode cX2_merge 36 = .ok (.iconst 1, 1) := by decide +kernel
theorem dX2_merge_37 : decode cX2_merge 37 = .ok (.if_icmp .ne 7, 3) := by decide +kernel
theorem dX2_merge_40 : decode cX2_merge 40 = .ok (.iconst 1, 1) := by decide +kernel
theorem dX2_merge_41 : decode cX2_merge 41 = .ok (.goto 8, 3) := by decide +kernel
theorem dX2_merge_44 : decode cX2_merge 44 = .ok (.aload 4, 2) := by decide +kernel
theorem dX2_merge_46 : decode cX2_merge 46 = .ok (.getfield 53, 3) := by decide +kernel
theorem dX2_merge_49 : decode cX2_merge 49 = .ok (.istore 6, 2) := by decide +kernel
theorem dX2_merge_51 : decode cX2_merge 51 = .ok (.iload 5, 2) := by decide +kernel
theorem dX2_merge_53 : decode cX2_merge 53 = .ok (.istore 7, 2) := by decide +kernel
theorem dX2_merge_55 : decode cX2_merge 55 = .ok (.iload 7, 2) := by decide +kernel
theorem dX2_merge_57 : decode cX2_merge 57 = .ok (.iload 6, 2) := by decide +kernel
theorem dX2_merge_59 : decode cX2_merge 59 = .ok (.if_icmp .ge 54, 3) := by decide +kernel
theorem dX2_merge_62 : decode cX2_merge 62 = .ok (.aload 4, 2) := by decide +kernel
theorem dX2_merge_64 : decode cX2_merge 64 = .ok (.iload 7, 2) := by decide +kernel
theorem dX2_merge_66 : decode cX2_merge 66 = .ok (.invokevirtual 104, 3) := by decide +kernel
theorem dX2_merge_69 : decode cX2_merge 69 = .ok (.istore 8, 2) := by decide +kernel
theorem dX2_merge_71 : decode cX2_merge 71 = .ok (.aload_n 0, 1) := by decide +kernel
theorem dX2_merge_72 : decode cX2_merge 72 = .ok (.iload 8, 2) := by decide +kernel
theorem dX2_merge_74 : decode cX2_merge 74 = .ok (.iload_n 1, 1) := by decide +kernel
theorem dX2_merge_75 : decode cX2_merge 75 = .ok (.iload_n 2, 1) := by decide +kernel
theorem dX2_merge_76 : decode cX2_merge 76 = .ok (.invokevirtual 108, 3) := by decide +kernel
theorem dX2_merge_79 : decode cX2_merge 79 = .ok (.ifCond .ne 5, 3) := by decide +kernel
theorem dX2_merge_82 : decode cX2_merge 82 = .ok (.iconst 0, 1) := by decide +kernel
theorem dX2_merge_83 : decode cX2_merge 83 = .ok (.ireturn, 1) := by decide +kernel
theorem dX2_merge_84 : decode cX2_merge 84 = .ok (.aload_n 0, 1) := by decide +kernel
theorem dX2_merge_85 : decode cX2_merge 85 = .ok (.iload_n 3, 1) := by decide +kernel
theorem dX2_merge_86 : decode cX2_merge 86 = .ok (.iload 8, 2) := by decide +kernel
theorem dX2_merge_88 : decode cX2_merge 88 = .ok (.iload_n 2, 1) := by decide +kernel
theorem dX2_merge_89 : decode cX2_merge 89 = .ok (.invokevirtual 111, 3) := by decide +kernel
theorem dX2_merge_92 : decode cX2_merge 92 = .ok (.istore 9, 2) := by decide +kernel
theorem dX2_merge_94 : decode cX2_merge 94 = .ok (.iload 9, 2) := by decide +kernel
theorem dX2_merge_96 : decode cX2_merge 96 = .ok (.ifCond .eq 11, 3) := by decide +kernel
theorem dX2_merge_99 : decode cX2_merge 99 = .ok (.aload_n 0, 1) := by decide +kernel
theorem dX2_merge_100 : decode cX2_merge 100 = .ok (.iload 9, 2) := by decide +kernel
theorem dX2_merge_102 : decode cX2_merge 102 = .ok (.iload_n 2, 1) := by decide +kernel
theorem dX2_merge_103 : decode cX2_merge 103 = .ok (.invokevirtual 46, 3) := by decide +kernel
theorem dX2_merge_106 : decode cX2_merge 106 = .ok (.ireturn, 1) := by decide +kernel
theorem dX2_merge_107 : decode cX2_merge 107 = .ok (.iinc 7 1, 3) := by decide +kernel
theorem dX2_merge_110 : decode cX2_merge 110 = .ok (.goto (-55), 3) := by decide +kernel
theorem dX2_merge_113 : decode cX2_merge 113 = .ok (.iconst 1, 1) := by decide +kernel
theorem dX2_merge_114 : decode cX2_merge 114 = .ok (.ireturn, 1) := by decide +kernel
theorem dX2_take_0 : decode cX2_take 0 = .ok (.aload_n 0, 1) := by decide +kernel
theorem dX2_take_1 : decode cX2_take 1 = .ok (.getfield 17, 3) := by decide +kernel
theorem dX2_take_4 : decode cX2_take 4 = .ok (.iload_n 3, 1) := by decide +kernel
theorem dX2_take_5 : decode cX2_take 5 = .ok (.aaload, 1) := by decide +kernel
theorem dX2_take_6 : decode cX2_take 6 = .ok (.astore 4, 2) := by decide +kernel
theorem dX2_take_8 : decode cX2_take 8 = .ok (.aload_n 0, 1) := by decide +kernel
theorem dX2_take_9 : decode cX2_take 9 = .ok (.getfield 17, 3) := by decide +kernel
theorem dX2_take_12 : decode cX2_take 12 = .ok (.iload_n 3, 1) := by decide +kernel
theorem dX2_take_13 : decode cX2_take 13 = .ok (.iconst 1, 1) := by decide +kernel
theorem dX2_take_14 : decode cX2_take 14 = .ok (.iadd, 1) := by decide +kernel
theorem dX2_take_15 : decode cX2_take 15 = .ok (.aaload, 1) := by decide +kernel
theorem dX2_take_16 : decode cX2_take 16 = .ok (.astore 5, 2) := by decide +kernel
theorem dX2_take_18 : decode cX2_take 18 = .ok (.iload_n 1, 1) := by decide +kernel
theorem dX2_take_19 : decode cX2_take 19 = .ok (.tableswitch 52 2 4 #[25, 34, 43], 25) := by decide +kernel
theorem dX2_take_44 : decode cX2_take 44 = .ok (.aload 4, 2) := by decide +kernel
theorem dX2_take_46 : decode cX2_take 46 = .ok (.iload_n 2, 1) := by decide +kernel
theorem dX2_take_47 : decode cX2_take 47 = .ok (.aload 5, 2) := by decide +kernel
theorem dX2_take_49 : decode cX2_take 49 = .ok (.invokevirtual 115, 3) := by decide +kernel
theorem dX2_take_52 : decode cX2_take 52 = .ok (.ireturn, 1) := by decide +kernel
theorem dX2_take_53 : decode cX2_take 53 = .ok (.aload 4, 2) := by decide +kernel
theorem dX2_take_55 : decode cX2_take 55 = .ok (.iload_n 2, 1) := by decide +kernel
theorem dX2_take_56 : decode cX2_take 56 = .ok (.aload 5, 2) := by decide +kernel
theorem dX2_take_58 : decode cX2_take 58 = .ok (.invokevirtual 119, 3) := by decide +kernel
theorem dX2_take_61 : decode cX2_take 61 = .ok (.ireturn, 1) := by decide +kernel
theorem dX2_take_62 : decode cX2_take 62 = .ok (.aload 4, 2) := by decide +kernel
theorem dX2_take_64 : decode cX2_take 64 = .ok (.iload_n 2, 1) := by decide +kernel
theorem dX2_take_65 : decode cX2_take 65 = .ok (.aload 5, 2) := by decide +kernel
theorem dX2_take_67 : decode cX2_take 67 = .ok (.invokevirtual 122, 3) := by decide +kernel
theorem dX2_take_70 : decode cX2_take 70 = .ok (.ireturn, 1) := by decide +kernel
theorem dX2_take_71 : decode cX2_take 71 = .ok (.aload 4, 2) := by decide +kernel
theorem dX2_take_73 : decode cX2_take 73 = .ok (.iload_n 2, 1) := by decide +kernel
theorem dX2_take_74 : decode cX2_take 74 = .ok (.aload 5, 2) := by decide +kernel
theorem dX2_take_76 : decode cX2_take 76 = .ok (.invokevirtual 125, 3) := by decide +kernel
theorem dX2_take_79 : decode cX2_take 79 = .ok (.ireturn, 1) := by decide +kernel
theorem dX2_make_0 : decode cX2_make 0 = .ok (.iload_n 1, 1) := by decide +kernel
theorem dX2_make_1 : decode cX2_make 1 = .ok (.iload_n 2, 1) := by decide +kernel
theorem dX2_make_2 : decode cX2_make 2 = .ok (.invokestatic 79, 3) := by decide +kernel
theorem dX2_make_5 : decode cX2_make 5 = .ok (.istore 4, 2) := by decide +kernel
theorem dX2_make_7 : decode cX2_make 7 = .ok (.aload_n 0, 1) := by decide +kernel
theorem dX2_make_8 : decode cX2_make 8 = .ok (.getfield 22, 3) := by decide +kernel
theorem dX2_make_11 : decode cX2_make 11 = .ok (.getfield 76, 3) := by decide +kernel
theorem dX2_make_14 : decode cX2_make 14 = .ok (.iload 4, 2) := by decide +kernel
theorem dX2_make_16 : decode cX2_make 16 = .ok (.iaload, 1) := by decide +kernel
theorem dX2_make_17 : decode cX2_make 17 = .ok (.istore 5, 2) := by decide +kernel
theorem dX2_make_19 : decode cX2_make 19 = .ok (.iload_n 3, 1) := by decide +kernel
theorem dX2_make_20 : decode cX2_make 20 = .ok (.iconst 1, 1) := by decide +kernel
theorem dX2_make_21 : decode cX2_make 21 = .ok (.iadd, 1) := by decide +kernel
theorem dX2_make_22 : decode cX2_make 22 = .ok (.istore 6, 2) := by decide +kernel
theorem dX2_make_24 : decode cX2_make 24 = .ok (.iload 6, 2) := by decide +kernel
theorem dX2_make_26 : decode cX2_make 26 = .ok (.bipush 9, 2) := by decide +kernel
theorem dX2_make_28 : decode cX2_make 28 = .ok (.if_icmp .lt 5, 3) := by decide +kernel
theorem dX2_make_31 : decode cX2_make 31 = .ok (.iconst 0, 1) := by decide +kernel
theorem dX2_make_32 : decode cX2_make 32 = .ok (.ireturn, 1) := by decide +kernel
theorem dX2_make_33 : decode cX2_make 33 = .ok (.iload 5, 2) := by decide +kernel
theorem dX2_make_35 : decode cX2_make 35 = .ok (.iconst 2, 1) := by decide +kernel
theorem dX2_make_36 : decode cX2_make 36 = .ok (.if_icmp .ne 20, 3) := by decide +kernel
theorem dX2_make_39 : decode cX2_make 39 = .ok (.aload_n 0, 1) := by decide +kernel
theorem dX2_make_40 : decode cX2_make 40 = .ok (.aload_n 0, 1) := by decide +kernel
theorem dX2_make_41 : decode cX2_make 41 = .ok (.getfield 22, 3) := by decide +kernel
theorem dX2_make_44 : decode cX2_make 44 = .ok (.getfield 128, 3) := by decide +kernel
theorem dX2_make_47 : decode cX2_make 47 = .ok (.iload 4, 2) := by decide +kernel
theorem dX2_make_49 : decode cX2_make 49 = .ok (.iaload, 1) := by decide +kernel
theorem dX2_make_50 : decode cX2_make 50 = .ok (.iload 6, 2) := by decide +kernel
theorem dX2_make_52 : decode cX2_make 52 = .ok (.invokevirtual 36, 3) := by decide +kernel
theorem dX2_make_55 : decode cX2_make 55 = .ok (.ireturn, 1) := by decide +kernel
theorem dX2_make_56 : decode cX2_make 56 = .ok (.iload 5, 2) := by decide +kernel
theorem dX2_make_58 : decode cX2_make 58 = .ok (.iconst 3, 1) := by decide +kernel
theorem dX2_make_59 : decode cX2_make 59 = .ok (.if_icmp .ne 67, 3) := by decide +kernel
theorem dX2_make_62 : decode cX2_make 62 = .ok (.aload_n 0, 1) := by decide +kernel
theorem dX2_make_63 : decode cX2_make 63 = .ok (.aload_n 0, 1) := by decide +kernel
theorem dX2_make_64 : decode cX2_make 64 = .ok (.getfield 22, 3) := by decide +kernel
theorem dX2_make_67 : decode cX2_make 67 = .ok (.getfield 128, 3) := by decide +kernel
theorem dX2_make_70 : decode cX2_make 70 = .ok (.iload 4, 2) := by decide +kernel
theorem dX2_make_72 : decode cX2_make 72 = .ok (.iaload, 1) := by decide +kernel
theorem dX2_make_73 : decode cX2_make 73 = .ok (.iload 6, 2) := by decide +kernel
theorem dX2_make_75 : decode cX2_make 75 = .ok (.invokevirtual 36, 3) := by decide +kernel
theorem dX2_make_78 : decode cX2_make 78 = .ok (.ifCond .ne 5, 3) := by decide +kernel
theorem dX2_make_81 : decode cX2_make 81 = .ok (.iconst 0, 1) := by decide +kernel
theorem dX2_make_82 : decode cX2_make 82 = .ok (.ireturn, 1) := by decide +kernel
theorem dX2_make_83 : decode cX2_make 83 = .ok (.aload_n 0, 1) := by decide +kernel
theorem dX2_make_84 : decode cX2_make 84 = .ok (.getfield 17, 3) := by decide +kernel
theorem dX2_make_87 : decode cX2_make 87 = .ok (.iload 6, 2) := by decide +kernel
theorem dX2_make_89 : decode cX2_make 89 = .ok (.aaload, 1) := by decide +kernel
theorem dX2_make_90 : decode cX2_make 90 = .ok (.aload_n 0, 1) := by decide +kernel
theorem dX2_make_91 : decode cX2_make 91 = .ok (.getfield 22, 3) := by decide +kernel
theorem dX2_make_94 : decode cX2_make 94 = .ok (.getfield 131, 3) := by decide +kernel
theorem dX2_make_97 : decode cX2_make 97 = .ok (.iload 4, 2) := by decide +kernel
theorem dX2_make_99 : decode cX2_make 99 = .ok (.iaload, 1) := by decide +kernel
theorem dX2_make_100 : decode cX2_make 100 = .ok (.invokevirtual 134, 3) := by decide +kernel
theorem dX2_make_103 : decode cX2_make 103 = .ok (.istore 7, 2) := by decide +kernel
theorem dX2_make_105 : decode cX2_make 105 = .ok (.iload 7, 2) := by decide +kernel
theorem dX2_make_107 : decode cX2_make 107 = .ok (.ifCond .eq 13, 3) := by decide +kernel
theorem dX2_make_110 : decode cX2_make 110 = .ok (.aload_n 0, 1) := by decide +kernel
theorem dX2_make_111 : decode cX2_make 111 = .ok (.iload 7, 2) := by decide +kernel
theorem dX2_make_113 : decode cX2_make 113 = .ok (.iload_n 3, 1) := by decide +kernel
theorem dX2_make_114 : decode cX2_make 114 = .ok (.invokevirtual 46, 3) := by decide +kernel
theorem dX2_make_117 : decode cX2_make 117 = .ok (.ifCond .eq 7, 3) := by decide +kernel
theorem dX2_make_120 : decode cX2_make 120 = .ok (.iconst 1, 1) := by decide +kernel
theorem dX2_make_121 : decode cX2_make 121 = .ok (.goto 4, 3) := by decide +kernel
theorem dX2_make_124 : decode cX2_make 124 = .ok (.iconst 0, 1) := by decide +kernel
theorem dX2_make_125 : decode cX2_make 125 = .ok (.ireturn, 1) := by decide +kernel
theorem dX2_make_126 : decode cX2_make 126 = .ok (.aload_n 0, 1) := by decide +kernel
theorem dX2_make_127 : decode cX2_make 127 = .ok (.iload 4, 2) := by decide +kernel
theorem dX2_make_129 : decode cX2_make 129 = .ok (.aload_n 0, 1) := by decide +kernel
theorem dX2_make_130 : decode cX2_make 130 = .ok (.getfield 17, 3) := by decide +kernel
theorem dX2_make_133 : decode cX2_make 133 = .ok (.iload 6, 2) := by decide +kernel
theorem dX2_make_135 : decode cX2_make 135 = .ok (.aaload, 1) := by decide +kernel
theorem dX2_make_136 : decode cX2_make 136 = .ok (.invokevirtual 137, 3) := by decide +kernel
theorem dX2_make_139 : decode cX2_make 139 = .ok (.iconst 1, 1) := by decide +kernel
theorem dX2_make_140 : decode cX2_make 140 = .ok (.ireturn, 1) := by decide +kernel
theorem dX2_copyEntry_0 : decode cX2_copyEntry 0 = .ok (.aload_n 2, 1) := by decide +kernel
theorem dX2_copyEntry_1 : decode cX2_copyEntry 1 = .ok (.invokevirtual 43, 3) := by decide +kernel
theorem dX2_copyEntry_4 : decode cX2_copyEntry 4 = .ok (.aload_n 2, 1) := by decide +kernel
theorem dX2_copyEntry_5 : decode cX2_copyEntry 5 = .ok (.aload_n 0, 1) := by decide +kernel
theorem dX2_copyEntry_6 : decode cX2_copyEntry 6 = .ok (.getfield 22, 3) := by decide +kernel
theorem dX2_copyEntry_9 : decode cX2_copyEntry 9 = .ok (.getfield 76, 3) := by decide +kernel
theorem dX2_copyEntry_12 : decode cX2_copyEntry 12 = .ok (.iload_n 1, 1) := by decide +kernel
theorem dX2_copyEntry_13 : decode cX2_copyEntry 13 = .ok (.iaload, 1) := by decide +kernel
theorem dX2_copyEntry_14 : decode cX2_copyEntry 14 = .ok (.putfield 68, 3) := by decide +kernel
theorem dX2_copyEntry_17 : decode cX2_copyEntry 17 = .ok (.aload_n 2, 1) := by decide +kernel
theorem dX2_copyEntry_18 : decode cX2_copyEntry 18 = .ok (.aload_n 0, 1) := by decide +kernel
theorem dX2_copyEntry_19 : decode cX2_copyEntry 19 = .ok (.getfield 22, 3) := by decide +kernel
theorem dX2_copyEntry_22 : decode cX2_copyEntry 22 = .ok (.getfield 131, 3) := by decide +kernel
theorem dX2_copyEntry_25 : decode cX2_copyEntry 25 = .ok (.iload_n 1, 1) := by decide +kernel
theorem dX2_copyEntry_26 : decode cX2_copyEntry 26 = .ok (.iaload, 1) := by decide +kernel
theorem dX2_copyEntry_27 : decode cX2_copyEntry 27 = .ok (.putfield 140, 3) := by decide +kernel
theorem dX2_copyEntry_30 : decode cX2_copyEntry 30 = .ok (.aload_n 2, 1) := by decide +kernel
theorem dX2_copyEntry_31 : decode cX2_copyEntry 31 = .ok (.getfield 68, 3) := by decide +kernel
theorem dX2_copyEntry_34 : decode cX2_copyEntry 34 = .ok (.iconst 1, 1) := by decide +kernel
theorem dX2_copyEntry_35 : decode cX2_copyEntry 35 = .ok (.if_icmp .ne 47, 3) := by decide +kernel
theorem dX2_copyEntry_38 : decode cX2_copyEntry 38 = .ok (.iload_n 1, 1) := by decide +kernel
theorem dX2_copyEntry_39 : decode cX2_copyEntry 39 = .ok (.iconst 4, 1) := by decide +kernel
theorem dX2_copyEntry_40 : decode cX2_copyEntry 40 = .ok (.imul, 1) := by decide +kernel
theorem dX2_copyEntry_41 : decode cX2_copyEntry 41 = .ok (.istore_n 3, 1) := by decide +kernel
theorem dX2_copyEntry_42 : decode cX2_copyEntry 42 = .ok (.aload_n 0, 1) := by decide +kernel
theorem dX2_copyEntry_43 : decode cX2_copyEntry 43 = .ok (.getfield 22, 3) := by decide +kernel
theorem dX2_copyEntry_46 : decode cX2_copyEntry 46 = .ok (.getfield 143, 3) := by decide +kernel
theorem dX2_copyEntry_49 : decode cX2_copyEntry 49 = .ok (.iload_n 3, 1) := by decide +kernel
theorem dX2_copyEntry_50 : decode cX2_copyEntry 50 = .ok (.aload_n 2, 1) := by decide +kernel
theorem dX2_copyEntry_51 : decode cX2_copyEntry 51 = .ok (.getfield 146, 3) := by decide +kernel
theorem dX2_copyEntry_54 : decode cX2_copyEntry 54 = .ok (.iconst 0, 1) := by decide +kernel
theorem dX2_copyEntry_55 : decode cX2_copyEntry 55 = .ok (.aload_n 2, 1) := by decide +kernel
theorem dX2_copyEntry_56 : decode cX2_copyEntry 56 = .ok (.getfield 140, 3) := by decide +kernel
theorem dX2_copyEntry_59 : decode cX2_copyEntry 59 = .ok (.invokestatic 147, 3) := by decide +kernel
theorem dX2_copyEntry_62 : decode cX2_copyEntry 62 = .ok (.aload_n 0, 1) := by decide +kernel
theorem dX2_copyEntry_63 : decode cX2_copyEntry 63 = .ok (.getfield 22, 3) := by decide +kernel
theorem dX2_copyEntry_66 : decode cX2_copyEntry 66 = .ok (.getfield 153, 3) := by decide +kernel
theorem dX2_copyEntry_69 : decode cX2_copyEntry 69 = .ok (.iload_n 3, 1) := by decide +kernel
theorem dX2_copyEntry_70 : decode cX2_copyEntry 70 = .ok (.aload_n 2, 1) := by decide +kernel
theorem dX2_copyEntry_71 : decode cX2_copyEntry 71 = .ok (.getfield 156, 3) := by decide +kernel
theorem dX2_copyEntry_74 : decode cX2_copyEntry 74 = .ok (.iconst 0, 1) := by decide +kernel
theorem dX2_copyEntry_75 : decode cX2_copyEntry 75 = .ok (.aload_n 2, 1) := by decide +kernel
theorem dX2_copyEntry_76 : decode cX2_copyEntry 76 = .ok (.getfield 140, 3) := by decide +kernel
theorem dX2_copyEntry_79 : decode cX2_copyEntry 79 = .ok (.invokestatic 147, 3) := by decide +kernel
theorem dX2_copyEntry_82 : decode cX2_copyEntry 82 = .ok (.return_, 1) := by decide +kernel
theorem dX3_init_0 : decode cX3_init 0 = .ok (.aload_n 0, 1) := by decide +kernel
theorem dX3_init_1 : decode cX3_init 1 = .ok (.invokespecial 3, 3) := by decide +kernel
theorem dX3_init_4 : decode cX3_init 4 = .ok (.aload_n 0, 1) := by decide +kernel
theorem dX3_init_5 : decode cX3_init 5 = .ok (.bipush 8, 2) := by decide +kernel
theorem dX3_init_7 : decode cX3_init 7 = .ok (.newarray .int, 2) := by decide +kernel
theorem dX3_init_9 : decode cX3_init 9 = .ok (.putfield 9, 3) := by decide +kernel
theorem dX3_init_12 : decode cX3_init 12 = .ok (.return_, 1) := by decide +kernel
theorem dX3_append_0 : decode cX3_append 0 = .ok (.aload_n 0, 1) := by decide +kernel
theorem dX3_append_1 : decode cX3_append 1 = .ok (.getfield 9, 3) := by decide +kernel
theorem dX3_append_4 : decode cX3_append 4 = .ok (.aload_n 0, 1) := by decide +kernel
theorem dX3_append_5 : decode cX3_append 5 = .ok (.getfield 15, 3) := by decide +kernel
theorem dX3_append_8 : decode cX3_append 8 = .ok (.iload_n 1, 1) := by decide +kernel
theorem dX3_append_9 : decode cX3_append 9 = .ok (.iastore, 1) := by decide +kernel
theorem dX3_append_10 : decode cX3_append 10 = .ok (.aload_n 0, 1) := by decide +kernel
theorem dX3_append_11 : decode cX3_append 11 = .ok (.dup, 1) := by decide +kernel
theorem dX3_append_12 : decode cX3_append 12 = .ok (.getfield 15, 3) := by decide +kernel
theorem dX3_append_15 : decode cX3_append 15 = .ok (.iconst 1, 1) := by decide +kernel
theorem dX3_append_16 : decode cX3_append 16 = .ok (.iadd, 1) := by decide +kernel
theorem dX3_append_17 : decode cX3_append 17 = .ok (.putfield 15, 3) := by decide +kernel
theorem dX3_append_20 : decode cX3_append 20 = .ok (.aload_n 0, 1) := by decide +kernel
theorem dX3_append_21 : decode cX3_append 21 = .ok (.getfield 15, 3) := by decide +kernel
theorem dX3_append_24 : decode cX3_append 24 = .ok (.ireturn, 1) := by decide +kernel
theorem dX3_isOtherThan_0 : decode cX3_isOtherThan 0 = .ok (.aload_n 0, 1) := by decide +kernel
theorem dX3_isOtherThan_1 : decode cX3_isOtherThan 1 = .ok (.getfield 9, 3) := by decide +kernel
theorem dX3_isOtherThan_4 : decode cX3_isOtherThan 4 = .ok (.iload_n 1, 1) := by decide +kernel
theorem dX3_isOtherThan_5 : decode cX3_isOtherThan 5 = .ok (.iaload, 1) := by decide +kernel
theorem dX3_isOtherThan_6 : decode cX3_isOtherThan 6 = .ok (.bipush 100, 2) := by decide +kernel
theorem dX3_isOtherThan_8 : decode cX3_isOtherThan 8 = .ok (.if_icmp .ne 15, 3) := by decide +kernel
theorem dX3_isOtherThan_11 : decode cX3_isOtherThan 11 = .ok (.iload_n 2, 1) := by decide +kernel
theorem dX3_isOtherThan_12 : decode cX3_isOtherThan 12 = .ok (.bipush (-9), 2) := by decide +kernel
theorem dX3_isOtherThan_14 : decode cX3_isOtherThan 14 = .ok (.if_icmp .eq 7, 3) := by decide +kernel
theorem dX3_isOtherThan_17 : decode cX3_isOtherThan 17 = .ok (.iconst 1, 1) := by decide +kernel
theorem dX3_isOtherThan_18 : decode cX3_isOtherThan 18 = .ok (.goto 4, 3) := by decide +kernel
theorem dX3_isOtherThan_21 : decode cX3_isOtherThan 21 = .ok (.iconst 0, 1) := by decide +kernel
theorem dX3_isOtherThan_22 : decode cX3_isOtherThan 22 = .ok (.ireturn, 1) := by decide +kernel
theorem dX3_isOtherThan_23 : decode cX3_isOtherThan 23 = .ok (.aload_n 0, 1) := by decide +kernel
theorem dX3_isOtherThan_24 : decode cX3_isOtherThan 24 = .ok (.getfield 9, 3) := by decide +kernel
theorem dX3_isOtherThan_27 : decode cX3_isOtherThan 27 = .ok (.iload_n 1, 1) := by decide +kernel
theorem dX3_isOtherThan_28 : decode cX3_isOtherThan 28 = .ok (.iaload, 1) := by decide +kernel
theorem dX3_isOtherThan_29 : decode cX3_isOtherThan 29 = .ok (.iload_n 2, 1) := by decide +kernel
theorem dX3_isOtherThan_30 : decode cX3_isOtherThan 30 = .ok (.if_icmp .eq 7, 3) := by decide +kernel
theorem dX3_isOtherThan_33 : decode cX3_isOtherThan 33 = .ok (.iconst 1, 1) := by decide +kernel
theorem dX3_isOtherThan_34 : decode cX3_isOtherThan 34 = .ok (.goto 4, 3) := by decide +kernel
theorem dX3_isOtherThan_37 : decode cX3_isOtherThan 37 = .ok (.iconst 0, 1) := by decide +kernel
theorem dX3_isOtherThan_38 : decode cX3_isOtherThan 38 = .ok (.ireturn, 1) := by decide +kernel
theorem dX4_init_0 : decode cX4_init 0 = .ok (.aload_n 0, 1) := by decide +kernel
theorem dX4_init_1 : decode cX4_init 1 = .ok (.invokespecial 3, 3) := by decide +kernel
theorem dX4_init_4 : decode cX4_init 4 = .ok (.aload_n 0, 1) := by decide +kernel
theorem dX4_init_5 : decode cX4_init 5 = .ok (.bipush 6, 2) := by decide +kernel
theorem dX4_init_7 : decode cX4_init 7 = .ok (.newarray .int, 2) := by decide +kernel
theorem dX4_init_9 : decode cX4_init 9 = .ok (.putfield 9, 3) := by decide +kernel
theorem dX4_init_12 : decode cX4_init 12 = .ok (.aload_n 0, 1) := by decide +kernel
theorem dX4_init_13 : decode cX4_init 13 = .ok (.bipush 6, 2) := by decide +kernel
theorem dX4_init_15 : decode cX4_init 15 = .ok (.newarray .int, 2) := by decide +kernel
theorem dX4_init_17 : decode cX4_init 17 = .ok (.putfield 15, 3) := by decide +kernel
theorem dX4_init_20 : decode cX4_init 20 = .ok (.aload_n 0, 1) := by decide +kernel
theorem dX4_init_21 : decode cX4_init 21 = .ok (.bipush 8, 2) := by decide +kernel
theorem dX4_init_23 : decode cX4_init 23 = .ok (.newarray .int, 2) := by decide +kernel
theorem dX4_init_25 : decode cX4_init 25 = .ok (.putfield 18, 3) := by decide +kernel
theorem dX4_init_28 : decode cX4_init 28 = .ok (.aload_n 0, 1) := by decide +kernel
theorem dX4_init_29 : decode cX4_init 29 = .ok (.bipush 6, 2) := by decide +kernel
theorem dX4_init_31 : decode cX4_init 31 = .ok (.newarray .int, 2) := by decide +kernel
theorem dX4_init_33 : decode cX4_init 33 = .ok (.putfield 21, 3) := by decide +kernel
theorem dX4_init_36 : decode cX4_init 36 = .ok (.aload_n 0, 1) := by decide +kernel
theorem dX4_init_37 : decode cX4_init 37 = .ok (.bipush 48, 2) := by decide +kernel
theorem dX4_init_39 : decode cX4_init 39 = .ok (.newarray .int, 2) := by decide +kernel
theorem dX4_init_41 : decode cX4_init 41 = .ok (.putfield 24, 3) := by decide +kernel
theorem dX4_init_44 : decode cX4_init 44 = .ok (.aload_n 0, 1) := by decide +kernel
theorem dX4_init_45 : decode cX4_init 45 = .ok (.bipush 48, 2) := by decide +kernel
theorem dX4_init_47 : decode cX4_init 47 = .ok (.newarray .int, 2) := by decide +kernel
theorem dX4_init_49 : decode cX4_init 49 = .ok (.putfield 27, 3) := by decide +kernel
theorem dX4_init_52 : decode cX4_init 52 = .ok (.aload_n 0, 1) := by decide +kernel
theorem dX4_init_53 : decode cX4_init 53 = .ok (.bipush 48, 2) := by decide +kernel
theorem dX4_init_55 : decode cX4_init 55 = .ok (.newarray .int, 2) := by decide +kernel
theorem dX4_init_57 : decode cX4_init 57 = .ok (.putfield 30, 3) := by decide +kernel
theorem dX4_init_60 : decode cX4_init 60 = .ok (.aload_n 0, 1) := by decide +kernel
theorem dX4_init_61 : decode cX4_init 61 = .ok (.sipush 192, 3) := by decide +kernel
theorem dX4_init_64 : decode cX4_init 64 = .ok (.newarray .int, 2) := by decide +kernel
theorem dX4_init_66 : decode cX4_init 66 = .ok (.putfield 33, 3) := by decide +kernel
theorem dX4_init_69 : decode cX4_init 69 = .ok (.aload_n 0, 1) := by decide +kernel
theorem dX4_init_70 : decode cX4_init 70 = .ok (.sipush 192, 3) := by decide +kernel
theorem dX4_init_73 : decode cX4_init 73 = .ok (.newarray .int, 2) := by decide +kernel
theorem dX4_init_75 : decode cX4_init 75 = .ok (.putfield 36, 3) := by decide +kernel
theorem dX4_init_78 : decode cX4_init 78 = .ok (.iconst 0, 1) := by decide +kernel
theorem dX4_init_79 : decode cX4_init 79 = .ok (.istore_n 1, 1) := by decide +kernel
theorem dX4_init_80 : decode cX4_init 80 = .ok (.iload_n 1, 1) := by decide +kernel
theorem dX4_init_81 : decode cX4_init 81 = .ok (.bipush 48, 2) := by decide +kernel
theorem dX4_init_83 : decode cX4_init 83 = .ok (.if_icmp .ge 14, 3) := by decide +kernel
theorem dX4_init_86 : decode cX4_init 86 = .ok (.aload_n 0, 1) := by decide +kernel
theorem dX4_init_87 : decode cX4_init 87 = .ok (.iload_n 1, 1) := by decide +kernel
theorem dX4_init_88 : decode cX4_init 88 = .ok (.invokevirtual 39, 3) := by decide +kernel
theorem dX4_init_91 : decode cX4_init 91 = .ok (.iinc 1 1, 3) := by decide +kernel
theorem dX4_init_94 : decode cX4_init 94 = .ok (.goto (-14), 3) := by decide +kernel
theorem dX4_init_97 : decode cX4_init 97 = .ok (.aload_n 0, 1) := by decide +kernel
theorem dX4_init_98 : decode cX4_init 98 = .ok (.invokevirtual 43, 3) := by decide +kernel
theorem dX4_init_101 : decode cX4_init 101 = .ok (.return_, 1) := by decide +kernel
theorem dX4_become_0 : decode cX4_become 0 = .ok (.aload_n 0, 1) := by decide +kernel
theorem dX4_become_1 : decode cX4_become 1 = .ok (.aload_n 1, 1) := by decide +kernel
theorem dX4_become_2 : decode cX4_become 2 = .ok (.getfield 46, 3) := by decide +kernel
theorem dX4_become_5 : decode cX4_become 5 = .ok (.putfield 46, 3) := by decide +kernel
theorem dX4_become_8 : decode cX4_become 8 = .ok (.aload_n 1, 1) := by decide +kernel
theorem dX4_become_9 : decode cX4_become 9 = .ok (.getfield 9, 3) := by decide +kernel
theorem dX4_become_12 : decode cX4_become 12 = .ok (.iconst 0, 1) := by decide +kernel
theorem dX4_become_13 : decode cX4_become 13 = .ok (.aload_n 0, 1) := by decide +kernel
theorem dX4_become_14 : decode cX4_become 14 = .ok (.getfield 9, 3) := by decide +kernel
theorem dX4_become_17 : decode cX4_become 17 = .ok (.iconst 0, 1) := by decide +kernel
theorem dX4_become_18 : decode cX4_become 18 = .ok (.bipush 6, 2) := by decide +kernel
theorem dX4_become_20 : decode cX4_become 20 = .ok (.invokestatic 50, 3) := by decide +kernel
theorem dX4_become_23 : decode cX4_become 23 = .ok (.aload_n 1, 1) := by decide +kernel
theorem dX4_become_24 : decode cX4_become 24 = .ok (.getfield 15, 3) := by decide +kernel
theorem dX4_become_27 : decode cX4_become 27 = .ok (.iconst 0, 1) := by decide +kernel
theorem dX4_become_28 : decode cX4_become 28 = .ok (.aload_n 0, 1) := by decide +kernel
theorem dX4_become_29 : decode cX4_become 29 = .ok (.getfield 15, 3) := by decide +kernel
theorem dX4_become_32 : decode cX4_become 32 = .ok (.iconst 0, 1) := by decide +kernel
theorem dX4_become_33 : decode cX4_become 33 = .ok (.bipush 6, 2) := by decide +kernel
theorem dX4_become_35 : decode cX4_become 35 = .ok (.invokestatic 50, 3) := by decide +kernel
theorem dX4_become_38 : decode cX4_become 38 = .ok (.aload_n 1, 1) := by decide +kernel
theorem dX4_become_39 : decode cX4_become 39 = .ok (.getfield 18, 3) := by decide +kernel
theorem dX4_become_42 : decode cX4_become 42 = .ok (.iconst 0, 1) := by decide +kernel
theorem dX4_become_43 : decode cX4_become 43 = .ok (.aload_n 0, 1) := by decide +kernel
theorem dX4_become_44 : decode cX4_become 44 = .ok (.getfield 18, 3) := by decide +kernel
theorem dX4_become_47 : decode cX4_become 47 = .ok (.iconst 0, 1) := by decide +kernel
theorem dX4_become_48 : decode cX4_become 48 = .ok (.bipush 8, 2) := by decide +kernel
theorem dX4_become_50 : decode cX4_become 50 = .ok (.invokestatic 50, 3) := by decide +kernel
theorem dX4_become_53 : decode cX4_become 53 = .ok (.aload_n 1, 1) := by decide +kernel
theorem dX4_become_54 : decode cX4_become 54 = .ok (.getfield 21, 3) := by decide +kernel
theorem dX4_become_57 : decode cX4_become 57 = .ok (.iconst 0, 1) := by decide +kernel
theorem dX4_become_58 : decode cX4_become 58 = .ok (.aload_n 0, 1) := by decide +kernel
theorem dX4_become_59 : decode cX4_become 59 = .ok (.getfield 21, 3) := by decide +kernel
theorem dX4_become_62 : decode cX4_become 62 = .ok (.iconst 0, 1) := by decide +kernel
theorem dX4_become_63 : decode cX4_become 63 = .ok (.bipush 6, 2) := by decide +kernel
theorem dX4_become_65 : decode cX4_become 65 = .ok (.invokestatic 50, 3) := by decide +kernel
theorem dX4_become_68 : decode cX4_become 68 = .ok (.aload_n 1, 1) := by decide +kernel
theorem dX4_become_69 : decode cX4_become 69 = .ok (.getfield 24, 3) := by decide +kernel
theorem dX4_become_72 : decode cX4_become 72 = .ok (.iconst 0, 1) := by decide +kernel
theorem dX4_become_73 : decode cX4_become 73 = .ok (.aload_n 0, 1) := by decide +kernel
theorem dX4_become_74 : decode cX4_become 74 = .ok (.getfield 24, 3) := by decide +kernel
theorem dX4_become_77 : decode cX4_become 77 = .ok (.iconst 0, 1) := by decide +kernel
theorem dX4_become_78 : decode cX4_become 78 = .ok (.bipush 48, 2) := by decide +kernel
theorem dX4_become_80 : decode cX4_become 80 = .ok (.invokestatic 50, 3) := by decide +kernel
theorem dX4_become_83 : decode cX4_become 83 = .ok (.aload_n 1, 1) := by decide +kernel
theorem dX4_become_84 : decode cX4_become 84 = .ok (.getfield 27, 3) := by decide +kernel
theorem dX4_become_87 : decode cX4_become 87 = .ok (.iconst 0, 1) := by decide +kernel
theorem dX4_become_88 : decode cX4_become 88 = .ok (.aload_n 0, 1) := by decide +kernel
theorem dX4_become_89 : decode cX4_become 89 = .ok (.getfield 27, 3) := by decide +kernel
theorem dX4_become_92 : decode cX4_become 92 = .ok (.iconst 0, 1) := by decide +kernel
theorem dX4_become_93 : decode cX4_become 93 = .ok (.bipush 48, 2) := by decide +kernel
theorem dX4_become_95 : decode cX4_become 95 = .ok (.invokestatic 50, 3) := by decide +kernel
theorem dX4_become_98 : decode cX4_become 98 = .ok (.aload_n 1, 1) := by decide +kernel
theorem dX4_become_99 : decode cX4_become 99 = .ok (.getfield 30, 3) := by decide +kernel
theorem dX4_become_102 : decode cX4_become 102 = .ok (.iconst 0, 1) := by decide +kernel
theorem dX4_become_103 : decode cX4_become 103 = .ok (.aload_n 0, 1) := by decide +kernel
theorem dX4_become_104 : decode cX4_become 104 = .ok (.getfield 30, 3) := by decide +kernel
theorem dX4_become_107 : decode cX4_become 107 = .ok (.iconst 0, 1) := by decide +kernel
theorem dX4_become_108 : decode cX4_become 108 = .ok (.bipush 48, 2) := by decide +kernel
theorem dX4_become_110 : decode cX4_become 110 = .ok (.invokestatic 50, 3) := by decide +kernel
theorem dX4_become_113 : decode cX4_become 113 = .ok (.aload_n 1, 1) := by decide +kernel
theorem dX4_become_114 : decode cX4_become 114 = .ok (.getfield 33, 3) := by decide +kernel
theorem dX4_become_117 : decode cX4_become 117 = .ok (.iconst 0, 1) := by decide +kernel
theorem dX4_become_118 : decode cX4_become 118 = .ok (.aload_n 0, 1) := by decide +kernel
theorem dX4_become_119 : decode cX4_become 119 = .ok (.getfield 33, 3) := by decide +kernel
theorem dX4_become_122 : decode cX4_become 122 = .ok (.iconst 0, 1) := by decide +kernel
theorem dX4_become_123 : decode cX4_become 123 = .ok (.sipush 192, 3) := by decide +kernel
theorem dX4_become_126 : decode cX4_become 126 = .ok (.invokestatic 50, 3) := by decide +kernel
theorem dX4_become_129 : decode cX4_become 129 = .ok (.aload_n 1, 1) := by decide +kernel
theorem dX4_become_130 : decode cX4_become 130 = .ok (.getfield 36, 3) := by decide +kernel
theorem dX4_become_133 : decode cX4_become 133 = .ok (.iconst 0, 1) := by decide +kernel
theorem dX4_become_134 : decode cX4_become 134 = .ok (.aload_n 0, 1) := by decide +kernel
theorem dX4_become_135 : decode cX4_become 135 = .ok (.getfield 36, 3) := by decide +kernel
theorem dX4_become_138 : decode cX4_become 138 = .ok (.iconst 0, 1) := by decide +kernel
theorem dX4_become_139 : decode cX4_become 139 = .ok (.sipush 192, 3) := by decide +kernel
theorem dX4_become_142 : decode cX4_become 142 = .ok (.invokestatic 50, 3) := by decide +kernel
theorem dX4_become_145 : decode cX4_become 145 = .ok (.return_, 1) := by decide +kernel
theorem dX4_isOn_0 : decode cX4_isOn 0 = .ok (.aload_n 0, 1) := by decide +kernel
theorem dX4_isOn_1 : decode cX4_isOn 1 = .ok (.getfield 46, 3) := by decide +kernel
theorem dX4_isOn_4 : decode cX4_isOn 4 = .ok (.iload_n 1, 1) := by decide +kernel
theorem dX4_isOn_5 : decode cX4_isOn 5 = .ok (.ishr, 1) := by decide +kernel
theorem dX4_isOn_6 : decode cX4_isOn 6 = .ok (.iconst 1, 1) := by decide +kernel
theorem dX4_isOn_7 : decode cX4_isOn 7 = .ok (.iand, 1) := by decide +kernel
theorem dX4_isOn_8 : decode cX4_isOn 8 = .ok (.ifCond .eq 7, 3) := by decide +kernel
theorem dX4_isOn_11 : decode cX4_isOn 11 = .ok (.iconst 1, 1) := by decide +kernel
theorem dX4_isOn_12 : decode cX4_isOn 12 = .ok (.goto 4, 3) := by decide +kernel
theorem dX4_isOn_15 : decode cX4_isOn 15 = .ok (.iconst 0, 1) := by decide +kernel
theorem dX4_isOn_16 : decode cX4_isOn 16 = .ok (.ireturn, 1) := by decide +kernel
theorem dX4_toggle_0 : decode cX4_toggle 0 = .ok (.aload_n 0, 1) := by decide +kernel
theorem dX4_toggle_1 : decode cX4_toggle 1 = .ok (.dup, 1) := by decide +kernel
theorem dX4_toggle_2 : decode cX4_toggle 2 = .ok (.getfield 46, 3) := by decide +kernel
theorem dX4_toggle_5 : decode cX4_toggle 5 = .ok (.iconst 1, 1) := by decide +kernel
theorem dX4_toggle_6 : decode cX4_toggle 6 = .ok (.iload_n 1, 1) := by decide +kernel
theorem dX4_toggle_7 : decode cX4_toggle 7 = .ok (.ishl, 1) := by decide +kernel
theorem dX4_toggle_8 : decode cX4_toggle 8 = .ok (.ixor, 1) := by decide +kernel
theorem dX4_toggle_9 : decode cX4_toggle 9 = .ok (.putfield 46, 3) := by decide +kernel
theorem dX4_toggle_12 : decode cX4_toggle 12 = .ok (.return_, 1) := by decide +kernel
theorem dX4_putKind_0 : decode cX4_putKind 0 = .ok (.aload_n 0, 1) := by decide +kernel
theorem dX4_putKind_1 : decode cX4_putKind 1 = .ok (.getfield 9, 3) := by decide +kernel
theorem dX4_putKind_4 : decode cX4_putKind 4 = .ok (.iload_n 1, 1) := by decide +kernel
theorem dX4_putKind_5 : decode cX4_putKind 5 = .ok (.iload_n 2, 1) := by decide +kernel
theorem dX4_putKind_6 : decode cX4_putKind 6 = .ok (.iastore, 1) := by decide +kernel
theorem dX4_putKind_7 : decode cX4_putKind 7 = .ok (.aload_n 0, 1) := by decide +kernel
theorem dX4_putKind_8 : decode cX4_putKind 8 = .ok (.getfield 15, 3) := by decide +kernel
theorem dX4_putKind_11 : decode cX4_putKind 11 = .ok (.iload_n 1, 1) := by decide +kernel
theorem dX4_putKind_12 : decode cX4_putKind 12 = .ok (.iload_n 3, 1) := by decide +kernel
theorem dX4_putKind_13 : decode cX4_putKind 13 = .ok (.iastore, 1) := by decide +kernel
theorem dX4_putKind_14 : decode cX4_putKind 14 = .ok (.aload_n 0, 1) := by decide +kernel
theorem dX4_putKind_15 : decode cX4_putKind 15 = .ok (.invokevirtual 43, 3) := by decide +kernel
theorem dX4_putKind_18 : decode cX4_putKind 18 = .ok (.return_, 1) := by decide +kernel
theorem dX4_rank_0 : decode cX4_rank 0 = .ok (.aload_n 0, 1) := by decide +kernel
theorem dX4_rank_1 : decode cX4_rank 1 = .ok (.getfield 9, 3) := by decide +kernel
theorem dX4_rank_4 : decode cX4_rank 4 = .ok (.iload_n 1, 1) := by decide +kernel
theorem dX4_rank_5 : decode cX4_rank 5 = .ok (.iaload, 1) := by decide +kernel
theorem dX4_rank_6 : decode cX4_rank 6 = .ok (.tableswitch 61 1 5 #[34, 39, 51, 56, 39], 34) := by decide +kernel
theorem dX4_rank_40 : decode cX4_rank 40 = .ok (.iload_n 1, 1) := by decide +kernel
theorem dX4_rank_41 : decode cX4_rank 41 = .ok (.bipush 10, 2) := by decide +kernel
theorem dX4_rank_43 : decode cX4_rank 43 = .ok (.iadd, 1) := by decide +kernel
theorem dX4_rank_44 : decode cX4_rank 44 = .ok (.ireturn, 1) := by decide +kernel
theorem dX4_rank_45 : decode cX4_rank 45 = .ok (.iload_n 1, 1) := by decide +kernel
theorem dX4_rank_46 : decode cX4_rank 46 = .ok (.bipush 10, 2) := by decide +kernel
theorem dX4_rank_48 : decode cX4_rank 48 = .ok (.iadd, 1) := by decide +kernel
theorem dX4_rank_49 : decode cX4_rank 49 = .ok (.aload_n 0, 1) := by decide +kernel
theorem dX4_rank_50 : decode cX4_rank 50 = .ok (.getfield 15, 3) := by decide +kernel
theorem dX4_rank_53 : decode cX4_rank 53 = .ok (.iload_n 1, 1) := by decide +kernel
theorem dX4_rank_54 : decode cX4_rank 54 = .ok (.iaload, 1) := by decide +kernel
theorem dX4_rank_55 : decode cX4_rank 55 = .ok (.iadd, 1) := by decide +kernel
theorem dX4_rank_56 : decode cX4_rank 56 = .ok (.ireturn, 1) := by decide +kernel
theorem dX4_rank_57 : decode cX4_rank 57 = .ok (.iload_n 1, 1) := by decide +kernel
theorem dX4_rank_58 : decode cX4_rank 58 = .ok (.bipush 110, 2) := by decide +kernel
theorem dX4_rank_60 : decode cX4_rank 60 = .ok (.iadd, 1) := by decide +kernel
theorem dX4_rank_61 : decode cX4_rank 61 = .ok (.ireturn, 1) := by decide +kernel
theorem dX4_rank_62 : decode cX4_rank 62 = .ok (.iload_n 1, 1) := by decide +kernel
theorem dX4_rank_63 : decode cX4_rank 63 = .ok (.bipush 20, 2) := by decide +kernel
theorem dX4_rank_65 : decode cX4_rank 65 = .ok (.isub, 1) := by decide +kernel
theorem dX4_rank_66 : decode cX4_rank 66 = .ok (.ireturn, 1) := by decide +kernel
theorem dX4_rank_67 : decode cX4_rank 67 = .ok (.iload_n 1, 1) := by decide +kernel
theorem dX4_rank_68 : decode cX4_rank 68 = .ok (.ireturn, 1) := by decide +kernel
theorem dX4_arrange_0 : decode cX4_arrange 0 = .ok (.iconst 0, 1) := by decide +kernel
theorem dX4_arrange_1 : decode cX4_arrange 1 = .ok (.istore_n 1, 1) := by decide +kernel
theorem dX4_arrange_2 : decode cX4_arrange 2 = .ok (.iload_n 1, 1) := by decide +kernel
theorem dX4_arrange_3 : decode cX4_arrange 3 = .ok (.bipush 6, 2) := by decide +kernel
theorem dX4_arrange_5 : decode cX4_arrange 5 = .ok (.if_icmp .ge 62, 3) := by decide +kernel
theorem dX4_arrange_8 : decode cX4_arrange 8 = .ok (.iload_n 1, 1) := by decide +kernel
theorem dX4_arrange_9 : decode cX4_arrange 9 = .ok (.istore_n 2, 1) := by decide +kernel
theorem dX4_arrange_10 : decode cX4_arrange 10 = .ok (.iload_n 2, 1) := by decide +kernel
theorem dX4_arrange_11 : decode cX4_arrange 11 = .ok (.ifCond .le 43, 3) := by decide +kernel
theorem dX4_arrange_14 : decode cX4_arrange 14 = .ok (.aload_n 0, 1) := by decide +kernel
theorem dX4_arrange_15 : decode cX4_arrange 15 = .ok (.aload_n 0, 1) := by decide +kernel
theorem dX4_arrange_16 : decode cX4_arrange 16 = .ok (.getfield 21, 3) := by decide +kernel
theorem dX4_arrange_19 : decode cX4_arrange 19 = .ok (.iload_n 2, 1) := by decide +kernel
theorem dX4_arrange_20 : decode cX4_arrange 20 = .ok (.iconst 1, 1) := by decide +kernel
theorem dX4_arrange_21 : decode cX4_arrange 21 = .ok (.isub, 1) := by decide +kernel
theorem dX4_arrange_22 : decode cX4_arrange 22 = .ok (.iaload, 1) := by decide +kernel
theorem dX4_arrange_23 : decode cX4_arrange 23 = .ok (.invokevirtual 56, 3) := by decide +kernel
theorem dX4_arrange_26 : decode cX4_arrange 26 = .ok (.aload_n 0, 1) := by decide +kernel
theorem dX4_arrange_27 : decode cX4_arrange 27 = .ok (.iload_n 1, 1) := by decide +kernel
theorem dX4_arrange_28 : decode cX4_arrange 28 = .ok (.invokevirtual 56, 3) := by decide +kernel
theorem dX4_arrange_31 : decode cX4_arrange 31 = .ok (.if_icmp .le 23, 3) := by decide +kernel
theorem dX4_arrange_34 : decode cX4_arrange 34 = .ok (.aload_n 0, 1) := by decide +kernel
theorem dX4_arrange_35 : decode cX4_arrange 35 = .ok (.getfield 21, 3) := by decide +kernel
theorem dX4_arrange_38 : decode cX4_arrange 38 = .ok (.iload_n 2, 1) := by decide +kernel
theorem dX4_arrange_39 : decode cX4_arrange 39 = .ok (.aload_n 0, 1) := by decide +kernel
theorem dX4_arrange_40 : decode cX4_arrange 40 = .ok (.getfield 21, 3) := by decide +kernel
theorem dX4_arrange_43 : decode cX4_arrange 43 = .ok (.iload_n 2, 1) := by decide +kernel
theorem dX4_arrange_44 : decode cX4_arrange 44 = .ok (.iconst 1, 1) := by decide +kernel
theorem dX4_arrange_45 : decode cX4_arrange 45 = .ok (.isub, 1) := by decide +kernel
theorem dX4_arrange_46 : decode cX4_arrange 46 = .ok (.iaload, 1) := by decide +kernel
theorem dX4_arrange_47 : decode cX4_arrange 47 = .ok (.iastore, 1) := by decide +kernel
theorem dX4_arrange_48 : decode cX4_arrange 48 = .ok (.iinc 2 (-1), 3) := by decide +kernel
theorem dX4_arrange_51 : decode cX4_arrange 51 = .ok (.goto (-41), 3) := by decide +kernel
theorem dX4_arrange_54 : decode cX4_arrange 54 = .ok (.aload_n 0, 1) := by decide +kernel
theorem dX4_arrange_55 : decode cX4_arrange 55 = .ok (.getfield 21, 3) := by decide +kernel
theorem dX4_arrange_58 : decode cX4_arrange 58 = .ok (.iload_n 2, 1) := by decide +kernel
theorem dX4_arrange_59 : decode cX4_arrange 59 = .ok (.iload_n 1, 1) := by decide +kernel
theorem dX4_arrange_60 : decode cX4_arrange 60 = .ok (.iastore, 1) := by decide +kernel
theorem dX4_arrange_61 : decode cX4_arrange 61 = .ok (.iinc 1 1, 3) := by decide +kernel
theorem dX4_arrange_64 : decode cX4_arrange 64 = .ok (.goto (-62), 3) := by decide +kernel
theorem dX4_arrange_67 : decode cX4_arrange 67 = .ok (.return_, 1) := by decide +kernel
theorem dX4_howManyBehind_0 : decode cX4_howManyBehind 0 = .ok (.iconst 0, 1) := by decide +kernel
theorem dX4_howManyBehind_1 : decode cX4_howManyBehind 1 = .ok (.istore_n 2, 1) := by decide +kernel
theorem dX4_howManyBehind_2 : decode cX4_howManyBehind 2 = .ok (.iconst 5, 1) := by decide +kernel
theorem dX4_howManyBehind_3 : decode cX4_howManyBehind 3 = .ok (.istore_n 3, 1) := by decide +kernel
theorem dX4_howManyBehind_4 : decode cX4_howManyBehind 4 = .ok (.iload_n 3, 1) := by decide +kernel
theorem dX4_howManyBehind_5 : decode cX4_howManyBehind 5 = .ok (.ifCond .le 22, 3) := by decide +kernel
theorem dX4_howManyBehind_8 : decode cX4_howManyBehind 8 = .ok (.aload_n 0, 1) := by decide +kernel
theorem dX4_howManyBehind_9 : decode cX4_howManyBehind 9 = .ok (.getfield 21, 3) := by decide +kernel
theorem dX4_howManyBehind_12 : decode cX4_howManyBehind 12 = .ok (.iload_n 3, 1) := by decide +kernel
theorem dX4_howManyBehind_13 : decode cX4_howManyBehind 13 = .ok (.iaload, 1) := by decide +kernel
theorem dX4_howManyBehind_14 : decode cX4_howManyBehind 14 = .ok (.iload_n 1, 1) := by decide +kernel
theorem dX4_howManyBehind_15 : decode cX4_howManyBehind 15 = .ok (.if_icmp .eq 12, 3) := by decide +kernel
theorem dX4_howManyBehind_18 : decode cX4_howManyBehind 18 = .ok (.iinc 2 1, 3) := by decide +kernel
theorem dX4_howManyBehind_21 : decode cX4_howManyBehind 21 = .ok (.iinc 3 (-1), 3) := by decide +kernel
theorem dX4_howManyBehind_24 : decode cX4_howManyBehind 24 = .ok (.goto (-20), 3) := by decide +kernel
theorem dX4_howManyBehind_27 : decode cX4_howManyBehind 27 = .ok (.iload_n 2, 1) := by decide +kernel
theorem dX4_howManyBehind_28 : decode cX4_howManyBehind 28 = .ok (.ireturn, 1) := by decide +kernel
theorem dX4_put_0 : decode cX4_put 0 = .ok (.aload_n 0, 1) := by decide +kernel
theorem dX4_put_1 : decode cX4_put 1 = .ok (.getfield 24, 3) := by decide +kernel
theorem dX4_put_4 : decode cX4_put 4 = .ok (.iload_n 1, 1) := by decide +kernel
theorem dX4_put_5 : decode cX4_put 5 = .ok (.iload_n 2, 1) := by decide +kernel
theorem dX4_put_6 : decode cX4_put 6 = .ok (.iastore, 1) := by decide +kernel
theorem dX4_put_7 : decode cX4_put 7 = .ok (.aload_n 0, 1) := by decide +kernel
theorem dX4_put_8 : decode cX4_put 8 = .ok (.getfield 27, 3) := by decide +kernel
theorem dX4_put_11 : decode cX4_put 11 = .ok (.iload_n 1, 1) := by decide +kernel
theorem dX4_put_12 : decode cX4_put 12 = .ok (.iload_n 3, 1) := by decide +kernel
theorem dX4_put_13 : decode cX4_put 13 = .ok (.iastore, 1) := by decide +kernel
theorem dX4_put_14 : decode cX4_put 14 = .ok (.aload_n 0, 1) := by decide +kernel
theorem dX4_put_15 : decode cX4_put 15 = .ok (.getfield 30, 3) := by decide +kernel
theorem dX4_put_18 : decode cX4_put 18 = .ok (.iload_n 1, 1) := by decide +kernel
theorem dX4_put_19 : decode cX4_put 19 = .ok (.iload 4, 2) := by decide +kernel
theorem dX4_put_21 : decode cX4_put 21 = .ok (.iastore, 1) := by decide +kernel
theorem dX4_put_22 : decode cX4_put 22 = .ok (.return_, 1) := by decide +kernel
theorem dX4_erase_0 : decode cX4_erase 0 = .ok (.aload_n 0, 1) := by decide +kernel
theorem dX4_erase_1 : decode cX4_erase 1 = .ok (.iload_n 1, 1) := by decide +kernel
theorem dX4_erase_2 : decode cX4_erase 2 = .ok (.iconst (-1), 1) := by decide +kernel
theorem dX4_erase_3 : decode cX4_erase 3 = .ok (.iconst 0, 1) := by decide +kernel
theorem dX4_erase_4 : decode cX4_erase 4 = .ok (.bipush (-9), 2) := by decide +kernel
theorem dX4_erase_6 : decode cX4_erase 6 = .ok (.invokevirtual 60, 3) := by decide +kernel
theorem dX4_erase_9 : decode cX4_erase 9 = .ok (.return_, 1) := by decide +kernel
theorem dX4_putOn_0 : decode cX4_putOn 0 = .ok (.aload_n 0, 1) := by decide +kernel
theorem dX4_putOn_1 : decode cX4_putOn 1 = .ok (.dup, 1) := by decide +kernel
theorem dX4_putOn_2 : decode cX4_putOn 2 = .ok (.getfield 46, 3) := by decide +kernel
theorem dX4_putOn_5 : decode cX4_putOn 5 = .ok (.iconst 1, 1) := by decide +kernel
theorem dX4_putOn_6 : decode cX4_putOn 6 = .ok (.iload_n 1, 1) := by decide +kernel
theorem dX4_putOn_7 : decode cX4_putOn 7 = .ok (.ishl, 1) := by decide +kernel
theorem dX4_putOn_8 : decode cX4_putOn 8 = .ok (.ior, 1) := by decide +kernel
theorem dX4_putOn_9 : decode cX4_putOn 9 = .ok (.putfield 46, 3) := by decide +kernel
theorem dX4_putOn_12 : decode cX4_putOn 12 = .ok (.aload_n 0, 1) := by decide +kernel
theorem dX4_putOn_13 : decode cX4_putOn 13 = .ok (.iload_n 1, 1) := by decide +kernel
theorem dX4_putOn_14 : decode cX4_putOn 14 = .ok (.iload_n 2, 1) := by decide +kernel
theorem dX4_putOn_15 : decode cX4_putOn 15 = .ok (.invokestatic 64, 3) := by decide +kernel
theorem dX4_putOn_18 : decode cX4_putOn 18 = .ok (.iconst 0, 1) := by decide +kernel
theorem dX4_putOn_19 : decode cX4_putOn 19 = .ok (.iload_n 3, 1) := by decide +kernel
theorem dX4_putOn_20 : decode cX4_putOn 20 = .ok (.bipush (-9), 2) := by decide +kernel
theorem dX4_putOn_22 : decode cX4_putOn 22 = .ok (.invokevirtual 60, 3) := by decide +kernel
theorem dX4_putOn_25 : decode cX4_putOn 25 = .ok (.return_, 1) := by decide +kernel
theorem dX4_hasItem_0 : decode cX4_hasItem 0 = .ok (.iconst 0, 1) := by decide +kernel
theorem dX4_hasItem_1 : decode cX4_hasItem 1 = .ok (.istore_n 3, 1) := by decide +kernel
theorem dX4_hasItem_2 : decode cX4_hasItem 2 = .ok (.iload_n 3, 1) := by decide +kernel
theorem dX4_hasItem_3 : decode cX4_hasItem 3 = .ok (.aload_n 0, 1) := by decide +kernel
theorem dX4_hasItem_4 : decode cX4_hasItem 4 = .ok (.getfield 27, 3) := by decide +kernel
theorem dX4_hasItem_7 : decode cX4_hasItem 7 = .ok (.iload_n 1, 1) := by decide +kernel
theorem dX4_hasItem_8 : decode cX4_hasItem 8 = .ok (.iaload, 1) := by decide +kernel
theorem dX4_hasItem_9 : decode cX4_hasItem 9 = .ok (.if_icmp .ge 25, 3) := by decide +kernel
theorem dX4_hasItem_12 : decode cX4_hasItem 12 = .ok (.aload_n 0, 1) := by decide +kernel
theorem dX4_hasItem_13 : decode cX4_hasItem 13 = .ok (.getfield 33, 3) := by decide +kernel
theorem dX4_hasItem_16 : decode cX4_hasItem 16 = .ok (.iload_n 1, 1) := by decide +kernel
theorem dX4_hasItem_17 : decode cX4_hasItem 17 = .ok (.iconst 4, 1) := by decide +kernel
theorem dX4_hasItem_18 : decode cX4_hasItem 18 = .ok (.imul, 1) := by decide +kernel
theorem dX4_hasItem_19 : decode cX4_hasItem 19 = .ok (.iload_n 3, 1) := by decide +kernel
theorem dX4_hasItem_20 : decode cX4_hasItem 20 = .ok (.iadd, 1) := by decide +kernel
theorem dX4_hasItem_21 : decode cX4_hasItem 21 = .ok (.iaload, 1) := by decide +kernel
theorem dX4_hasItem_22 : decode cX4_hasItem 22 = .ok (.iload_n 2, 1) := by decide +kernel
theorem dX4_hasItem_23 : decode cX4_hasItem 23 = .ok (.if_icmp .ne 5, 3) := by decide +kernel
theorem dX4_hasItem_26 : decode cX4_hasItem 26 = .ok (.iconst 1, 1) := by decide +kernel
theorem dX4_hasItem_27 : decode cX4_hasItem 27 = .ok (.ireturn, 1) := by decide +kernel
theorem dX4_hasItem_28 : decode cX4_hasItem 28 = .ok (.iinc 3 1, 3) := by decide +kernel
theorem dX4_hasItem_31 : decode cX4_hasItem 31 = .ok (.goto (-29), 3) := by decide +kernel
theorem dX4_hasItem_34 : decode cX4_hasItem 34 = .ok (.iconst 0, 1) := by decide +kernel
theorem dX4_hasItem_35 : decode cX4_hasItem 35 = .ok (.ireturn, 1) := by decide +kernel
theorem dX4_addItem_0 : decode cX4_addItem 0 = .ok (.iload_n 1, 1) := by decide +kernel
theorem dX4_addItem_1 : decode cX4_addItem 1 = .ok (.iconst 4, 1) := by decide +kernel
theorem dX4_addItem_2 : decode cX4_addItem 2 = .ok (.imul, 1) := by decide +kernel
theorem dX4_addItem_3 : decode cX4_addItem 3 = .ok (.aload_n 0, 1) := by decide +kernel
theorem dX4_addItem_4 : decode cX4_addItem 4 = .ok (.getfield 27, 3) := by decide +kernel
theorem dX4_addItem_7 : decode cX4_addItem 7 = .ok (.iload_n 1, 1) := by decide +kernel
theorem dX4_addItem_8 : decode cX4_addItem 8 = .ok (.iaload, 1) := by decide +kernel
theorem dX4_addItem_9 : decode cX4_addItem 9 = .ok (.iadd, 1) := by decide +kernel
theorem dX4_addItem_10 : decode cX4_addItem 10 = .ok (.istore 4, 2) := by decide +kernel
theorem dX4_addItem_12 : decode cX4_addItem 12 = .ok (.aload_n 0, 1) := by decide +kernel
theorem dX4_addItem_13 : decode cX4_addItem 13 = .ok (.getfield 33, 3) := by decide +kernel
theorem dX4_addItem_16 : decode cX4_addItem 16 = .ok (.iload 4, 2) := by decide +kernel
theorem dX4_addItem_18 : decode cX4_addItem 18 = .ok (.iload_n 2, 1) := by decide +kernel
theorem dX4_addItem_19 : decode cX4_addItem 19 = .ok (.iastore, 1) := by decide +kernel
theorem dX4_addItem_20 : decode cX4_addItem 20 = .ok (.aload_n 0, 1) := by decide +kernel
theorem dX4_addItem_21 : decode cX4_addItem 21 = .ok (.getfield 36, 3) := by decide +kernel
theorem dX4_addItem_24 : decode cX4_addItem 24 = .ok (.iload 4, 2) := by decide +kernel
theorem dX4_addItem_26 : decode cX4_addItem 26 = .ok (.iload_n 3, 1) := by decide +kernel
theorem dX4_addItem_27 : decode cX4_addItem 27 = .ok (.iastore, 1) := by decide +kernel
theorem dX4_addItem_28 : decode cX4_addItem 28 = .ok (.aload_n 0, 1) := by decide +kernel
theorem dX4_addItem_29 : decode cX4_addItem 29 = .ok (.getfield 27, 3) := by decide +kernel
theorem dX4_addItem_32 : decode cX4_addItem 32 = .ok (.iload_n 1, 1) := by decide +kernel
theorem dX4_addItem_33 : decode cX4_addItem 33 = .ok (.dup2, 1) := by decide +kernel
theorem dX4_addItem_34 : decode cX4_addItem 34 = .ok (.iaload, 1) := by decide +kernel
theorem dX4_addItem_35 : decode cX4_addItem 35 = .ok (.iconst 1, 1) := by decide +kernel
theorem dX4_addItem_36 : decode cX4_addItem 36 = .ok (.iadd, 1) := by decide +kernel
theorem dX4_addItem_37 : decode cX4_addItem 37 = .ok (.iastore, 1) := by decide +kernel
theorem dX4_addItem_38 : decode cX4_addItem 38 = .ok (.aload_n 0, 1) := by decide +kernel
theorem dX4_addItem_39 : decode cX4_addItem 39 = .ok (.getfield 27, 3) := by decide +kernel
theorem dX4_addItem_42 : decode cX4_addItem 42 = .ok (.iload_n 1, 1) := by decide +kernel
theorem dX4_addItem_43 : decode cX4_addItem 43 = .ok (.iaload, 1) := by decide +kernel
theorem dX4_addItem_44 : decode cX4_addItem 44 = .ok (.ireturn, 1) := by decide +kernel
theorem dX4_keyBits_0 : decode cX4_keyBits 0 = .ok (.iconst 0, 1) := by decide +kernel
theorem dX4_keyBits_1 : decode cX4_keyBits 1 = .ok (.istore_n 2, 1) := by decide +kernel
theorem dX4_keyBits_2 : decode cX4_keyBits 2 = .ok (.iconst 0, 1) := by decide +kernel
theorem dX4_keyBits_3 : decode cX4_keyBits 3 = .ok (.istore_n 3, 1) := by decide +kernel
theorem dX4_keyBits_4 : decode cX4_keyBits 4 = .ok (.iload_n 3, 1) := by decide +kernel
theorem dX4_keyBits_5 : decode cX4_keyBits 5 = .ok (.bipush 8, 2) := by decide +kernel
theorem dX4_keyBits_7 : decode cX4_keyBits 7 = .ok (.if_icmp .ge 29, 3) := by decide +kernel
theorem dX4_keyBits_10 : decode cX4_keyBits 10 = .ok (.aload_n 0, 1) := by decide +kernel
theorem dX4_keyBits_11 : decode cX4_keyBits 11 = .ok (.getfield 24, 3) := by decide +kernel
theorem dX4_keyBits_14 : decode cX4_keyBits 14 = .ok (.iload_n 1, 1) := by decide +kernel
theorem dX4_keyBits_15 : decode cX4_keyBits 15 = .ok (.iload_n 3, 1) := by decide +kernel
theorem dX4_keyBits_16 : decode cX4_keyBits 16 = .ok (.invokestatic 64, 3) := by decide +kernel
theorem dX4_keyBits_19 : decode cX4_keyBits 19 = .ok (.iaload, 1) := by decide +kernel
theorem dX4_keyBits_20 : decode cX4_keyBits 20 = .ok (.iconst (-1), 1) := by decide +kernel
theorem dX4_keyBits_21 : decode cX4_keyBits 21 = .ok (.if_icmp .eq 9, 3) := by decide +kernel
theorem dX4_keyBits_24 : decode cX4_keyBits 24 = .ok (.iload_n 2, 1) := by decide +kernel
theorem dX4_keyBits_25 : decode cX4_keyBits 25 = .ok (.iconst 1, 1) := by decide +kernel
theorem dX4_keyBits_26 : decode cX4_keyBits 26 = .ok (.iload_n 3, 1) := by decide +kernel
theorem dX4_keyBits_27 : decode cX4_keyBits 27 = .ok (.ishl, 1) := by decide +kernel
theorem dX4_keyBits_28 : decode cX4_keyBits 28 = .ok (.ior, 1) := by decide +kernel
theorem dX4_keyBits_29 : decode cX4_keyBits 29 = .ok (.istore_n 2, 1) := by decide +kernel
theorem dX4_keyBits_30 : decode cX4_keyBits 30 = .ok (.iinc 3 1, 3) := by decide +kernel
theorem dX4_keyBits_33 : decode cX4_keyBits 33 = .ok (.goto (-29), 3) := by decide +kernel
theorem dX4_keyBits_36 : decode cX4_keyBits 36 = .ok (.iload_n 2, 1) := by decide +kernel
theorem dX4_keyBits_37 : decode cX4_keyBits 37 = .ok (.ireturn, 1) := by decide +kernel
theorem dX4_keyBitsOfAll_0 : decode cX4_keyBitsOfAll 0 = .ok (.iconst 0, 1) := by decide +kernel
theorem dX4_keyBitsOfAll_1 : decode cX4_keyBitsOfAll 1 = .ok (.istore_n 1, 1) := by decide +kernel
theorem dX4_keyBitsOfAll_2 : decode cX4_keyBitsOfAll 2 = .ok (.iconst 0, 1) := by decide +kernel
theorem dX4_keyBitsOfAll_3 : decode cX4_keyBitsOfAll 3 = .ok (.istore_n 2, 1) := by decide +kernel
theorem dX4_keyBitsOfAll_4 : decode cX4_keyBitsOfAll 4 = .ok (.iload_n 2, 1) := by decide +kernel
theorem dX4_keyBitsOfAll_5 : decode cX4_keyBitsOfAll 5 = .ok (.bipush 6, 2) := by decide +kernel
theorem dX4_keyBitsOfAll_7 : decode cX4_keyBitsOfAll 7 = .ok (.if_icmp .ge 17, 3) := by decide +kernel
theorem dX4_keyBitsOfAll_10 : decode cX4_keyBitsOfAll 10 = .ok (.iload_n 1, 1) := by decide +kernel
theorem dX4_keyBitsOfAll_11 : decode cX4_keyBitsOfAll 11 = .ok (.aload_n 0, 1) := by decide +kernel
theorem dX4_keyBitsOfAll_12 : decode cX4_keyBitsOfAll 12 = .ok (.iload_n 2, 1) := by decide +kernel
theorem dX4_keyBitsOfAll_13 : decode cX4_keyBitsOfAll 13 = .ok (.invokevirtual 68, 3) := by decide +kernel
theorem dX4_keyBitsOfAll_16 : decode cX4_keyBitsOfAll 16 = .ok (.ior, 1) := by decide +kernel
theorem dX4_keyBitsOfAll_17 : decode cX4_keyBitsOfAll 17 = .ok (.istore_n 1, 1) := by decide +kernel
theorem dX4_keyBitsOfAll_18 : decode cX4_keyBitsOfAll 18 = .ok (.iinc 2 1, 3) := by decide +kernel
theorem dX4_keyBitsOfAll_21 : decode cX4_keyBitsOfAll 21 = .ok (.goto (-17), 3) := by decide +kernel
theorem dX4_keyBitsOfAll_24 : decode cX4_keyBitsOfAll 24 = .ok (.iload_n 1, 1) := by decide +kernel
theorem dX4_keyBitsOfAll_25 : decode cX4_keyBitsOfAll 25 = .ok (.ireturn, 1) := by decide +kernel
theorem dX4_entries_0 : decode cX4_entries 0 = .ok (.iconst 0, 1) := by decide +kernel
theorem dX4_entries_1 : decode cX4_entries 1 = .ok (.istore_n 1, 1) := by decide +kernel
theorem dX4_entries_2 : decode cX4_entries 2 = .ok (.iconst 0, 1) := by decide +kernel
theorem dX4_entries_3 : decode cX4_entries 3 = .ok (.istore_n 2, 1) := by decide +kernel
theorem dX4_entries_4 : decode cX4_entries 4 = .ok (.iload_n 2, 1) := by decide +kernel
theorem dX4_entries_5 : decode cX4_entries 5 = .ok (.bipush 6, 2) := by decide +kernel
theorem dX4_entries_7 : decode cX4_entries 7 = .ok (.if_icmp .ge 20, 3) := by decide +kernel
theorem dX4_entries_10 : decode cX4_entries 10 = .ok (.iload_n 1, 1) := by decide +kernel
theorem dX4_entries_11 : decode cX4_entries 11 = .ok (.aload_n 0, 1) := by decide +kernel
theorem dX4_entries_12 : decode cX4_entries 12 = .ok (.iload_n 2, 1) := by decide +kernel
theorem dX4_entries_13 : decode cX4_entries 13 = .ok (.invokevirtual 68, 3) := by decide +kernel
theorem dX4_entries_16 : decode cX4_entries 16 = .ok (.invokestatic 71, 3) := by decide +kernel
theorem dX4_entries_19 : decode cX4_entries 19 = .ok (.iadd, 1) := by decide +kernel
theorem dX4_entries_20 : decode cX4_entries 20 = .ok (.istore_n 1, 1) := by decide +kernel
theorem dX4_entries_21 : decode cX4_entries 21 = .ok (.iinc 2 1, 3) := by decide +kernel
theorem dX4_entries_24 : decode cX4_entries 24 = .ok (.goto (-20), 3) := by decide +kernel
theorem dX4_entries_27 : decode cX4_entries 27 = .ok (.iload_n 1, 1) := by decide +kernel
theorem dX4_entries_28 : decode cX4_entries 28 = .ok (.ireturn, 1) := by decide +kernel
theorem dX4_items_0 : decode cX4_items 0 = .ok (.iconst 0, 1) := by decide +kernel
theorem dX4_items_1 : decode cX4_items 1 = .ok (.istore_n 1, 1) := by decide +kernel
theorem dX4_items_2 : decode cX4_items 2 = .ok (.iconst 0, 1) := by decide +kernel
theorem dX4_items_3 : decode cX4_items 3 = .ok (.istore_n 2, 1) := by decide +kernel
theorem dX4_items_4 : decode cX4_items 4 = .ok (.iload_n 2, 1) := by decide +kernel
theorem dX4_items_5 : decode cX4_items 5 = .ok (.bipush 48, 2) := by decide +kernel
theorem dX4_items_7 : decode cX4_items 7 = .ok (.if_icmp .ge 28, 3) := by decide +kernel
theorem dX4_items_10 : decode cX4_items 10 = .ok (.aload_n 0, 1) := by decide +kernel
theorem dX4_items_11 : decode cX4_items 11 = .ok (.getfield 24, 3) := by decide +kernel
theorem dX4_items_14 : decode cX4_items 14 = .ok (.iload_n 2, 1) := by decide +kernel
theorem dX4_items_15 : decode cX4_items 15 = .ok (.iaload, 1) := by decide +kernel
theorem dX4_items_16 : decode cX4_items 16 = .ok (.iconst 1, 1) := by decide +kernel
theorem dX4_items_17 : decode cX4_items 17 = .ok (.if_icmp .ne 12, 3) := by decide +kernel
theorem dX4_items_20 : decode cX4_items 20 = .ok (.iload_n 1, 1) := by decide +kernel
theorem dX4_items_21 : decode cX4_items 21 = .ok (.aload_n 0, 1) := by decide +kernel
theorem dX4_items_22 : decode cX4_items 22 = .ok (.getfield 27, 3) := by decide +kernel
theorem dX4_items_25 : decode cX4_items 25 = .ok (.iload_n 2, 1) := by decide +kernel
theorem dX4_items_26 : decode cX4_items 26 = .ok (.iaload, 1) := by decide +kernel
theorem dX4_items_27 : decode cX4_items 27 = .ok (.iadd, 1) := by decide +kernel
theorem dX4_items_28 : decode cX4_items 28 = .ok (.istore_n 1, 1) := by decide +kernel
theorem dX4_items_29 : decode cX4_items 29 = .ok (.iinc 2 1, 3) := by decide +kernel
theorem dX4_items_32 : decode cX4_items 32 = .ok (.goto (-28), 3) := by decide +kernel
theorem dX4_items_35 : decode cX4_items 35 = .ok (.iload_n 1, 1) := by decide +kernel
theorem dX4_items_36 : decode cX4_items 36 = .ok (.ireturn, 1) := by decide +kernel
theorem dX5_init_0 : decode cX5_init 0 = .ok (.aload_n 0, 1) := by decide +kernel
theorem dX5_init_1 : decode cX5_init 1 = .ok (.invokespecial 3, 3) := by decide +kernel
theorem dX5_init_4 : decode cX5_init 4 = .ok (.aload_n 0, 1) := by decide +kernel
theorem dX5_init_5 : decode cX5_init 5 = .ok (.iconst 4, 1) := by decide +kernel
theorem dX5_init_6 : decode cX5_init 6 = .ok (.newarray .int, 2) := by decide +kernel
theorem dX5_init_8 : decode cX5_init 8 = .ok (.putfield 9, 3) := by decide +kernel
theorem dX5_init_11 : decode cX5_init 11 = .ok (.aload_n 0, 1) := by decide +kernel
theorem dX5_init_12 : decode cX5_init 12 = .ok (.iconst 4, 1) := by decide +kernel
theorem dX5_init_13 : decode cX5_init 13 = .ok (.newarray .int, 2) := by decide +kernel
theorem dX5_init_15 : decode cX5_init 15 = .ok (.putfield 15, 3) := by decide +kernel
theorem dX5_init_18 : decode cX5_init 18 = .ok (.return_, 1) := by decide +kernel
theorem dX5_beginEntry_0 : decode cX5_beginEntry 0 = .ok (.aload_n 0, 1) := by decide +kernel
theorem dX5_beginEntry_1 : decode cX5_beginEntry 1 = .ok (.iconst 0, 1) := by decide +kernel
theorem dX5_beginEntry_2 : decode cX5_beginEntry 2 = .ok (.putfield 18, 3) := by decide +kernel
theorem dX5_beginEntry_5 : decode cX5_beginEntry 5 = .ok (.aload_n 0, 1) := by decide +kernel
theorem dX5_beginEntry_6 : decode cX5_beginEntry 6 = .ok (.bipush (-9), 2) := by decide +kernel
theorem dX5_beginEntry_8 : decode cX5_beginEntry 8 = .ok (.putfield 22, 3) := by decide +kernel
theorem dX5_beginEntry_11 : decode cX5_beginEntry 11 = .ok (.aload_n 0, 1) := by decide +kernel
theorem dX5_beginEntry_12 : decode cX5_beginEntry 12 = .ok (.iconst 0, 1) := by decide +kernel
theorem dX5_beginEntry_13 : decode cX5_beginEntry 13 = .ok (.putfield 25, 3) := by decide +kernel
theorem dX5_beginEntry_16 : decode cX5_beginEntry 16 = .ok (.aload_n 0, 1) := by decide +kernel
theorem dX5_beginEntry_17 : decode cX5_beginEntry 17 = .ok (.iconst 0, 1) := by decide +kernel
theorem dX5_beginEntry_18 : decode cX5_beginEntry 18 = .ok (.putfield 28, 3) := by decide +kernel
theorem dX5_beginEntry_21 : decode cX5_beginEntry 21 = .ok (.aload_n 0, 1) := by decide +kernel
theorem dX5_beginEntry_22 : decode cX5_beginEntry 22 = .ok (.iconst 0, 1) := by decide +kernel
theorem dX5_beginEntry_23 : decode cX5_beginEntry 23 = .ok (.putfield 31, 3) := by decide +kernel
theorem dX5_beginEntry_26 : decode cX5_beginEntry 26 = .ok (.return_, 1) := by decide +kernel
theorem dX5_addItem_0 : decode cX5_addItem 0 = .ok (.aload_n 0, 1) := by decide +kernel
theorem dX5_addItem_1 : decode cX5_addItem 1 = .ok (.getfield 25, 3) := by decide +kernel
theorem dX5_addItem_4 : decode cX5_addItem 4 = .ok (.iconst 4, 1) := by decide +kernel
theorem dX5_addItem_5 : decode cX5_addItem 5 = .ok (.if_icmp .ge 23, 3) := by decide +kernel
theorem dX5_addItem_8 : decode cX5_addItem 8 = .ok (.aload_n 0, 1) := by decide +kernel
theorem dX5_addItem_9 : decode cX5_addItem 9 = .ok (.getfield 9, 3) := by decide +kernel
theorem dX5_addItem_12 : decode cX5_addItem 12 = .ok (.aload_n 0, 1) := by decide +kernel
theorem dX5_addItem_13 : decode cX5_addItem 13 = .ok (.getfield 25, 3) := by decide +kernel
theorem dX5_addItem_16 : decode cX5_addItem 16 = .ok (.iload_n 1, 1) := by decide +kernel
theorem dX5_addItem_17 : decode cX5_addItem 17 = .ok (.iastore, 1) := by decide +kernel
theorem dX5_addItem_18 : decode cX5_addItem 18 = .ok (.aload_n 0, 1) := by decide +kernel
theorem dX5_addItem_19 : decode cX5_addItem 19 = .ok (.getfield 15, 3) := by decide +kernel
theorem dX5_addItem_22 : decode cX5_addItem 22 = .ok (.aload_n 0, 1) := by decide +kernel
theorem dX5_addItem_23 : decode cX5_addItem 23 = .ok (.getfield 25, 3) := by decide +kernel
theorem dX5_addItem_26 : decode cX5_addItem 26 = .ok (.iload_n 2, 1) := by decide +kernel
theorem dX5_addItem_27 : decode cX5_addItem 27 = .ok (.iastore, 1) := by decide +kernel
theorem dX5_addItem_28 : decode cX5_addItem 28 = .ok (.aload_n 0, 1) := by decide +kernel
theorem dX5_addItem_29 : decode cX5_addItem 29 = .ok (.dup, 1) := by decide +kernel
theorem dX5_addItem_30 : decode cX5_addItem 30 = .ok (.getfield 25, 3) := by decide +kernel
theorem dX5_addItem_33 : decode cX5_addItem 33 = .ok (.iconst 1, 1) := by decide +kernel
theorem dX5_addItem_34 : decode cX5_addItem 34 = .ok (.iadd, 1) := by decide +kernel
theorem dX5_addItem_35 : decode cX5_addItem 35 = .ok (.putfield 25, 3) := by decide +kernel
theorem dX5_addItem_38 : decode cX5_addItem 38 = .ok (.aload_n 0, 1) := by decide +kernel
theorem dX5_addItem_39 : decode cX5_addItem 39 = .ok (.dup, 1) := by decide +kernel
theorem dX5_addItem_40 : decode cX5_addItem 40 = .ok (.getfield 31, 3) := by decide +kernel
theorem dX5_addItem_43 : decode cX5_addItem 43 = .ok (.aload_n 0, 1) := by decide +kernel
theorem dX5_addItem_44 : decode cX5_addItem 44 = .ok (.getfield 28, 3) := by decide +kernel
theorem dX5_addItem_47 : decode cX5_addItem 47 = .ok (.iload_n 1, 1) := by decide +kernel
theorem dX5_addItem_48 : decode cX5_addItem 48 = .ok (.ishr, 1) := by decide +kernel
theorem dX5_addItem_49 : decode cX5_addItem 49 = .ok (.iconst 1, 1) := by decide +kernel
theorem dX5_addItem_50 : decode cX5_addItem 50 = .ok (.iand, 1) := by decide +kernel
theorem dX5_addItem_51 : decode cX5_addItem 51 = .ok (.ifCond .eq 7, 3) := by decide +kernel
theorem dX5_addItem_54 : decode cX5_addItem 54 = .ok (.iconst 1, 1) := by decide +kernel
theorem dX5_addItem_55 : decode cX5_addItem 55 = .ok (.goto 4, 3) := by decide +kernel
theorem dX5_addItem_58 : decode cX5_addItem 58 = .ok (.iconst 0, 1) := by decide +kernel
theorem dX5_addItem_59 : decode cX5_addItem 59 = .ok (.ior, 1) := by decide +kernel
theorem dX5_addItem_60 : decode cX5_addItem 60 = .ok (.putfield 31, 3) := by decide +kernel
theorem dX5_addItem_63 : decode cX5_addItem 63 = .ok (.aload_n 0, 1) := by decide +kernel
theorem dX5_addItem_64 : decode cX5_addItem 64 = .ok (.dup, 1) := by decide +kernel
theorem dX5_addItem_65 : decode cX5_addItem 65 = .ok (.getfield 28, 3) := by decide +kernel
theorem dX5_addItem_68 : decode cX5_addItem 68 = .ok (.iconst 1, 1) := by decide +kernel
theorem dX5_addItem_69 : decode cX5_addItem 69 = .ok (.iload_n 1, 1) := by decide +kernel
theorem dX5_addItem_70 : decode cX5_addItem 70 = .ok (.ishl, 1) := by decide +kernel
theorem dX5_addItem_71 : decode cX5_addItem 71 = .ok (.ior, 1) := by decide +kernel
theorem dX5_addItem_72 : decode cX5_addItem 72 = .ok (.putfield 28, 3) := by decide +kernel
theorem dX5_addItem_75 : decode cX5_addItem 75 = .ok (.return_, 1) := by decide +kernel
theorem dX5_applyTo_0 : decode cX5_applyTo 0 = .ok (.aload_n 0, 1) := by decide +kernel
theorem dX5_applyTo_1 : decode cX5_applyTo 1 = .ok (.getfield 35, 3) := by decide +kernel
theorem dX5_applyTo_4 : decode cX5_applyTo 4 = .ok (.lookupswitch 68 #[(100, 62), (101, 56), (108, 44), (111, 50)], 44) := by decide +kernel
theorem dX5_applyTo_48 : decode cX5_applyTo 48 = .ok (.aload_n 0, 1) := by decide +kernel
theorem dX5_applyTo_49 : decode cX5_applyTo 49 = .ok (.aload_n 1, 1) := by decide +kernel
theorem dX5_applyTo_50 : decode cX5_applyTo 50 = .ok (.invokevirtual 38, 3) := by decide +kernel
