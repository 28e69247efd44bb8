theorem dJ6_bitCount_0f7a4_0 : decode cJ6_bitCount_0f7a4 0 = .ok (.iload_n 0, 1) := by decide +kernel
theorem dJ6_bitCount_0f7a4_1 : decode cJ6_bitCount_0f7a4 1 = .ok (.iload_n 0, 1) := by decide +kernel
theorem dJ6_bitCount_0f7a4_2 : decode cJ6_bitCount_0f7a4 2 = .ok (.iconst 1, 1) := by decide +kernel
theorem dJ6_bitCount_0f7a4_3 : decode cJ6_bitCount_0f7a4 3 = .ok (.iushr, 1) := by decide +kernel
theorem dJ6_bitCount_0f7a4_4 : decode cJ6_bitCount_0f7a4 4 = .ok (.ldc_w 265, 3) := by decide +kernel
theorem dJ6_bitCount_0f7a4_7 : decode cJ6_bitCount_0f7a4 7 = .ok (.iand, 1) := by decide +kernel
theorem dJ6_bitCount_0f7a4_8 : decode cJ6_bitCount_0f7a4 8 = .ok (.isub, 1) := by decide +kernel
theorem dJ6_bitCount_0f7a4_9 : decode cJ6_bitCount_0f7a4 9 = .ok (.istore_n 0, 1) := by decide +kernel
theorem dJ6_bitCount_0f7a4_10 : decode cJ6_bitCount_0f7a4 10 = .ok (.iload_n 0, 1) := by decide +kernel
theorem dJ6_bitCount_0f7a4_11 : decode cJ6_bitCount_0f7a4 11 = .ok (.ldc_w 266, 3) := by decide +kernel
theorem dJ6_bitCount_0f7a4_14 : decode cJ6_bitCount_0f7a4 14 = .ok (.iand, 1) := by decide +kernel
theorem dJ6_bitCount_0f7a4_15 : decode cJ6_bitCount_0f7a4 15 = .ok (.iload_n 0, 1) := by decide +kernel
theorem dJ6_bitCount_0f7a4_16 : decode cJ6_bitCount_0f7a4 16 = .ok (.iconst 2, 1) := by decide +kernel
theorem dJ6_bitCount_0f7a4_17 : decode cJ6_bitCount_0f7a4 17 = .ok (.iushr, 1) := by decide +kernel
theorem dJ6_bitCount_0f7a4_18 : decode cJ6_bitCount_0f7a4 18 = .ok (.ldc_w 266, 3) := by decide +kernel
theorem dJ6_bitCount_0f7a4_21 : decode cJ6_bitCount_0f7a4 21 = .ok (.iand, 1) := by decide +kernel
theorem dJ6_bitCount_0f7a4_22 : decode cJ6_bitCount_0f7a4 22 = .ok (.iadd, 1) := by decide +kernel
theorem dJ6_bitCount_0f7a4_23 : decode cJ6_bitCount_0f7a4 23 = .ok (.istore_n 0, 1) := by decide +kernel
theorem dJ6_bitCount_0f7a4_24 : decode cJ6_bitCount_0f7a4 24 = .ok (.iload_n 0, 1) := by decide +kernel
theorem dJ6_bitCount_0f7a4_25 : decode cJ6_bitCount_0f7a4 25 = .ok (.iload_n 0, 1) := by decide +kernel
theorem dJ6_bitCount_0f7a4_26 : decode cJ6_bitCount_0f7a4 26 = .ok (.iconst 4, 1) := by decide +kernel
theorem dJ6_bitCount_0f7a4_27 : decode cJ6_bitCount_0f7a4 27 = .ok (.iushr, 1) := by decide +kernel
theorem dJ6_bitCount_0f7a4_28 : decode cJ6_bitCount_0f7a4 28 = .ok (.iadd, 1) := by decide +kernel
theorem dJ6_bitCount_0f7a4_29 : decode cJ6_bitCount_0f7a4 29 = .ok (.ldc_w 267, 3) := by decide +kernel
theorem dJ6_bitCount_0f7a4_32 : decode cJ6_bitCount_0f7a4 32 = .ok (.iand, 1) := by decide +kernel
theorem dJ6_bitCount_0f7a4_33 : decode cJ6_bitCount_0f7a4 33 = .ok (.istore_n 0, 1) := by decide +kernel
theorem dJ6_bitCount_0f7a4_34 : decode cJ6_bitCount_0f7a4 34 = .ok (.iload_n 0, 1) := by decide +kernel
theorem dJ6_bitCount_0f7a4_35 : decode cJ6_bitCount_0f7a4 35 = .ok (.iload_n 0, 1) := by decide +kernel
theorem dJ6_bitCount_0f7a4_36 : decode cJ6_bitCount_0f7a4 36 = .ok (.bipush 8, 2) := by decide +kernel
theorem dJ6_bitCount_0f7a4_38 : decode cJ6_bitCount_0f7a4 38 = .ok (.iushr, 1) := by decide +kernel
theorem dJ6_bitCount_0f7a4_39 : decode cJ6_bitCount_0f7a4 39 = .ok (.iadd, 1) := by decide +kernel
theorem dJ6_bitCount_0f7a4_40 : decode cJ6_bitCount_0f7a4 40 = .ok (.istore_n 0, 1) := by decide +kernel
theorem dJ6_bitCount_0f7a4_41 : decode cJ6_bitCount_0f7a4 41 = .ok (.iload_n 0, 1) := by decide +kernel
theorem dJ6_bitCount_0f7a4_42 : decode cJ6_bitCount_0f7a4 42 = .ok (.iload_n 0, 1) := by decide +kernel
theorem dJ6_bitCount_0f7a4_43 : decode cJ6_bitCount_0f7a4 43 = .ok (.bipush 16, 2) := by decide +kernel
theorem dJ6_bitCount_0f7a4_45 : decode cJ6_bitCount_0f7a4 45 = .ok (.iushr, 1) := by decide +kernel
theorem dJ6_bitCount_0f7a4_46 : decode cJ6_bitCount_0f7a4 46 = .ok (.iadd, 1) := by decide +kernel
theorem dJ6_bitCount_0f7a4_47 : decode cJ6_bitCount_0f7a4 47 = .ok (.istore_n 0, 1) := by decide +kernel
theorem dJ6_bitCount_0f7a4_48 : decode cJ6_bitCount_0f7a4 48 = .ok (.iload_n 0, 1) := by decide +kernel
theorem dJ6_bitCount_0f7a4_49 : decode cJ6_bitCount_0f7a4 49 = .ok (.bipush 63, 2) := by decide +kernel
theorem dJ6_bitCount_0f7a4_51 : decode cJ6_bitCount_0f7a4 51 = .ok (.iand, 1) := by decide +kernel
theorem dJ6_bitCount_0f7a4_52 : decode cJ6_bitCount_0f7a4 52 = .ok (.ireturn, 1) := by decide +kernel
theorem dX0_init_0 : decode cX0_init 0 = .ok (.aload_n 0, 1) := by decide +kernel
theorem dX0_init_1 : decode cX0_init 1 = .ok (.invokespecial 3, 3) := by decide +kernel
theorem dX0_init_4 : decode cX0_init 4 = .ok (.aload_n 0, 1) := by decide +kernel
theorem dX0_init_5 : decode cX0_init 5 = .ok (.new 9, 3) := by decide +kernel
theorem dX0_init_8 : decode cX0_init 8 = .ok (.dup, 1) := by decide +kernel
theorem dX0_init_9 : decode cX0_init 9 = .ok (.invokespecial 11, 3) := by decide +kernel
theorem dX0_init_12 : decode cX0_init 12 = .ok (.putfield 12, 3) := by decide +kernel
theorem dX0_init_15 : decode cX0_init 15 = .ok (.aload_n 0, 1) := by decide +kernel
theorem dX0_init_16 : decode cX0_init 16 = .ok (.new 18, 3) := by decide +kernel
theorem dX0_init_19 : decode cX0_init 19 = .ok (.dup, 1) := by decide +kernel
theorem dX0_init_20 : decode cX0_init 20 = .ok (.invokespecial 20, 3) := by decide +kernel
theorem dX0_init_23 : decode cX0_init 23 = .ok (.putfield 21, 3) := by decide +kernel
theorem dX0_init_26 : decode cX0_init 26 = .ok (.aload_n 0, 1) := by decide +kernel
theorem dX0_init_27 : decode cX0_init 27 = .ok (.bipush 10, 2) := by decide +kernel
theorem dX0_init_29 : decode cX0_init 29 = .ok (.newarray .int, 2) := by decide +kernel
theorem dX0_init_31 : decode cX0_init 31 = .ok (.putfield 25, 3) := by decide +kernel
theorem dX0_init_34 : decode cX0_init 34 = .ok (.aload_n 0, 1) := by decide +kernel
theorem dX0_init_35 : decode cX0_init 35 = .ok (.bipush 10, 2) := by decide +kernel
theorem dX0_init_37 : decode cX0_init 37 = .ok (.newarray .int, 2) := by decide +kernel
theorem dX0_init_39 : decode cX0_init 39 = .ok (.putfield 29, 3) := by decide +kernel
theorem dX0_init_42 : decode cX0_init 42 = .ok (.aload_n 0, 1) := by decide +kernel
theorem dX0_init_43 : decode cX0_init 43 = .ok (.bipush 10, 2) := by decide +kernel
theorem dX0_init_45 : decode cX0_init 45 = .ok (.newarray .int, 2) := by decide +kernel
theorem dX0_init_47 : decode cX0_init 47 = .ok (.putfield 32, 3) := by decide +kernel
theorem dX0_init_50 : decode cX0_init 50 = .ok (.aload_n 0, 1) := by decide +kernel
theorem dX0_init_51 : decode cX0_init 51 = .ok (.bipush 10, 2) := by decide +kernel
theorem dX0_init_53 : decode cX0_init 53 = .ok (.newarray .int, 2) := by decide +kernel
theorem dX0_init_55 : decode cX0_init 55 = .ok (.putfield 35, 3) := by decide +kernel
theorem dX0_init_58 : decode cX0_init 58 = .ok (.aload_n 0, 1) := by decide +kernel
theorem dX0_init_59 : decode cX0_init 59 = .ok (.bipush 10, 2) := by decide +kernel
theorem dX0_init_61 : decode cX0_init 61 = .ok (.newarray .int, 2) := by decide +kernel
theorem dX0_init_63 : decode cX0_init 63 = .ok (.putfield 38, 3) := by decide +kernel
theorem dX0_init_66 : decode cX0_init 66 = .ok (.aload_n 0, 1) := by decide +kernel
theorem dX0_init_67 : decode cX0_init 67 = .ok (.bipush 10, 2) := by decide +kernel
theorem dX0_init_69 : decode cX0_init 69 = .ok (.newarray .int, 2) := by decide +kernel
theorem dX0_init_71 : decode cX0_init 71 = .ok (.putfield 41, 3) := by decide +kernel
theorem dX0_init_74 : decode cX0_init 74 = .ok (.aload_n 0, 1) := by decide +kernel
theorem dX0_init_75 : decode cX0_init 75 = .ok (.iconst 4, 1) := by decide +kernel
theorem dX0_init_76 : decode cX0_init 76 = .ok (.putfield 44, 3) := by decide +kernel
theorem dX0_init_79 : decode cX0_init 79 = .ok (.aload_n 0, 1) := by decide +kernel
theorem dX0_init_80 : decode cX0_init 80 = .ok (.iconst 1, 1) := by decide +kernel
theorem dX0_init_81 : decode cX0_init 81 = .ok (.putfield 48, 3) := by decide +kernel
theorem dX0_init_84 : decode cX0_init 84 = .ok (.return_, 1) := by decide +kernel
theorem dX0_has_0 : decode cX0_has 0 = .ok (.iload_n 1, 1) := by decide +kernel
theorem dX0_has_1 : decode cX0_has 1 = .ok (.ifCond .lt 24, 3) := by decide +kernel
theorem dX0_has_4 : decode cX0_has 4 = .ok (.iload_n 1, 1) := by decide +kernel
theorem dX0_has_5 : decode cX0_has 5 = .ok (.bipush 10, 2) := by decide +kernel
theorem dX0_has_7 : decode cX0_has 7 = .ok (.if_icmp .ge 18, 3) := by decide +kernel
theorem dX0_has_10 : decode cX0_has 10 = .ok (.aload_n 0, 1) := by decide +kernel
theorem dX0_has_11 : decode cX0_has 11 = .ok (.getfield 51, 3) := by decide +kernel
theorem dX0_has_14 : decode cX0_has 14 = .ok (.iload_n 1, 1) := by decide +kernel
theorem dX0_has_15 : decode cX0_has 15 = .ok (.ishr, 1) := by decide +kernel
theorem dX0_has_16 : decode cX0_has 16 = .ok (.iconst 1, 1) := by decide +kernel
theorem dX0_has_17 : decode cX0_has 17 = .ok (.iand, 1) := by decide +kernel
theorem dX0_has_18 : decode cX0_has 18 = .ok (.ifCond .eq 7, 3) := by decide +kernel
theorem dX0_has_21 : decode cX0_has 21 = .ok (.iconst 1, 1) := by decide +kernel
theorem dX0_has_22 : decode cX0_has 22 = .ok (.goto 4, 3) := by decide +kernel
theorem dX0_has_25 : decode cX0_has 25 = .ok (.iconst 0, 1) := by decide +kernel
theorem dX0_has_26 : decode cX0_has 26 = .ok (.ireturn, 1) := by decide +kernel
theorem dX0_isIn_0 : decode cX0_isIn 0 = .ok (.iload_n 1, 1) := by decide +kernel
theorem dX0_isIn_1 : decode cX0_isIn 1 = .ok (.ifCond .lt 34, 3) := by decide +kernel
theorem dX0_isIn_4 : decode cX0_isIn 4 = .ok (.iload_n 1, 1) := by decide +kernel
theorem dX0_isIn_5 : decode cX0_isIn 5 = .ok (.bipush 10, 2) := by decide +kernel
theorem dX0_isIn_7 : decode cX0_isIn 7 = .ok (.if_icmp .ge 28, 3) := by decide +kernel
theorem dX0_isIn_10 : decode cX0_isIn 10 = .ok (.aload_n 0, 1) := by decide +kernel
theorem dX0_isIn_11 : decode cX0_isIn 11 = .ok (.getfield 51, 3) := by decide +kernel
theorem dX0_isIn_14 : decode cX0_isIn 14 = .ok (.iload_n 1, 1) := by decide +kernel
theorem dX0_isIn_15 : decode cX0_isIn 15 = .ok (.ishr, 1) := by decide +kernel
theorem dX0_isIn_16 : decode cX0_isIn 16 = .ok (.iconst 1, 1) := by decide +kernel
theorem dX0_isIn_17 : decode cX0_isIn 17 = .ok (.iand, 1) := by decide +kernel
theorem dX0_isIn_18 : decode cX0_isIn 18 = .ok (.ifCond .eq 17, 3) := by decide +kernel
theorem dX0_isIn_21 : decode cX0_isIn 21 = .ok (.aload_n 0, 1) := by decide +kernel
theorem dX0_isIn_22 : decode cX0_isIn 22 = .ok (.getfield 32, 3) := by decide +kernel
theorem dX0_isIn_25 : decode cX0_isIn 25 = .ok (.iload_n 1, 1) := by decide +kernel
theorem dX0_isIn_26 : decode cX0_isIn 26 = .ok (.iaload, 1) := by decide +kernel
theorem dX0_isIn_27 : decode cX0_isIn 27 = .ok (.iload_n 2, 1) := by decide +kernel
theorem dX0_isIn_28 : decode cX0_isIn 28 = .ok (.if_icmp .ne 7, 3) := by decide +kernel
theorem dX0_isIn_31 : decode cX0_isIn 31 = .ok (.iconst 1, 1) := by decide +kernel
theorem dX0_isIn_32 : decode cX0_isIn 32 = .ok (.goto 4, 3) := by decide +kernel
theorem dX0_isIn_35 : decode cX0_isIn 35 = .ok (.iconst 0, 1) := by decide +kernel
theorem dX0_isIn_36 : decode cX0_isIn 36 = .ok (.ireturn, 1) := by decide +kernel
theorem dX0_holds_0 : decode cX0_holds 0 = .ok (.aload_n 0, 1) := by decide +kernel
theorem dX0_holds_1 : decode cX0_holds 1 = .ok (.iload_n 1, 1) := by decide +kernel
theorem dX0_holds_2 : decode cX0_holds 2 = .ok (.invokevirtual 54, 3) := by decide +kernel
theorem dX0_holds_5 : decode cX0_holds 5 = .ok (.ifCond .eq 31, 3) := by decide +kernel
theorem dX0_holds_8 : decode cX0_holds 8 = .ok (.aload_n 0, 1) := by decide +kernel
theorem dX0_holds_9 : decode cX0_holds 9 = .ok (.getfield 12, 3) := by decide +kernel
theorem dX0_holds_12 : decode cX0_holds 12 = .ok (.iload_n 2, 1) := by decide +kernel
theorem dX0_holds_13 : decode cX0_holds 13 = .ok (.invokevirtual 58, 3) := by decide +kernel
theorem dX0_holds_16 : decode cX0_holds 16 = .ok (.ifCond .eq 20, 3) := by decide +kernel
theorem dX0_holds_19 : decode cX0_holds 19 = .ok (.aload_n 0, 1) := by decide +kernel
theorem dX0_holds_20 : decode cX0_holds 20 = .ok (.getfield 35, 3) := by decide +kernel
theorem dX0_holds_23 : decode cX0_holds 23 = .ok (.iload_n 1, 1) := by decide +kernel
theorem dX0_holds_24 : decode cX0_holds 24 = .ok (.iaload, 1) := by decide +kernel
theorem dX0_holds_25 : decode cX0_holds 25 = .ok (.iload_n 2, 1) := by decide +kernel
theorem dX0_holds_26 : decode cX0_holds 26 = .ok (.invokestatic 59, 3) := by decide +kernel
theorem dX0_holds_29 : decode cX0_holds 29 = .ok (.ifCond .eq 7, 3) := by decide +kernel
theorem dX0_holds_32 : decode cX0_holds 32 = .ok (.iconst 1, 1) := by decide +kernel
theorem dX0_holds_33 : decode cX0_holds 33 = .ok (.goto 4, 3) := by decide +kernel
theorem dX0_holds_36 : decode cX0_holds 36 = .ok (.iconst 0, 1) := by decide +kernel
theorem dX0_holds_37 : decode cX0_holds 37 = .ok (.ireturn, 1) := by decide +kernel
theorem dX0_covers_0 : decode cX0_covers 0 = .ok (.aload_n 0, 1) := by decide +kernel
theorem dX0_covers_1 : decode cX0_covers 1 = .ok (.iload_n 1, 1) := by decide +kernel
theorem dX0_covers_2 : decode cX0_covers 2 = .ok (.invokevirtual 54, 3) := by decide +kernel
theorem dX0_covers_5 : decode cX0_covers 5 = .ok (.ifCond .eq 37, 3) := by decide +kernel
theorem dX0_covers_8 : decode cX0_covers 8 = .ok (.aload_n 0, 1) := by decide +kernel
theorem dX0_covers_9 : decode cX0_covers 9 = .ok (.getfield 12, 3) := by decide +kernel
theorem dX0_covers_12 : decode cX0_covers 12 = .ok (.iload_n 2, 1) := by decide +kernel
theorem dX0_covers_13 : decode cX0_covers 13 = .ok (.invokevirtual 58, 3) := by decide +kernel
theorem dX0_covers_16 : decode cX0_covers 16 = .ok (.ifCond .eq 26, 3) := by decide +kernel
theorem dX0_covers_19 : decode cX0_covers 19 = .ok (.aload_n 0, 1) := by decide +kernel
theorem dX0_covers_20 : decode cX0_covers 20 = .ok (.getfield 35, 3) := by decide +kernel
theorem dX0_covers_23 : decode cX0_covers 23 = .ok (.iload_n 1, 1) := by decide +kernel
theorem dX0_covers_24 : decode cX0_covers 24 = .ok (.iaload, 1) := by decide +kernel
theorem dX0_covers_25 : decode cX0_covers 25 = .ok (.aload_n 0, 1) := by decide +kernel
theorem dX0_covers_26 : decode cX0_covers 26 = .ok (.getfield 12, 3) := by decide +kernel
theorem dX0_covers_29 : decode cX0_covers 29 = .ok (.getfield 63, 3) := by decide +kernel
theorem dX0_covers_32 : decode cX0_covers 32 = .ok (.iload_n 2, 1) := by decide +kernel
theorem dX0_covers_33 : decode cX0_covers 33 = .ok (.iaload, 1) := by decide +kernel
theorem dX0_covers_34 : decode cX0_covers 34 = .ok (.iand, 1) := by decide +kernel
theorem dX0_covers_35 : decode cX0_covers 35 = .ok (.ifCond .eq 7, 3) := by decide +kernel
theorem dX0_covers_38 : decode cX0_covers 38 = .ok (.iconst 1, 1) := by decide +kernel
theorem dX0_covers_39 : decode cX0_covers 39 = .ok (.goto 4, 3) := by decide +kernel
theorem dX0_covers_42 : decode cX0_covers 42 = .ok (.iconst 0, 1) := by decide +kernel
theorem dX0_covers_43 : decode cX0_covers 43 = .ok (.ireturn, 1) := by decide +kernel
theorem dX0_heldBy_0 : decode cX0_heldBy 0 = .ok (.aload_n 0, 1) := by decide +kernel
theorem dX0_heldBy_1 : decode cX0_heldBy 1 = .ok (.iload_n 1, 1) := by decide +kernel
theorem dX0_heldBy_2 : decode cX0_heldBy 2 = .ok (.invokevirtual 54, 3) := by decide +kernel
theorem dX0_heldBy_5 : decode cX0_heldBy 5 = .ok (.ifCond .eq 15, 3) := by decide +kernel
theorem dX0_heldBy_8 : decode cX0_heldBy 8 = .ok (.aload_n 0, 1) := by decide +kernel
theorem dX0_heldBy_9 : decode cX0_heldBy 9 = .ok (.getfield 35, 3) := by decide +kernel
theorem dX0_heldBy_12 : decode cX0_heldBy 12 = .ok (.iload_n 1, 1) := by decide +kernel
theorem dX0_heldBy_13 : decode cX0_heldBy 13 = .ok (.iaload, 1) := by decide +kernel
theorem dX0_heldBy_14 : decode cX0_heldBy 14 = .ok (.invokestatic 66, 3) := by decide +kernel
theorem dX0_heldBy_17 : decode cX0_heldBy 17 = .ok (.goto 4, 3) := by decide +kernel
theorem dX0_heldBy_20 : decode cX0_heldBy 20 = .ok (.iconst 0, 1) := by decide +kernel
theorem dX0_heldBy_21 : decode cX0_heldBy 21 = .ok (.ireturn, 1) := by decide +kernel
theorem dX0_freeNumber_0 : decode cX0_freeNumber 0 = .ok (.iconst 0, 1) := by decide +kernel
theorem dX0_freeNumber_1 : decode cX0_freeNumber 1 = .ok (.istore_n 1, 1) := by decide +kernel
theorem dX0_freeNumber_2 : decode cX0_freeNumber 2 = .ok (.iload_n 1, 1) := by decide +kernel
theorem dX0_freeNumber_3 : decode cX0_freeNumber 3 = .ok (.bipush 10, 2) := by decide +kernel
theorem dX0_freeNumber_5 : decode cX0_freeNumber 5 = .ok (.if_icmp .ge 22, 3) := by decide +kernel
theorem dX0_freeNumber_8 : decode cX0_freeNumber 8 = .ok (.aload_n 0, 1) := by decide +kernel
theorem dX0_freeNumber_9 : decode cX0_freeNumber 9 = .ok (.getfield 51, 3) := by decide +kernel
theorem dX0_freeNumber_12 : decode cX0_freeNumber 12 = .ok (.iload_n 1, 1) := by decide +kernel
theorem dX0_freeNumber_13 : decode cX0_freeNumber 13 = .ok (.invokestatic 59, 3) := by decide +kernel
theorem dX0_freeNumber_16 : decode cX0_freeNumber 16 = .ok (.ifCond .ne 5, 3) := by decide +kernel
theorem dX0_freeNumber_19 : decode cX0_freeNumber 19 = .ok (.iload_n 1, 1) := by decide +kernel
theorem dX0_freeNumber_20 : decode cX0_freeNumber 20 = .ok (.ireturn, 1) := by decide +kernel
theorem dX0_freeNumber_21 : decode cX0_freeNumber 21 = .ok (.iinc 1 1, 3) := by decide +kernel
theorem dX0_freeNumber_24 : decode cX0_freeNumber 24 = .ok (.goto (-22), 3) := by decide +kernel
theorem dX0_freeNumber_27 : decode cX0_freeNumber 27 = .ok (.iconst (-1), 1) := by decide +kernel
theorem dX0_freeNumber_28 : decode cX0_freeNumber 28 = .ok (.ireturn, 1) := by decide +kernel
theorem dX0_lowestRunning_0 : decode cX0_lowestRunning 0 = .ok (.iconst 0, 1) := by decide +kernel
theorem dX0_lowestRunning_1 : decode cX0_lowestRunning 1 = .ok (.istore_n 1, 1) := by decide +kernel
theorem dX0_lowestRunning_2 : decode cX0_lowestRunning 2 = .ok (.iload_n 1, 1) := by decide +kernel
theorem dX0_lowestRunning_3 : decode cX0_lowestRunning 3 = .ok (.bipush 10, 2) := by decide +kernel
theorem dX0_lowestRunning_5 : decode cX0_lowestRunning 5 = .ok (.if_icmp .ge 20, 3) := by decide +kernel
theorem dX0_lowestRunning_8 : decode cX0_lowestRunning 8 = .ok (.aload_n 0, 1) := by decide +kernel
theorem dX0_lowestRunning_9 : decode cX0_lowestRunning 9 = .ok (.iload_n 1, 1) := by decide +kernel
theorem dX0_lowestRunning_10 : decode cX0_lowestRunning 10 = .ok (.iconst 0, 1) := by decide +kernel
theorem dX0_lowestRunning_11 : decode cX0_lowestRunning 11 = .ok (.invokevirtual 72, 3) := by decide +kernel
theorem dX0_lowestRunning_14 : decode cX0_lowestRunning 14 = .ok (.ifCond .eq 5, 3) := by decide +kernel
theorem dX0_lowestRunning_17 : decode cX0_lowestRunning 17 = .ok (.iload_n 1, 1) := by decide +kernel
theorem dX0_lowestRunning_18 : decode cX0_lowestRunning 18 = .ok (.ireturn, 1) := by decide +kernel
theorem dX0_lowestRunning_19 : decode cX0_lowestRunning 19 = .ok (.iinc 1 1, 3) := by decide +kernel
theorem dX0_lowestRunning_22 : decode cX0_lowestRunning 22 = .ok (.goto (-20), 3) := by decide +kernel
theorem dX0_lowestRunning_25 : decode cX0_lowestRunning 25 = .ok (.iconst (-1), 1) := by decide +kernel
theorem dX0_lowestRunning_26 : decode cX0_lowestRunning 26 = .ok (.ireturn, 1) := by decide +kernel
theorem dX0_ownerOf_0 : decode cX0_ownerOf 0 = .ok (.iconst 0, 1) := by decide +kernel
theorem dX0_ownerOf_1 : decode cX0_ownerOf 1 = .ok (.istore_n 2, 1) := by decide +kernel
theorem dX0_ownerOf_2 : decode cX0_ownerOf 2 = .ok (.iload_n 2, 1) := by decide +kernel
theorem dX0_ownerOf_3 : decode cX0_ownerOf 3 = .ok (.bipush 10, 2) := by decide +kernel
theorem dX0_ownerOf_5 : decode cX0_ownerOf 5 = .ok (.if_icmp .ge 20, 3) := by decide +kernel
theorem dX0_ownerOf_8 : decode cX0_ownerOf 8 = .ok (.aload_n 0, 1) := by decide +kernel
theorem dX0_ownerOf_9 : decode cX0_ownerOf 9 = .ok (.iload_n 2, 1) := by decide +kernel
theorem dX0_ownerOf_10 : decode cX0_ownerOf 10 = .ok (.iload_n 1, 1) := by decide +kernel
theorem dX0_ownerOf_11 : decode cX0_ownerOf 11 = .ok (.invokevirtual 75, 3) := by decide +kernel
theorem dX0_ownerOf_14 : decode cX0_ownerOf 14 = .ok (.ifCond .eq 5, 3) := by decide +kernel
theorem dX0_ownerOf_17 : decode cX0_ownerOf 17 = .ok (.iload_n 2, 1) := by decide +kernel
theorem dX0_ownerOf_18 : decode cX0_ownerOf 18 = .ok (.ireturn, 1) := by decide +kernel
theorem dX0_ownerOf_19 : decode cX0_ownerOf 19 = .ok (.iinc 2 1, 3) := by decide +kernel
theorem dX0_ownerOf_22 : decode cX0_ownerOf 22 = .ok (.goto (-20), 3) := by decide +kernel
theorem dX0_ownerOf_25 : decode cX0_ownerOf 25 = .ok (.iconst (-1), 1) := by decide +kernel
theorem dX0_ownerOf_26 : decode cX0_ownerOf 26 = .ok (.ireturn, 1) := by decide +kernel
theorem dX0_holdersInWay_0 : decode cX0_holdersInWay 0 = .ok (.iload_n 2, 1) := by decide +kernel
theorem dX0_holdersInWay_1 : decode cX0_holdersInWay 1 = .ok (.ifCond .lt 9, 3) := by decide +kernel
theorem dX0_holdersInWay_4 : decode cX0_holdersInWay 4 = .ok (.iload_n 2, 1) := by decide +kernel
theorem dX0_holdersInWay_5 : decode cX0_holdersInWay 5 = .ok (.bipush 16, 2) := by decide +kernel
theorem dX0_holdersInWay_7 : decode cX0_holdersInWay 7 = .ok (.if_icmp .lt 5, 3) := by decide +kernel
theorem dX0_holdersInWay_10 : decode cX0_holdersInWay 10 = .ok (.iconst 0, 1) := by decide +kernel
theorem dX0_holdersInWay_11 : decode cX0_holdersInWay 11 = .ok (.ireturn, 1) := by decide +kernel
theorem dX0_holdersInWay_12 : decode cX0_holdersInWay 12 = .ok (.aload_n 0, 1) := by decide +kernel
theorem dX0_holdersInWay_13 : decode cX0_holdersInWay 13 = .ok (.getfield 12, 3) := by decide +kernel
theorem dX0_holdersInWay_16 : decode cX0_holdersInWay 16 = .ok (.getfield 63, 3) := by decide +kernel
theorem dX0_holdersInWay_19 : decode cX0_holdersInWay 19 = .ok (.iload_n 2, 1) := by decide +kernel
theorem dX0_holdersInWay_20 : decode cX0_holdersInWay 20 = .ok (.iaload, 1) := by decide +kernel
theorem dX0_holdersInWay_21 : decode cX0_holdersInWay 21 = .ok (.aload_n 0, 1) := by decide +kernel
theorem dX0_holdersInWay_22 : decode cX0_holdersInWay 22 = .ok (.getfield 12, 3) := by decide +kernel
theorem dX0_holdersInWay_25 : decode cX0_holdersInWay 25 = .ok (.getfield 78, 3) := by decide +kernel
theorem dX0_holdersInWay_28 : decode cX0_holdersInWay 28 = .ok (.iload_n 2, 1) := by decide +kernel
theorem dX0_holdersInWay_29 : decode cX0_holdersInWay 29 = .ok (.iaload, 1) := by decide +kernel
theorem dX0_holdersInWay_30 : decode cX0_holdersInWay 30 = .ok (.ior, 1) := by decide +kernel
theorem dX0_holdersInWay_31 : decode cX0_holdersInWay 31 = .ok (.istore_n 3, 1) := by decide +kernel
theorem dX0_holdersInWay_32 : decode cX0_holdersInWay 32 = .ok (.iconst 0, 1) := by decide +kernel
theorem dX0_holdersInWay_33 : decode cX0_holdersInWay 33 = .ok (.istore 4, 2) := by decide +kernel
theorem dX0_holdersInWay_35 : decode cX0_holdersInWay 35 = .ok (.iconst 0, 1) := by decide +kernel
theorem dX0_holdersInWay_36 : decode cX0_holdersInWay 36 = .ok (.istore 5, 2) := by decide +kernel
theorem dX0_holdersInWay_38 : decode cX0_holdersInWay 38 = .ok (.iload 5, 2) := by decide +kernel
theorem dX0_holdersInWay_40 : decode cX0_holdersInWay 40 = .ok (.bipush 10, 2) := by decide +kernel
theorem dX0_holdersInWay_42 : decode cX0_holdersInWay 42 = .ok (.if_icmp .ge 36, 3) := by decide +kernel
theorem dX0_holdersInWay_45 : decode cX0_holdersInWay 45 = .ok (.iload 5, 2) := by decide +kernel
theorem dX0_holdersInWay_47 : decode cX0_holdersInWay 47 = .ok (.iload_n 1, 1) := by decide +kernel
theorem dX0_holdersInWay_48 : decode cX0_holdersInWay 48 = .ok (.if_icmp .eq 24, 3) := by decide +kernel
theorem dX0_holdersInWay_51 : decode cX0_holdersInWay 51 = .ok (.aload_n 0, 1) := by decide +kernel
theorem dX0_holdersInWay_52 : decode cX0_holdersInWay 52 = .ok (.getfield 35, 3) := by decide +kernel
theorem dX0_holdersInWay_55 : decode cX0_holdersInWay 55 = .ok (.iload 5, 2) := by decide +kernel
theorem dX0_holdersInWay_57 : decode cX0_holdersInWay 57 = .ok (.iaload, 1) := by decide +kernel
theorem dX0_holdersInWay_58 : decode cX0_holdersInWay 58 = .ok (.iload_n 3, 1) := by decide +kernel
theorem dX0_holdersInWay_59 : decode cX0_holdersInWay 59 = .ok (.iand, 1) := by decide +kernel
theorem dX0_holdersInWay_60 : decode cX0_holdersInWay 60 = .ok (.ifCond .eq 12, 3) := by decide +kernel
theorem dX0_holdersInWay_63 : decode cX0_holdersInWay 63 = .ok (.iload 4, 2) := by decide +kernel
theorem dX0_holdersInWay_65 : decode cX0_holdersInWay 65 = .ok (.iconst 1, 1) := by decide +kernel
theorem dX0_holdersInWay_66 : decode cX0_holdersInWay 66 = .ok (.iload 5, 2) := by decide +kernel
theorem dX0_holdersInWay_68 : decode cX0_holdersInWay 68 = .ok (.ishl, 1) := by decide +kernel
theorem dX0_holdersInWay_69 : decode cX0_holdersInWay 69 = .ok (.ior, 1) := by decide +kernel
theorem dX0_holdersInWay_70 : decode cX0_holdersInWay 70 = .ok (.istore 4, 2) := by decide +kernel
theorem dX0_holdersInWay_72 : decode cX0_holdersInWay 72 = .ok (.iinc 5 1, 3) := by decide +kernel
theorem dX0_holdersInWay_75 : decode cX0_holdersInWay 75 = .ok (.goto (-37), 3) := by decide +kernel
theorem dX0_holdersInWay_78 : decode cX0_holdersInWay 78 = .ok (.iload 4, 2) := by decide +kernel
theorem dX0_holdersInWay_80 : decode cX0_holdersInWay 80 = .ok (.ireturn, 1) := by decide +kernel
theorem dX0_waitsFor_0 : decode cX0_waitsFor 0 = .ok (.aload_n 0, 1) := by decide +kernel
theorem dX0_waitsFor_1 : decode cX0_waitsFor 1 = .ok (.iload_n 1, 1) := by decide +kernel
theorem dX0_waitsFor_2 : decode cX0_waitsFor 2 = .ok (.iconst 1, 1) := by decide +kernel
theorem dX0_waitsFor_3 : decode cX0_waitsFor 3 = .ok (.invokevirtual 72, 3) := by decide +kernel
theorem dX0_waitsFor_6 : decode cX0_waitsFor 6 = .ok (.ifCond .eq 17, 3) := by decide +kernel
theorem dX0_waitsFor_9 : decode cX0_waitsFor 9 = .ok (.aload_n 0, 1) := by decide +kernel
theorem dX0_waitsFor_10 : decode cX0_waitsFor 10 = .ok (.iload_n 1, 1) := by decide +kernel
theorem dX0_waitsFor_11 : decode cX0_waitsFor 11 = .ok (.aload_n 0, 1) := by decide +kernel
theorem dX0_waitsFor_12 : decode cX0_waitsFor 12 = .ok (.getfield 38, 3) := by decide +kernel
theorem dX0_waitsFor_15 : decode cX0_waitsFor 15 = .ok (.iload_n 1, 1) := by decide +kernel
theorem dX0_waitsFor_16 : decode cX0_waitsFor 16 = .ok (.iaload, 1) := by decide +kernel
theorem dX0_waitsFor_17 : decode cX0_waitsFor 17 = .ok (.invokevirtual 81, 3) := by decide +kernel
theorem dX0_waitsFor_20 : decode cX0_waitsFor 20 = .ok (.goto 4, 3) := by decide +kernel
theorem dX0_waitsFor_23 : decode cX0_waitsFor 23 = .ok (.iconst 0, 1) := by decide +kernel
theorem dX0_waitsFor_24 : decode cX0_waitsFor 24 = .ok (.ireturn, 1) := by decide +kernel
theorem dX0_youngerThan_0 : decode cX0_youngerThan 0 = .ok (.aload_n 0, 1) := by decide +kernel
theorem dX0_youngerThan_1 : decode cX0_youngerThan 1 = .ok (.iload_n 1, 1) := by decide +kernel
theorem dX0_youngerThan_2 : decode cX0_youngerThan 2 = .ok (.invokevirtual 54, 3) := by decide +kernel
theorem dX0_youngerThan_5 : decode cX0_youngerThan 5 = .ok (.ifCond .ne 5, 3) := by decide +kernel
theorem dX0_youngerThan_8 : decode cX0_youngerThan 8 = .ok (.iconst 0, 1) := by decide +kernel
theorem dX0_youngerThan_9 : decode cX0_youngerThan 9 = .ok (.ireturn, 1) := by decide +kernel
theorem dX0_youngerThan_10 : decode cX0_youngerThan 10 = .ok (.iconst 0, 1) := by decide +kernel
theorem dX0_youngerThan_11 : decode cX0_youngerThan 11 = .ok (.istore_n 3, 1) := by decide +kernel
theorem dX0_youngerThan_12 : decode cX0_youngerThan 12 = .ok (.iconst 0, 1) := by decide +kernel
theorem dX0_youngerThan_13 : decode cX0_youngerThan 13 = .ok (.istore 4, 2) := by decide +kernel
theorem dX0_youngerThan_15 : decode cX0_youngerThan 15 = .ok (.iload 4, 2) := by decide +kernel
theorem dX0_youngerThan_17 : decode cX0_youngerThan 17 = .ok (.bipush 10, 2) := by decide +kernel
theorem dX0_youngerThan_19 : decode cX0_youngerThan 19 = .ok (.if_icmp .ge 41, 3) := by decide +kernel
theorem dX0_youngerThan_22 : decode cX0_youngerThan 22 = .ok (.iload_n 2, 1) := by decide +kernel
theorem dX0_youngerThan_23 : decode cX0_youngerThan 23 = .ok (.iload 4, 2) := by decide +kernel
theorem dX0_youngerThan_25 : decode cX0_youngerThan 25 = .ok (.invokestatic 59, 3) := by decide +kernel
theorem dX0_youngerThan_28 : decode cX0_youngerThan 28 = .ok (.ifCond .eq 26, 3) := by decide +kernel
theorem dX0_youngerThan_31 : decode cX0_youngerThan 31 = .ok (.aload_n 0, 1) := by decide +kernel
theorem dX0_youngerThan_32 : decode cX0_youngerThan 32 = .ok (.getfield 29, 3) := by decide +kernel
theorem dX0_youngerThan_35 : decode cX0_youngerThan 35 = .ok (.iload 4, 2) := by decide +kernel
theorem dX0_youngerThan_37 : decode cX0_youngerThan 37 = .ok (.iaload, 1) := by decide +kernel
theorem dX0_youngerThan_38 : decode cX0_youngerThan 38 = .ok (.aload_n 0, 1) := by decide +kernel
theorem dX0_youngerThan_39 : decode cX0_youngerThan 39 = .ok (.getfield 29, 3) := by decide +kernel
theorem dX0_youngerThan_42 : decode cX0_youngerThan 42 = .ok (.iload_n 1, 1) := by decide +kernel
theorem dX0_youngerThan_43 : decode cX0_youngerThan 43 = .ok (.iaload, 1) := by decide +kernel
theorem dX0_youngerThan_44 : decode cX0_youngerThan 44 = .ok (.if_icmp .le 10, 3) := by decide +kernel
theorem dX0_youngerThan_47 : decode cX0_youngerThan 47 = .ok (.iload_n 3, 1) := by decide +kernel
theorem dX0_youngerThan_48 : decode cX0_youngerThan 48 = .ok (.iconst 1, 1) := by decide +kernel
theorem dX0_youngerThan_49 : decode cX0_youngerThan 49 = .ok (.iload 4, 2) := by decide +kernel
theorem dX0_youngerThan_51 : decode cX0_youngerThan 51 = .ok (.ishl, 1) := by decide +kernel
theorem dX0_youngerThan_52 : decode cX0_youngerThan 52 = .ok (.ior, 1) := by decide +kernel
theorem dX0_youngerThan_53 : decode cX0_youngerThan 53 = .ok (.istore_n 3, 1) := by decide +kernel
theorem dX0_youngerThan_54 : decode cX0_youngerThan 54 = .ok (.iinc 4 1, 3) := by decide +kernel
theorem dX0_youngerThan_57 : decode cX0_youngerThan 57 = .ok (.goto (-42), 3) := by decide +kernel
theorem dX0_youngerThan_60 : decode cX0_youngerThan 60 = .ok (.iload_n 3, 1) := by decide +kernel
theorem dX0_youngerThan_61 : decode cX0_youngerThan 61 = .ok (.ireturn, 1) := by decide +kernel
theorem dX0_positionOf_0 : decode cX0_positionOf 0 = .ok (.iconst 0, 1) := by decide +kernel
theorem dX0_positionOf_1 : decode cX0_positionOf 1 = .ok (.istore_n 2, 1) := by decide +kernel
theorem dX0_positionOf_2 : decode cX0_positionOf 2 = .ok (.iload_n 2, 1) := by decide +kernel
theorem dX0_positionOf_3 : decode cX0_positionOf 3 = .ok (.aload_n 0, 1) := by decide +kernel
theorem dX0_positionOf_4 : decode cX0_positionOf 4 = .ok (.getfield 85, 3) := by decide +kernel
theorem dX0_positionOf_7 : decode cX0_positionOf 7 = .ok (.if_icmp .ge 27, 3) := by decide +kernel
theorem dX0_positionOf_10 : decode cX0_positionOf 10 = .ok (.iload_n 2, 1) := by decide +kernel
theorem dX0_positionOf_11 : decode cX0_positionOf 11 = .ok (.bipush 10, 2) := by decide +kernel
theorem dX0_positionOf_13 : decode cX0_positionOf 13 = .ok (.if_icmp .ge 21, 3) := by decide +kernel
theorem dX0_positionOf_16 : decode cX0_positionOf 16 = .ok (.aload_n 0, 1) := by decide +kernel
theorem dX0_positionOf_17 : decode cX0_positionOf 17 = .ok (.getfield 41, 3) := by decide +kernel
theorem dX0_positionOf_20 : decode cX0_positionOf 20 = .ok (.iload_n 2, 1) := by decide +kernel
theorem dX0_positionOf_21 : decode cX0_positionOf 21 = .ok (.iaload, 1) := by decide +kernel
theorem dX0_positionOf_22 : decode cX0_positionOf 22 = .ok (.iload_n 1, 1) := by decide +kernel
theorem dX0_positionOf_23 : decode cX0_positionOf 23 = .ok (.if_icmp .ne 5, 3) := by decide +kernel
theorem dX0_positionOf_26 : decode cX0_positionOf 26 = .ok (.iload_n 2, 1) := by decide +kernel
theorem dX0_positionOf_27 : decode cX0_positionOf 27 = .ok (.ireturn, 1) := by decide +kernel
theorem dX0_positionOf_28 : decode cX0_positionOf 28 = .ok (.iinc 2 1, 3) := by decide +kernel
theorem dX0_positionOf_31 : decode cX0_positionOf 31 = .ok (.goto (-29), 3) := by decide +kernel
theorem dX0_positionOf_34 : decode cX0_positionOf 34 = .ok (.iconst (-1), 1) := by decide +kernel
theorem dX0_positionOf_35 : decode cX0_positionOf 35 = .ok (.ireturn, 1) := by decide +kernel
theorem dX0_enroll_0 : decode cX0_enroll 0 = .ok (.aload_n 0, 1) := by decide +kernel
theorem dX0_enroll_1 : decode cX0_enroll 1 = .ok (.invokevirtual 88, 3) := by decide +kernel
theorem dX0_enroll_4 : decode cX0_enroll 4 = .ok (.istore_n 2, 1) := by decide +kernel
theorem dX0_enroll_5 : decode cX0_enroll 5 = .ok (.iload_n 2, 1) := by decide +kernel
theorem dX0_enroll_6 : decode cX0_enroll 6 = .ok (.iconst (-1), 1) := by decide +kernel
theorem dX0_enroll_7 : decode cX0_enroll 7 = .ok (.if_icmp .ne 5, 3) := by decide +kernel
theorem dX0_enroll_10 : decode cX0_enroll 10 = .ok (.iconst (-1), 1) := by decide +kernel
theorem dX0_enroll_11 : decode cX0_enroll 11 = .ok (.ireturn, 1) := by decide +kernel
theorem dX0_enroll_12 : decode cX0_enroll 12 = .ok (.aload_n 0, 1) := by decide +kernel
theorem dX0_enroll_13 : decode cX0_enroll 13 = .ok (.dup, 1) := by decide +kernel
theorem dX0_enroll_14 : decode cX0_enroll 14 = .ok (.getfield 51, 3) := by decide +kernel
theorem dX0_enroll_17 : decode cX0_enroll 17 = .ok (.iconst 1, 1) := by decide +kernel
theorem dX0_enroll_18 : decode cX0_enroll 18 = .ok (.iload_n 2, 1) := by decide +kernel
theorem dX0_enroll_19 : decode cX0_enroll 19 = .ok (.ishl, 1) := by decide +kernel
theorem dX0_enroll_20 : decode cX0_enroll 20 = .ok (.ior, 1) := by decide +kernel
theorem dX0_enroll_21 : decode cX0_enroll 21 = .ok (.putfield 51, 3) := by decide +kernel
theorem dX0_enroll_24 : decode cX0_enroll 24 = .ok (.aload_n 0, 1) := by decide +kernel
theorem dX0_enroll_25 : decode cX0_enroll 25 = .ok (.getfield 25, 3) := by decide +kernel
theorem dX0_enroll_28 : decode cX0_enroll 28 = .ok (.iload_n 2, 1) := by decide +kernel
theorem dX0_enroll_29 : decode cX0_enroll 29 = .ok (.iload_n 1, 1) := by decide +kernel
theorem dX0_enroll_30 : decode cX0_enroll 30 = .ok (.iastore, 1) := by decide +kernel
theorem dX0_enroll_31 : decode cX0_enroll 31 = .ok (.aload_n 0, 1) := by decide +kernel
theorem dX0_enroll_32 : decode cX0_enroll 32 = .ok (.getfield 29, 3) := by decide +kernel
theorem dX0_enroll_35 : decode cX0_enroll 35 = .ok (.iload_n 2, 1) := by decide +kernel
theorem dX0_enroll_36 : decode cX0_enroll 36 = .ok (.aload_n 0, 1) := by decide +kernel
theorem dX0_enroll_37 : decode cX0_enroll 37 = .ok (.getfield 48, 3) := by decide +kernel
theorem dX0_enroll_40 : decode cX0_enroll 40 = .ok (.iastore, 1) := by decide +kernel
theorem dX0_enroll_41 : decode cX0_enroll 41 = .ok (.aload_n 0, 1) := by decide +kernel
theorem dX0_enroll_42 : decode cX0_enroll 42 = .ok (.getfield 32, 3) := by decide +kernel
theorem dX0_enroll_45 : decode cX0_enroll 45 = .ok (.iload_n 2, 1) := by decide +kernel
theorem dX0_enroll_46 : decode cX0_enroll 46 = .ok (.iconst 0, 1) := by decide +kernel
theorem dX0_enroll_47 : decode cX0_enroll 47 = .ok (.iastore, 1) := by decide +kernel
theorem dX0_enroll_48 : decode cX0_enroll 48 = .ok (.aload_n 0, 1) := by decide +kernel
theorem dX0_enroll_49 : decode cX0_enroll 49 = .ok (.getfield 35, 3) := by decide +kernel
theorem dX0_enroll_52 : decode cX0_enroll 52 = .ok (.iload_n 2, 1) := by decide +kernel
theorem dX0_enroll_53 : decode cX0_enroll 53 = .ok (.iconst 0, 1) := by decide +kernel
theorem dX0_enroll_54 : decode cX0_enroll 54 = .ok (.iastore, 1) := by decide +kernel
theorem dX0_enroll_55 : decode cX0_enroll 55 = .ok (.aload_n 0, 1) := by decide +kernel
theorem dX0_enroll_56 : decode cX0_enroll 56 = .ok (.getfield 38, 3) := by decide +kernel
theorem dX0_enroll_59 : decode cX0_enroll 59 = .ok (.iload_n 2, 1) := by decide +kernel
theorem dX0_enroll_60 : decode cX0_enroll 60 = .ok (.iconst (-1), 1) := by decide +kernel
theorem dX0_enroll_61 : decode cX0_enroll 61 = .ok (.iastore, 1) := by decide +kernel
theorem dX0_enroll_62 : decode cX0_enroll 62 = .ok (.aload_n 0, 1) := by decide +kernel
theorem dX0_enroll_63 : decode cX0_enroll 63 = .ok (.dup, 1) := by decide +kernel
theorem dX0_enroll_64 : decode cX0_enroll 64 = .ok (.getfield 48, 3) := by decide +kernel
theorem dX0_enroll_67 : decode cX0_enroll 67 = .ok (.iconst 1, 1) := by decide +kernel
theorem dX0_enroll_68 : decode cX0_enroll 68 = .ok (.iadd, 1) := by decide +kernel
theorem dX0_enroll_69 : decode cX0_enroll 69 = .ok (.putfield 48, 3) := by decide +kernel
theorem dX0_enroll_72 : decode cX0_enroll 72 = .ok (.iload_n 2, 1) := by decide +kernel
theorem dX0_enroll_73 : decode cX0_enroll 73 = .ok (.ireturn, 1) := by decide +kernel
theorem dX0_revive_0 : decode cX0_revive 0 = .ok (.aload_n 0, 1) := by decide +kernel
theorem dX0_revive_1 : decode cX0_revive 1 = .ok (.iload_n 1, 1) := by decide +kernel
theorem dX0_revive_2 : decode cX0_revive 2 = .ok (.invokevirtual 54, 3) := by decide +kernel
theorem dX0_revive_5 : decode cX0_revive 5 = .ok (.ifCond .ne 5, 3) := by decide +kernel
theorem dX0_revive_8 : decode cX0_revive 8 = .ok (.iconst (-1), 1) := by decide +kernel
theorem dX0_revive_9 : decode cX0_revive 9 = .ok (.ireturn, 1) := by decide +kernel
theorem dX0_revive_10 : decode cX0_revive 10 = .ok (.aload_n 0, 1) := by decide +kernel
theorem dX0_revive_11 : decode cX0_revive 11 = .ok (.getfield 32, 3) := by decide +kernel
theorem dX0_revive_14 : decode cX0_revive 14 = .ok (.iload_n 1, 1) := by decide +kernel
theorem dX0_revive_15 : decode cX0_revive 15 = .ok (.iconst 0, 1) := by decide +kernel
theorem dX0_revive_16 : decode cX0_revive 16 = .ok (.iastore, 1) := by decide +kernel
theorem dX0_revive_17 : decode cX0_revive 17 = .ok (.aload_n 0, 1) := by decide +kernel
theorem dX0_revive_18 : decode cX0_revive 18 = .ok (.getfield 29, 3) := by decide +kernel
theorem dX0_revive_21 : decode cX0_revive 21 = .ok (.iload_n 1, 1) := by decide +kernel
theorem dX0_revive_22 : decode cX0_revive 22 = .ok (.iaload, 1) := by decide +kernel
theorem dX0_revive_23 : decode cX0_revive 23 = .ok (.ireturn, 1) := by decide +kernel
theorem dX0_grant_0 : decode cX0_grant 0 = .ok (.aload_n 0, 1) := by decide +kernel
theorem dX0_grant_1 : decode cX0_grant 1 = .ok (.iload_n 1, 1) := by decide +kernel
theorem dX0_grant_2 : decode cX0_grant 2 = .ok (.invokevirtual 54, 3) := by decide +kernel
theorem dX0_grant_5 : decode cX0_grant 5 = .ok (.ifCond .eq 40, 3) := by decide +kernel
theorem dX0_grant_8 : decode cX0_grant 8 = .ok (.aload_n 0, 1) := by decide +kernel
theorem dX0_grant_9 : decode cX0_grant 9 = .ok (.getfield 12, 3) := by decide +kernel
theorem dX0_grant_12 : decode cX0_grant 12 = .ok (.iload_n 2, 1) := by decide +kernel
theorem dX0_grant_13 : decode cX0_grant 13 = .ok (.invokevirtual 58, 3) := by decide +kernel
theorem dX0_grant_16 : decode cX0_grant 16 = .ok (.ifCond .eq 29, 3) := by decide +kernel
theorem dX0_grant_19 : decode cX0_grant 19 = .ok (.aload_n 0, 1) := by decide +kernel
theorem dX0_grant_20 : decode cX0_grant 20 = .ok (.getfield 35, 3) := by decide +kernel
theorem dX0_grant_23 : decode cX0_grant 23 = .ok (.iload_n 1, 1) := by decide +kernel
theorem dX0_grant_24 : decode cX0_grant 24 = .ok (.dup2, 1) := by decide +kernel
theorem dX0_grant_25 : decode cX0_grant 25 = .ok (.iaload, 1) := by decide +kernel
theorem dX0_grant_26 : decode cX0_grant 26 = .ok (.iconst 1, 1) := by decide +kernel
theorem dX0_grant_27 : decode cX0_grant 27 = .ok (.iload_n 2, 1) := by decide +kernel
theorem dX0_grant_28 : decode cX0_grant 28 = .ok (.ishl, 1) := by decide +kernel
theorem dX0_grant_29 : decode cX0_grant 29 = .ok (.ior, 1) := by decide +kernel
theorem dX0_grant_30 : decode cX0_grant 30 = .ok (.iastore, 1) := by decide +kernel
theorem dX0_grant_31 : decode cX0_grant 31 = .ok (.aload_n 0, 1) := by decide +kernel
theorem dX0_grant_32 : decode cX0_grant 32 = .ok (.getfield 32, 3) := by decide +kernel
theorem dX0_grant_35 : decode cX0_grant 35 = .ok (.iload_n 1, 1) := by decide +kernel
theorem dX0_grant_36 : decode cX0_grant 36 = .ok (.iconst 0, 1) := by decide +kernel
theorem dX0_grant_37 : decode cX0_grant 37 = .ok (.iastore, 1) := by decide +kernel
theorem dX0_grant_38 : decode cX0_grant 38 = .ok (.aload_n 0, 1) := by decide +kernel
theorem dX0_grant_39 : decode cX0_grant 39 = .ok (.getfield 38, 3) := by decide +kernel
theorem dX0_grant_42 : decode cX0_grant 42 = .ok (.iload_n 1, 1) := by decide +kernel
theorem dX0_grant_43 : decode cX0_grant 43 = .ok (.iconst (-1), 1) := by decide +kernel
theorem dX0_grant_44 : decode cX0_grant 44 = .ok (.iastore, 1) := by decide +kernel
theorem dX0_grant_45 : decode cX0_grant 45 = .ok (.return_, 1) := by decide +kernel
theorem dX0_queueUp_0 : decode cX0_queueUp 0 = .ok (.aload_n 0, 1) := by decide +kernel
theorem dX0_queueUp_1 : decode cX0_queueUp 1 = .ok (.iload_n 1, 1) := by decide +kernel
theorem dX0_queueUp_2 : decode cX0_queueUp 2 = .ok (.invokevirtual 54, 3) := by decide +kernel
theorem dX0_queueUp_5 : decode cX0_queueUp 5 = .ok (.ifCond .eq 46, 3) := by decide +kernel
theorem dX0_queueUp_8 : decode cX0_queueUp 8 = .ok (.aload_n 0, 1) := by decide +kernel
theorem dX0_queueUp_9 : decode cX0_queueUp 9 = .ok (.getfield 85, 3) := by decide +kernel
theorem dX0_queueUp_12 : decode cX0_queueUp 12 = .ok (.bipush 10, 2) := by decide +kernel
theorem dX0_queueUp_14 : decode cX0_queueUp 14 = .ok (.if_icmp .ge 37, 3) := by decide +kernel
theorem dX0_queueUp_17 : decode cX0_queueUp 17 = .ok (.aload_n 0, 1) := by decide +kernel
theorem dX0_queueUp_18 : decode cX0_queueUp 18 = .ok (.getfield 32, 3) := by decide +kernel
theorem dX0_queueUp_21 : decode cX0_queueUp 21 = .ok (.iload_n 1, 1) := by decide +kernel
theorem dX0_queueUp_22 : decode cX0_queueUp 22 = .ok (.iconst 1, 1) := by decide +kernel
theorem dX0_queueUp_23 : decode cX0_queueUp 23 = .ok (.iastore, 1) := by decide +kernel
theorem dX0_queueUp_24 : decode cX0_queueUp 24 = .ok (.aload_n 0, 1) := by decide +kernel
theorem dX0_queueUp_25 : decode cX0_queueUp 25 = .ok (.getfield 38, 3) := by decide +kernel
theorem dX0_queueUp_28 : decode cX0_queueUp 28 = .ok (.iload_n 1, 1) := by decide +kernel
theorem dX0_queueUp_29 : decode cX0_queueUp 29 = .ok (.iload_n 2, 1) := by decide +kernel
theorem dX0_queueUp_30 : decode cX0_queueUp 30 = .ok (.iastore, 1) := by decide +kernel
theorem dX0_queueUp_31 : decode cX0_queueUp 31 = .ok (.aload_n 0, 1) := by decide +kernel
theorem dX0_queueUp_32 : decode cX0_queueUp 32 = .ok (.getfield 41, 3) := by decide +kernel
theorem dX0_queueUp_35 : decode cX0_queueUp 35 = .ok (.aload_n 0, 1) := by decide +kernel
theorem dX0_queueUp_36 : decode cX0_queueUp 36 = .ok (.getfield 85, 3) := by decide +kernel
theorem dX0_queueUp_39 : decode cX0_queueUp 39 = .ok (.iload_n 1, 1) := by decide +kernel
theorem dX0_queueUp_40 : decode cX0_queueUp 40 = .ok (.iastore, 1) := by decide +kernel
theorem dX0_queueUp_41 : decode cX0_queueUp 41 = .ok (.aload_n 0, 1) := by decide +kernel
theorem dX0_queueUp_42 : decode cX0_queueUp 42 = .ok (.dup, 1) := by decide +kernel
theorem dX0_queueUp_43 : decode cX0_queueUp 43 = .ok (.getfield 85, 3) := by decide +kernel
theorem dX0_queueUp_46 : decode cX0_queueUp 46 = .ok (.iconst 1, 1) := by decide +kernel
theorem dX0_queueUp_47 : decode cX0_queueUp 47 = .ok (.iadd, 1) := by decide +kernel
theorem dX0_queueUp_48 : decode cX0_queueUp 48 = .ok (.putfield 85, 3) := by decide +kernel
theorem dX0_queueUp_51 : decode cX0_queueUp 51 = .ok (.return_, 1) := by decide +kernel
theorem dX0_leaveOrder_0 : decode cX0_leaveOrder 0 = .ok (.iconst 0, 1) := by decide +kernel
theorem dX0_leaveOrder_1 : decode cX0_leaveOrder 1 = .ok (.istore_n 2, 1) := by decide +kernel
theorem dX0_leaveOrder_2 : decode cX0_leaveOrder 2 = .ok (.iconst 0, 1) := by decide +kernel
theorem dX0_leaveOrder_3 : decode cX0_leaveOrder 3 = .ok (.istore_n 3, 1) := by decide +kernel
theorem dX0_leaveOrder_4 : decode cX0_leaveOrder 4 = .ok (.iload_n 3, 1) := by decide +kernel
theorem dX0_leaveOrder_5 : decode cX0_leaveOrder 5 = .ok (.aload_n 0, 1) := by decide +kernel
theorem dX0_leaveOrder_6 : decode cX0_leaveOrder 6 = .ok (.getfield 85, 3) := by decide +kernel
theorem dX0_leaveOrder_9 : decode cX0_leaveOrder 9 = .ok (.if_icmp .ge 40, 3) := by decide +kernel
theorem dX0_leaveOrder_12 : decode cX0_leaveOrder 12 = .ok (.iload_n 3, 1) := by decide +kernel
theorem dX0_leaveOrder_13 : decode cX0_leaveOrder 13 = .ok (.bipush 10, 2) := by decide +kernel
theorem dX0_leaveOrder_15 : decode cX0_leaveOrder 15 = .ok (.if_icmp .ge 34, 3) := by decide +kernel
theorem dX0_leaveOrder_18 : decode cX0_leaveOrder 18 = .ok (.aload_n 0, 1) := by decide +kernel
theorem dX0_leaveOrder_19 : decode cX0_leaveOrder 19 = .ok (.getfield 41, 3) := by decide +kernel
theorem dX0_leaveOrder_22 : decode cX0_leaveOrder 22 = .ok (.iload_n 3, 1) := by decide +kernel
theorem dX0_leaveOrder_23 : decode cX0_leaveOrder 23 = .ok (.iaload, 1) := by decide +kernel
theorem dX0_leaveOrder_24 : decode cX0_leaveOrder 24 = .ok (.iload_n 1, 1) := by decide +kernel
theorem dX0_leaveOrder_25 : decode cX0_leaveOrder 25 = .ok (.if_icmp .eq 18, 3) := by decide +kernel
theorem dX0_leaveOrder_28 : decode cX0_leaveOrder 28 = .ok (.aload_n 0, 1) := by decide +kernel
theorem dX0_leaveOrder_29 : decode cX0_leaveOrder 29 = .ok (.getfield 41, 3) := by decide +kernel
theorem dX0_leaveOrder_32 : decode cX0_leaveOrder 32 = .ok (.iload_n 2, 1) := by decide +kernel
theorem dX0_leaveOrder_33 : decode cX0_leaveOrder 33 = .ok (.aload_n 0, 1) := by decide +kernel
theorem dX0_leaveOrder_34 : decode cX0_leaveOrder 34 = .ok (.getfield 41, 3) := by decide +kernel
theorem dX0_leaveOrder_37 : decode cX0_leaveOrder 37 = .ok (.iload_n 3, 1) := by decide +kernel
theorem dX0_leaveOrder_38 : decode cX0_leaveOrder 38 = .ok (.iaload, 1) := by decide +kernel
theorem dX0_leaveOrder_39 : decode cX0_leaveOrder 39 = .ok (.iastore, 1) := by decide +kernel
theorem dX0_leaveOrder_40 : decode cX0_leaveOrder 40 = .ok (.iinc 2 1, 3) := by decide +kernel
theorem dX0_leaveOrder_43 : decode cX0_leaveOrder 43 = .ok (.iinc 3 1, 3) := by decide +kernel
theorem dX0_leaveOrder_46 : decode cX0_leaveOrder 46 = .ok (.goto (-42), 3) := by decide +kernel
theorem dX0_leaveOrder_49 : decode cX0_leaveOrder 49 = .ok (.aload_n 0, 1) := by decide +kernel
theorem dX0_leaveOrder_50 : decode cX0_leaveOrder 50 = .ok (.iload_n 2, 1) := by decide +kernel
theorem dX0_leaveOrder_51 : decode cX0_leaveOrder 51 = .ok (.putfield 85, 3) := by decide +kernel
theorem dX0_leaveOrder_54 : decode cX0_leaveOrder 54 = .ok (.return_, 1) := by decide +kernel
theorem dX0_letGo_0 : decode cX0_letGo 0 = .ok (.aload_n 0, 1) := by decide +kernel
theorem dX0_letGo_1 : decode cX0_letGo 1 = .ok (.iload_n 1, 1) := by decide +kernel
theorem dX0_letGo_2 : decode cX0_letGo 2 = .ok (.iload_n 2, 1) := by decide +kernel
theorem dX0_letGo_3 : decode cX0_letGo 3 = .ok (.invokevirtual 92, 3) := by decide +kernel
theorem dX0_letGo_6 : decode cX0_letGo 6 = .ok (.ifCond .eq 17, 3) := by decide +kernel
theorem dX0_letGo_9 : decode cX0_letGo 9 = .ok (.aload_n 0, 1) := by decide +kernel
theorem dX0_letGo_10 : decode cX0_letGo 10 = .ok (.getfield 35, 3) := by decide +kernel
theorem dX0_letGo_13 : decode cX0_letGo 13 = .ok (.iload_n 1, 1) := by decide +kernel
theorem dX0_letGo_14 : decode cX0_letGo 14 = .ok (.dup2, 1) := by decide +kernel
theorem dX0_letGo_15 : decode cX0_letGo 15 = .ok (.iaload, 1) := by decide +kernel
theorem dX0_letGo_16 : decode cX0_letGo 16 = .ok (.iconst 1, 1) := by decide +kernel
theorem dX0_letGo_17 : decode cX0_letGo 17 = .ok (.iload_n 2, 1) := by decide +kernel
theorem dX0_letGo_18 : decode cX0_letGo 18 = .ok (.ishl, 1) := by decide +kernel
theorem dX0_letGo_19 : decode cX0_letGo 19 = .ok (.iconst (-1), 1) := by decide +kernel
theorem dX0_letGo_20 : decode cX0_letGo 20 = .ok (.ixor, 1) := by decide +kernel
theorem dX0_letGo_21 : decode cX0_letGo 21 = .ok (.iand, 1) := by decide +kernel
theorem dX0_letGo_22 : decode cX0_letGo 22 = .ok (.iastore, 1) := by decide +kernel
theorem dX0_letGo_23 : decode cX0_letGo 23 = .ok (.return_, 1) := by decide +kernel
theorem dX0_strike_0 : decode cX0_strike 0 = .ok (.aload_n 0, 1) := by decide +kernel
theorem dX0_strike_1 : decode cX0_strike 1 = .ok (.iload_n 1, 1) := by decide +kernel
theorem dX0_strike_2 : decode cX0_strike 2 = .ok (.invokevirtual 54, 3) := by decide +kernel
theorem dX0_strike_5 : decode cX0_strike 5 = .ok (.ifCond .eq 29, 3) := by decide +kernel
theorem dX0_strike_8 : decode cX0_strike 8 = .ok (.aload_n 0, 1) := by decide +kernel
theorem dX0_strike_9 : decode cX0_strike 9 = .ok (.iload_n 1, 1) := by decide +kernel
theorem dX0_strike_10 : decode cX0_strike 10 = .ok (.invokevirtual 95, 3) := by decide +kernel
theorem dX0_strike_13 : decode cX0_strike 13 = .ok (.aload_n 0, 1) := by decide +kernel
theorem dX0_strike_14 : decode cX0_strike 14 = .ok (.getfield 35, 3) := by decide +kernel
theorem dX0_strike_17 : decode cX0_strike 17 = .ok (.iload_n 1, 1) := by decide +kernel
theorem dX0_strike_18 : decode cX0_strike 18 = .ok (.iconst 0, 1) := by decide +kernel
theorem dX0_strike_19 : decode cX0_strike 19 = .ok (.iastore, 1) := by decide +kernel
theorem dX0_strike_20 : decode cX0_strike 20 = .ok (.aload_n 0, 1) := by decide +kernel
theorem dX0_strike_21 : decode cX0_strike 21 = .ok (.getfield 38, 3) := by decide +kernel
theorem dX0_strike_24 : decode cX0_strike 24 = .ok (.iload_n 1, 1) := by decide +kernel
theorem dX0_strike_25 : decode cX0_strike 25 = .ok (.iconst (-1), 1) := by decide +kernel
theorem dX0_strike_26 : decode cX0_strike 26 = .ok (.iastore, 1) := by decide +kernel
theorem dX0_strike_27 : decode cX0_strike 27 = .ok (.aload_n 0, 1) := by decide +kernel
theorem dX0_strike_28 : decode cX0_strike 28 = .ok (.getfield 32, 3) := by decide +kernel
theorem dX0_strike_31 : decode cX0_strike 31 = .ok (.iload_n 1, 1) := by decide +kernel
theorem dX0_strike_32 : decode cX0_strike 32 = .ok (.iconst 2, 1) := by decide +kernel
theorem dX0_strike_33 : decode cX0_strike 33 = .ok (.iastore, 1) := by decide +kernel
theorem dX0_strike_34 : decode cX0_strike 34 = .ok (.return_, 1) := by decide +kernel
theorem dX0_dismiss_0 : decode cX0_dismiss 0 = .ok (.aload_n 0, 1) := by decide +kernel
theorem dX0_dismiss_1 : decode cX0_dismiss 1 = .ok (.iload_n 1, 1) := by decide +kernel
theorem dX0_dismiss_2 : decode cX0_dismiss 2 = .ok (.invokevirtual 54, 3) := by decide +kernel
theorem dX0_dismiss_5 : decode cX0_dismiss 5 = .ok (.ifCond .eq 24, 3) := by decide +kernel
theorem dX0_dismiss_8 : decode cX0_dismiss 8 = .ok (.aload_n 0, 1) := by decide +kernel
theorem dX0_dismiss_9 : decode cX0_dismiss 9 = .ok (.getfield 35, 3) := by decide +kernel
theorem dX0_dismiss_12 : decode cX0_dismiss 12 = .ok (.iload_n 1, 1) := by decide +kernel
theorem dX0_dismiss_13 : decode cX0_dismiss 13 = .ok (.iconst 0, 1) := by decide +kernel
theorem dX0_dismiss_14 : decode cX0_dismiss 14 = .ok (.iastore, 1) := by decide +kernel
theorem dX0_dismiss_15 : decode cX0_dismiss 15 = .ok (.aload_n 0, 1) := by decide +kernel
theorem dX0_dismiss_16 : decode cX0_dismiss 16 = .ok (.dup, 1) := by decide +kernel
theorem dX0_dismiss_17 : decode cX0_dismiss 17 = .ok (.getfield 51, 3) := by decide +kernel
theorem dX0_dismiss_20 : decode cX0_dismiss 20 = .ok (.iconst 1, 1) := by decide +kernel
theorem dX0_dismiss_21 : decode cX0_dismiss 21 = .ok (.iload_n 1, 1) := by decide +kernel
theorem dX0_dismiss_22 : decode cX0_dismiss 22 = .ok (.ishl, 1) := by decide +kernel
theorem dX0_dismiss_23 : decode cX0_dismiss 23 = .ok (.iconst (-1), 1) := by decide +kernel
theorem dX0_dismiss_24 : decode cX0_dismiss 24 = .ok (.ixor, 1) := by decide +kernel
theorem dX0_dismiss_25 : decode cX0_dismiss 25 = .ok (.iand, 1) := by decide +kernel
theorem dX0_dismiss_26 : decode cX0_dismiss 26 = .ok (.putfield 51, 3) := by decide +kernel
theorem dX0_dismiss_29 : decode cX0_dismiss 29 = .ok (.return_, 1) := by decide +kernel
theorem dX0_settle_0 : decode cX0_settle 0 = .ok (.iconst 0, 1) := by decide +kernel
theorem dX0_settle_1 : decode cX0_settle 1 = .ok (.istore_n 1, 1) := by decide +kernel
theorem dX0_settle_2 : decode cX0_settle 2 = .ok (.iconst 0, 1) := by decide +kernel
theorem dX0_settle_3 : decode cX0_settle 3 = .ok (.istore_n 2, 1) := by decide +kernel
theorem dX0_settle_4 : decode cX0_settle 4 = .ok (.iconst 0, 1) := by decide +kernel
theorem dX0_settle_5 : decode cX0_settle 5 = .ok (.istore_n 3, 1) := by decide +kernel
theorem dX0_settle_6 : decode cX0_settle 6 = .ok (.iload_n 3, 1) := by decide +kernel
theorem dX0_settle_7 : decode cX0_settle 7 = .ok (.aload_n 0, 1) := by decide +kernel
theorem dX0_settle_8 : decode cX0_settle 8 = .ok (.getfield 85, 3) := by decide +kernel
theorem dX0_settle_11 : decode cX0_settle 11 = .ok (.if_icmp .ge 81, 3) := by decide +kernel
theorem dX0_settle_14 : decode cX0_settle 14 = .ok (.iload_n 3, 1) := by decide +kernel
theorem dX0_settle_15 : decode cX0_settle 15 = .ok (.bipush 10, 2) := by decide +kernel
theorem dX0_settle_17 : decode cX0_settle 17 = .ok (.if_icmp .ge 75, 3) := by decide +kernel
theorem dX0_settle_20 : decode cX0_settle 20 = .ok (.aload_n 0, 1) := by decide +kernel
theorem dX0_settle_21 : decode cX0_settle 21 = .ok (.getfield 41, 3) := by decide +kernel
theorem dX0_settle_24 : decode cX0_settle 24 = .ok (.iload_n 3, 1) := by decide +kernel
theorem dX0_settle_25 : decode cX0_settle 25 = .ok (.iaload, 1) := by decide +kernel
theorem dX0_settle_26 : decode cX0_settle 26 = .ok (.istore 4, 2) := by decide +kernel
theorem dX0_settle_28 : decode cX0_settle 28 = .ok (.aload_n 0, 1) := by decide +kernel
theorem dX0_settle_29 : decode cX0_settle 29 = .ok (.iload 4, 2) := by decide +kernel
theorem dX0_settle_31 : decode cX0_settle 31 = .ok (.invokevirtual 54, 3) := by decide +kernel
theorem dX0_settle_34 : decode cX0_settle 34 = .ok (.ifCond .eq 13, 3) := by decide +kernel
theorem dX0_settle_37 : decode cX0_settle 37 = .ok (.aload_n 0, 1) := by decide +kernel
theorem dX0_settle_38 : decode cX0_settle 38 = .ok (.getfield 38, 3) := by decide +kernel
theorem dX0_settle_41 : decode cX0_settle 41 = .ok (.iload 4, 2) := by decide +kernel
theorem dX0_settle_43 : decode cX0_settle 43 = .ok (.iaload, 1) := by decide +kernel
theorem dX0_settle_44 : decode cX0_settle 44 = .ok (.goto 4, 3) := by decide +kernel
theorem dX0_settle_47 : decode cX0_settle 47 = .ok (.iconst (-1), 1) := by decide +kernel
theorem dX0_settle_48 : decode cX0_settle 48 = .ok (.istore 5, 2) := by decide +kernel
theorem dX0_settle_50 : decode cX0_settle 50 = .ok (.aload_n 0, 1) := by decide +kernel
theorem dX0_settle_51 : decode cX0_settle 51 = .ok (.iload 4, 2) := by decide +kernel
theorem dX0_settle_53 : decode cX0_settle 53 = .ok (.iload 5, 2) := by decide +kernel
theorem dX0_settle_55 : decode cX0_settle 55 = .ok (.invokevirtual 81, 3) := by decide +kernel
theorem dX0_settle_58 : decode cX0_settle 58 = .ok (.ifCond .ne 17, 3) := by decide +kernel
theorem dX0_settle_61 : decode cX0_settle 61 = .ok (.aload_n 0, 1) := by decide +kernel
theorem dX0_settle_62 : decode cX0_settle 62 = .ok (.iload 4, 2) := by decide +kernel
theorem dX0_settle_64 : decode cX0_settle 64 = .ok (.iload 5, 2) := by decide +kernel
theorem dX0_settle_66 : decode cX0_settle 66 = .ok (.invokevirtual 99, 3) := by decide +kernel
theorem dX0_settle_69 : decode cX0_settle 69 = .ok (.iinc 2 1, 3) := by decide +kernel
theorem dX0_settle_72 : decode cX0_settle 72 = .ok (.goto 14, 3) := by decide +kernel
theorem dX0_settle_75 : decode cX0_settle 75 = .ok (.aload_n 0, 1) := by decide +kernel
theorem dX0_settle_76 : decode cX0_settle 76 = .ok (.getfield 41, 3) := by decide +kernel
theorem dX0_settle_79 : decode cX0_settle 79 = .ok (.iload_n 1, 1) := by decide +kernel
theorem dX0_settle_80 : decode cX0_settle 80 = .ok (.iload 4, 2) := by decide +kernel
theorem dX0_settle_82 : decode cX0_settle 82 = .ok (.iastore, 1) := by decide +kernel
theorem dX0_settle_83 : decode cX0_settle 83 = .ok (.iinc 1 1, 3) := by decide +kernel
theorem dX0_settle_86 : decode cX0_settle 86 = .ok (.iinc 3 1, 3) := by decide +kernel
theorem dX0_settle_89 : decode cX0_settle 89 = .ok (.goto (-83), 3) := by decide +kernel
theorem dX0_settle_92 : decode cX0_settle 92 = .ok (.aload_n 0, 1) := by decide +kernel
theorem dX0_settle_93 : decode cX0_settle 93 = .ok (.iload_n 1, 1) := by decide +kernel
theorem dX0_settle_94 : decode cX0_settle 94 = .ok (.putfield 85, 3) := by decide +kernel
theorem dX0_settle_97 : decode cX0_settle 97 = .ok (.iload_n 2, 1) := by decide +kernel
theorem dX0_settle_98 : decode cX0_settle 98 = .ok (.ireturn, 1) := by decide +kernel
theorem dX0_copyFrom_0 : decode cX0_copyFrom 0 = .ok (.aload_n 0, 1) := by decide +kernel
theorem dX0_copyFrom_1 : decode cX0_copyFrom 1 = .ok (.getfield 12, 3) := by decide +kernel
theorem dX0_copyFrom_4 : decode cX0_copyFrom 4 = .ok (.aload_n 1, 1) := by decide +kernel
theorem dX0_copyFrom_5 : decode cX0_copyFrom 5 = .ok (.getfield 12, 3) := by decide +kernel
theorem dX0_copyFrom_8 : decode cX0_copyFrom 8 = .ok (.invokevirtual 103, 3) := by decide +kernel
theorem dX0_copyFrom_11 : decode cX0_copyFrom 11 = .ok (.aload_n 0, 1) := by decide +kernel
theorem dX0_copyFrom_12 : decode cX0_copyFrom 12 = .ok (.getfield 21, 3) := by decide +kernel
theorem dX0_copyFrom_15 : decode cX0_copyFrom 15 = .ok (.aload_n 1, 1) := by decide +kernel
theorem dX0_copyFrom_16 : decode cX0_copyFrom 16 = .ok (.getfield 21, 3) := by decide +kernel
theorem dX0_copyFrom_19 : decode cX0_copyFrom 19 = .ok (.invokevirtual 107, 3) := by decide +kernel
theorem dX0_copyFrom_22 : decode cX0_copyFrom 22 = .ok (.aload_n 1, 1) := by decide +kernel
theorem dX0_copyFrom_23 : decode cX0_copyFrom 23 = .ok (.getfield 25, 3) := by decide +kernel
theorem dX0_copyFrom_26 : decode cX0_copyFrom 26 = .ok (.iconst 0, 1) := by decide +kernel
theorem dX0_copyFrom_27 : decode cX0_copyFrom 27 = .ok (.aload_n 0, 1) := by decide +kernel
theorem dX0_copyFrom_28 : decode cX0_copyFrom 28 = .ok (.getfield 25, 3) := by decide +kernel
theorem dX0_copyFrom_31 : decode cX0_copyFrom 31 = .ok (.iconst 0, 1) := by decide +kernel
theorem dX0_copyFrom_32 : decode cX0_copyFrom 32 = .ok (.bipush 10, 2) := by decide +kernel
theorem dX0_copyFrom_34 : decode cX0_copyFrom 34 = .ok (.invokestatic 110, 3) := by decide +kernel
theorem dX0_copyFrom_37 : decode cX0_copyFrom 37 = .ok (.aload_n 1, 1) := by decide +kernel
theorem dX0_copyFrom_38 : decode cX0_copyFrom 38 = .ok (.getfield 29, 3) := by decide +kernel
theorem dX0_copyFrom_41 : decode cX0_copyFrom 41 = .ok (.iconst 0, 1) := by decide +kernel
theorem dX0_copyFrom_42 : decode cX0_copyFrom 42 = .ok (.aload_n 0, 1) := by decide +kernel
theorem dX0_copyFrom_43 : decode cX0_copyFrom 43 = .ok (.getfield 29, 3) := by decide +kernel
theorem dX0_copyFrom_46 : decode cX0_copyFrom 46 = .ok (.iconst 0, 1) := by decide +kernel
theorem dX0_copyFrom_47 : decode cX0_copyFrom 47 = .ok (.bipush 10, 2) := by decide +kernel
theorem dX0_copyFrom_49 : decode cX0_copyFrom 49 = .ok (.invokestatic 110, 3) := by decide +kernel
theorem dX0_copyFrom_52 : decode cX0_copyFrom 52 = .ok (.aload_n 1, 1) := by decide +kernel
theorem dX0_copyFrom_53 : decode cX0_copyFrom 53 = .ok (.getfield 32, 3) := by decide +kernel
theorem dX0_copyFrom_56 : decode cX0_copyFrom 56 = .ok (.iconst 0, 1) := by decide +kernel
theorem dX0_copyFrom_57 : decode cX0_copyFrom 57 = .ok (.aload_n 0, 1) := by decide +kernel
theorem dX0_copyFrom_58 : decode cX0_copyFrom 58 = .ok (.getfield 32, 3) := by decide +kernel
theorem dX0_copyFrom_61 : decode cX0_copyFrom 61 = .ok (.iconst 0, 1) := by decide +kernel
theorem dX0_copyFrom_62 : decode cX0_copyFrom 62 = .ok (.bipush 10, 2) := by decide +kernel
theorem dX0_copyFrom_64 : decode cX0_copyFrom 64 = .ok (.invokestatic 110, 3) := by decide +kernel
theorem dX0_copyFrom_67 : decode cX0_copyFrom 67 = .ok (.aload_n 1, 1) := by decide +kernel
theorem dX0_copyFrom_68 : decode cX0_copyFrom 68 = .ok (.getfield 35, 3) := by decide +kernel
theorem dX0_copyFrom_71 : decode cX0_copyFrom 71 = .ok (.iconst 0, 1) := by decide +kernel
theorem dX0_copyFrom_72 : decode cX0_copyFrom 72 = .ok (.aload_n 0, 1) := by decide +kernel
theorem dX0_copyFrom_73 : decode cX0_copyFrom 73 = .ok (.getfield 35, 3) := by decide +kernel
theorem dX0_copyFrom_76 : decode cX0_copyFrom 76 = .ok (.iconst 0, 1) := by decide +kernel
theorem dX0_copyFrom_77 : decode cX0_copyFrom 77 = .ok (.bipush 10, 2) := by decide +kernel
theorem dX0_copyFrom_79 : decode cX0_copyFrom 79 = .ok (.invokestatic 110, 3) := by decide +kernel
theorem dX0_copyFrom_82 : decode cX0_copyFrom 82 = .ok (.aload_n 1, 1) := by decide +kernel
theorem dX0_copyFrom_83 : decode cX0_copyFrom 83 = .ok (.getfield 38, 3) := by decide +kernel
theorem dX0_copyFrom_86 : decode cX0_copyFrom 86 = .ok (.iconst 0, 1) := by decide +kernel
theorem dX0_copyFrom_87 : decode cX0_copyFrom 87 = .ok (.aload_n 0, 1) := by decide +kernel
theorem dX0_copyFrom_88 : decode cX0_copyFrom 88 = .ok (.getfield 38, 3) := by decide +kernel
theorem dX0_copyFrom_91 : decode cX0_copyFrom 91 = .ok (.iconst 0, 1) := by decide +kernel
theorem dX0_copyFrom_92 : decode cX0_copyFrom 92 = .ok (.bipush 10, 2) := by decide +kernel
theorem dX0_copyFrom_94 : decode cX0_copyFrom 94 = .ok (.invokestatic 110, 3) := by decide +kernel
theorem dX0_copyFrom_97 : decode cX0_copyFrom 97 = .ok (.aload_n 1, 1) := by decide +kernel
theorem dX0_copyFrom_98 : decode cX0_copyFrom 98 = .ok (.getfield 41, 3) := by decide +kernel
theorem dX0_copyFrom_101 : decode cX0_copyFrom 101 = .ok (.iconst 0, 1) := by decide +kernel
theorem dX0_copyFrom_102 : decode cX0_copyFrom 102 = .ok (.aload_n 0, 1) := by decide +kernel
theorem dX0_copyFrom_103 : decode cX0_copyFrom 103 = .ok (.getfield 41, 3) := by decide +kernel
theorem dX0_copyFrom_106 : decode cX0_copyFrom 106 = .ok (.iconst 0, 1) := by decide +kernel
theorem dX0_copyFrom_107 : decode cX0_copyFrom 107 = .ok (.bipush 10, 2) := by decide +kernel
theorem dX0_copyFrom_109 : decode cX0_copyFrom 109 = .ok (.invokestatic 110, 3) := by decide +kernel
theorem dX0_copyFrom_112 : decode cX0_copyFrom 112 = .ok (.aload_n 0, 1) := by decide +kernel
theorem dX0_copyFrom_113 : decode cX0_copyFrom 113 = .ok (.aload_n 1, 1) := by decide +kernel
theorem dX0_copyFrom_114 : decode cX0_copyFrom 114 = .ok (.getfield 85, 3) := by decide +kernel
theorem dX0_copyFrom_117 : decode cX0_copyFrom 117 = .ok (.putfield 85, 3) := by decide +kernel
theorem dX0_copyFrom_120 : decode cX0_copyFrom 120 = .ok (.aload_n 0, 1) := by decide +kernel
theorem dX0_copyFrom_121 : decode cX0_copyFrom 121 = .ok (.aload_n 1, 1) := by decide +kernel
theorem dX0_copyFrom_122 : decode cX0_copyFrom 122 = .ok (.getfield 51, 3) := by decide +kernel
theorem dX0_copyFrom_125 : decode cX0_copyFrom 125 = .ok (.putfield 51, 3) := by decide +kernel
theorem dX0_copyFrom_128 : decode cX0_copyFrom 128 = .ok (.aload_n 0, 1) := by decide +kernel
theorem dX0_copyFrom_129 : decode cX0_copyFrom 129 = .ok (.aload_n 1, 1) := by decide +kernel
theorem dX0_copyFrom_130 : decode cX0_copyFrom 130 = .ok (.getfield 116, 3) := by decide +kernel
theorem dX0_copyFrom_133 : decode cX0_copyFrom 133 = .ok (.putfield 116, 3) := by decide +kernel
theorem dX0_copyFrom_136 : decode cX0_copyFrom 136 = .ok (.aload_n 0, 1) := by decide +kernel
theorem dX0_copyFrom_137 : decode cX0_copyFrom 137 = .ok (.aload_n 1, 1) := by decide +kernel
theorem dX0_copyFrom_138 : decode cX0_copyFrom 138 = .ok (.getfield 119, 3) := by decide +kernel
theorem dX0_copyFrom_141 : decode cX0_copyFrom 141 = .ok (.putfield 119, 3) := by decide +kernel
theorem dX0_copyFrom_144 : decode cX0_copyFrom 144 = .ok (.aload_n 0, 1) := by decide +kernel
theorem dX0_copyFrom_145 : decode cX0_copyFrom 145 = .ok (.aload_n 1, 1) := by decide +kernel
theorem dX0_copyFrom_146 : decode cX0_copyFrom 146 = .ok (.getfield 44, 3) := by decide +kernel
theorem dX0_copyFrom_149 : decode cX0_copyFrom 149 = .ok (.putfield 44, 3) := by decide +kernel
theorem dX0_copyFrom_152 : decode cX0_copyFrom 152 = .ok (.aload_n 0, 1) := by decide +kernel
theorem dX0_copyFrom_153 : decode cX0_copyFrom 153 = .ok (.aload_n 1, 1) := by decide +kernel
theorem dX0_copyFrom_154 : decode cX0_copyFrom 154 = .ok (.getfield 48, 3) := by decide +kernel
theorem dX0_copyFrom_157 : decode cX0_copyFrom 157 = .ok (.putfield 48, 3) := by decide +kernel
theorem dX0_copyFrom_160 : decode cX0_copyFrom 160 = .ok (.return_, 1) := by decide +kernel
theorem dX1_init_0 : decode cX1_init 0 = .ok (.aload_n 0, 1) := by decide +kernel
theorem dX1_init_1 : decode cX1_init 1 = .ok (.invokespecial 3, 3) := by decide +kernel
theorem dX1_init_4 : decode cX1_init 4 = .ok (.aload_n 0, 1) := by decide +kernel
theorem dX1_init_5 : decode cX1_init 5 = .ok (.aload_n 1, 1) := by decide +kernel
theorem dX1_init_6 : decode cX1_init 6 = .ok (.putfield 9, 3) := by decide +kernel
theorem dX1_init_9 : decode cX1_init 9 = .ok (.aload_n 0, 1) := by decide +kernel
theorem dX1_init_10 : decode cX1_init 10 = .ok (.aload_n 2, 1) := by decide +kernel
theorem dX1_init_11 : decode cX1_init 11 = .ok (.putfield 15, 3) := by decide +kernel
theorem dX1_init_14 : decode cX1_init 14 = .ok (.aload_n 0, 1) := by decide +kernel
theorem dX1_init_15 : decode cX1_init 15 = .ok (.aload_n 3, 1) := by decide +kernel
theorem dX1_init_16 : decode cX1_init 16 = .ok (.putfield 19, 3) := by decide +kernel
theorem dX1_init_19 : decode cX1_init 19 = .ok (.return_, 1) := by decide +kernel
theorem dX1_outcomeOf_0 : decode cX1_outcomeOf 0 = .ok (.aload_n 0, 1) := by decide +kernel
theorem dX1_outcomeOf_1 : decode cX1_outcomeOf 1 = .ok (.getfield 9, 3) := by decide +kernel
theorem dX1_outcomeOf_4 : decode cX1_outcomeOf 4 = .ok (.iload_n 1, 1) := by decide +kernel
theorem dX1_outcomeOf_5 : decode cX1_outcomeOf 5 = .ok (.iload_n 2, 1) := by decide +kernel
theorem dX1_outcomeOf_6 : decode cX1_outcomeOf 6 = .ok (.invokevirtual 23, 3) := by decide +kernel
theorem dX1_outcomeOf_9 : decode cX1_outcomeOf 9 = .ok (.istore_n 3, 1) := by decide +kernel
theorem dX1_outcomeOf_10 : decode cX1_outcomeOf 10 = .ok (.iload_n 3, 1) := by decide +kernel
theorem dX1_outcomeOf_11 : decode cX1_outcomeOf 11 = .ok (.ifCond .eq 15, 3) := by decide +kernel
theorem dX1_outcomeOf_14 : decode cX1_outcomeOf 14 = .ok (.aload_n 0, 1) := by decide +kernel
theorem dX1_outcomeOf_15 : decode cX1_outcomeOf 15 = .ok (.getfield 9, 3) := by decide +kernel
theorem dX1_outcomeOf_18 : decode cX1_outcomeOf 18 = .ok (.iload_n 1, 1) := by decide +kernel
theorem dX1_outcomeOf_19 : decode cX1_outcomeOf 19 = .ok (.iload_n 2, 1) := by decide +kernel
theorem dX1_outcomeOf_20 : decode cX1_outcomeOf 20 = .ok (.invokevirtual 29, 3) := by decide +kernel
theorem dX1_outcomeOf_23 : decode cX1_outcomeOf 23 = .ok (.ifCond .eq 5, 3) := by decide +kernel
theorem dX1_outcomeOf_26 : decode cX1_outcomeOf 26 = .ok (.iconst 0, 1) := by decide +kernel
theorem dX1_outcomeOf_27 : decode cX1_outcomeOf 27 = .ok (.ireturn, 1) := by decide +kernel
theorem dX1_outcomeOf_28 : decode cX1_outcomeOf 28 = .ok (.aload_n 0, 1) := by decide +kernel
theorem dX1_outcomeOf_29 : decode cX1_outcomeOf 29 = .ok (.getfield 9, 3) := by decide +kernel
theorem dX1_outcomeOf_32 : decode cX1_outcomeOf 32 = .ok (.iload_n 1, 1) := by decide +kernel
theorem dX1_outcomeOf_33 : decode cX1_outcomeOf 33 = .ok (.iload_n 3, 1) := by decide +kernel
theorem dX1_outcomeOf_34 : decode cX1_outcomeOf 34 = .ok (.invokevirtual 33, 3) := by decide +kernel
theorem dX1_outcomeOf_37 : decode cX1_outcomeOf 37 = .ok (.istore 4, 2) := by decide +kernel
theorem dX1_outcomeOf_39 : decode cX1_outcomeOf 39 = .ok (.aload_n 0, 1) := by decide +kernel
theorem dX1_outcomeOf_40 : decode cX1_outcomeOf 40 = .ok (.getfield 9, 3) := by decide +kernel
theorem dX1_outcomeOf_43 : decode cX1_outcomeOf 43 = .ok (.getfield 36, 3) := by decide +kernel
theorem dX1_outcomeOf_46 : decode cX1_outcomeOf 46 = .ok (.iconst 1, 1) := by decide +kernel
theorem dX1_outcomeOf_47 : decode cX1_outcomeOf 47 = .ok (.if_icmp .ne 15, 3) := by decide +kernel
theorem dX1_outcomeOf_50 : decode cX1_outcomeOf 50 = .ok (.iload 4, 2) := by decide +kernel
theorem dX1_outcomeOf_52 : decode cX1_outcomeOf 52 = .ok (.iload_n 3, 1) := by decide +kernel
theorem dX1_outcomeOf_53 : decode cX1_outcomeOf 53 = .ok (.if_icmp .ne 7, 3) := by decide +kernel
theorem dX1_outcomeOf_56 : decode cX1_outcomeOf 56 = .ok (.iconst 1, 1) := by decide +kernel
theorem dX1_outcomeOf_57 : decode cX1_outcomeOf 57 = .ok (.goto 4, 3) := by decide +kernel
theorem dX1_outcomeOf_60 : decode cX1_outcomeOf 60 = .ok (.iconst 2, 1) := by decide +kernel
theorem dX1_outcomeOf_61 : decode cX1_outcomeOf 61 = .ok (.ireturn, 1) := by decide +kernel
theorem dX1_outcomeOf_62 : decode cX1_outcomeOf 62 = .ok (.aload_n 0, 1) := by decide +kernel
theorem dX1_outcomeOf_63 : decode cX1_outcomeOf 63 = .ok (.getfield 9, 3) := by decide +kernel
theorem dX1_outcomeOf_66 : decode cX1_outcomeOf 66 = .ok (.getfield 36, 3) := by decide +kernel
theorem dX1_outcomeOf_69 : decode cX1_outcomeOf 69 = .ok (.iconst 2, 1) := by decide +kernel
theorem dX1_outcomeOf_70 : decode cX1_outcomeOf 70 = .ok (.if_icmp .ne 20, 3) := by decide +kernel
theorem dX1_outcomeOf_73 : decode cX1_outcomeOf 73 = .ok (.iload 4, 2) := by decide +kernel
theorem dX1_outcomeOf_75 : decode cX1_outcomeOf 75 = .ok (.ifCond .eq 15, 3) := by decide +kernel
theorem dX1_outcomeOf_78 : decode cX1_outcomeOf 78 = .ok (.iload 4, 2) := by decide +kernel
theorem dX1_outcomeOf_80 : decode cX1_outcomeOf 80 = .ok (.iload_n 3, 1) := by decide +kernel
theorem dX1_outcomeOf_81 : decode cX1_outcomeOf 81 = .ok (.if_icmp .ne 7, 3) := by decide +kernel
theorem dX1_outcomeOf_84 : decode cX1_outcomeOf 84 = .ok (.iconst 3, 1) := by decide +kernel
theorem dX1_outcomeOf_85 : decode cX1_outcomeOf 85 = .ok (.goto 4, 3) := by decide +kernel
theorem dX1_outcomeOf_88 : decode cX1_outcomeOf 88 = .ok (.iconst 4, 1) := by decide +kernel
theorem dX1_outcomeOf_89 : decode cX1_outcomeOf 89 = .ok (.ireturn, 1) := by decide +kernel
theorem dX1_outcomeOf_90 : decode cX1_outcomeOf 90 = .ok (.iconst 1, 1) := by decide +kernel
theorem dX1_outcomeOf_91 : decode cX1_outcomeOf 91 = .ok (.ireturn, 1) := by decide +kernel
theorem dX1_ask_0 : decode cX1_ask 0 = .ok (.aload_n 0, 1) := by decide +kernel
theorem dX1_ask_1 : decode cX1_ask 1 = .ok (.getfield 9, 3) := by decide +kernel
theorem dX1_ask_4 : decode cX1_ask 4 = .ok (.iload_n 1, 1) := by decide +kernel
theorem dX1_ask_5 : decode cX1_ask 5 = .ok (.iload_n 2, 1) := by decide +kernel
theorem dX1_ask_6 : decode cX1_ask 6 = .ok (.invokevirtual 29, 3) := by decide +kernel
theorem dX1_ask_9 : decode cX1_ask 9 = .ok (.ifCond .eq 5, 3) := by decide +kernel
theorem dX1_ask_12 : decode cX1_ask 12 = .ok (.iconst 0, 1) := by decide +kernel
theorem dX1_ask_13 : decode cX1_ask 13 = .ok (.ireturn, 1) := by decide +kernel
theorem dX1_ask_14 : decode cX1_ask 14 = .ok (.aload_n 0, 1) := by decide +kernel
theorem dX1_ask_15 : decode cX1_ask 15 = .ok (.iload_n 1, 1) := by decide +kernel
theorem dX1_ask_16 : decode cX1_ask 16 = .ok (.iload_n 2, 1) := by decide +kernel
theorem dX1_ask_17 : decode cX1_ask 17 = .ok (.invokevirtual 40, 3) := by decide +kernel
theorem dX1_ask_20 : decode cX1_ask 20 = .ok (.istore_n 3, 1) := by decide +kernel
theorem dX1_ask_21 : decode cX1_ask 21 = .ok (.iload_n 3, 1) := by decide +kernel
theorem dX1_ask_22 : decode cX1_ask 22 = .ok (.iconst 2, 1) := by decide +kernel
theorem dX1_ask_23 : decode cX1_ask 23 = .ok (.if_icmp .ne 10, 3) := by decide +kernel
theorem dX1_ask_26 : decode cX1_ask 26 = .ok (.aload_n 0, 1) := by decide +kernel
theorem dX1_ask_27 : decode cX1_ask 27 = .ok (.iconst 1, 1) := by decide +kernel
theorem dX1_ask_28 : decode cX1_ask 28 = .ok (.iload_n 1, 1) := by decide +kernel
theorem dX1_ask_29 : decode cX1_ask 29 = .ok (.ishl, 1) := by decide +kernel
theorem dX1_ask_30 : decode cX1_ask 30 = .ok (.invokevirtual 43, 3) := by decide +kernel
theorem dX1_ask_33 : decode cX1_ask 33 = .ok (.iload_n 3, 1) := by decide +kernel
theorem dX1_ask_34 : decode cX1_ask 34 = .ok (.iconst 3, 1) := by decide +kernel
theorem dX1_ask_35 : decode cX1_ask 35 = .ok (.if_icmp .eq 8, 3) := by decide +kernel
theorem dX1_ask_38 : decode cX1_ask 38 = .ok (.iload_n 3, 1) := by decide +kernel
theorem dX1_ask_39 : decode cX1_ask 39 = .ok (.iconst 4, 1) := by decide +kernel
theorem dX1_ask_40 : decode cX1_ask 40 = .ok (.if_icmp .ne 24, 3) := by decide +kernel
theorem dX1_ask_43 : decode cX1_ask 43 = .ok (.aload_n 0, 1) := by decide +kernel
theorem dX1_ask_44 : decode cX1_ask 44 = .ok (.aload_n 0, 1) := by decide +kernel
theorem dX1_ask_45 : decode cX1_ask 45 = .ok (.getfield 9, 3) := by decide +kernel
theorem dX1_ask_48 : decode cX1_ask 48 = .ok (.iload_n 1, 1) := by decide +kernel
theorem dX1_ask_49 : decode cX1_ask 49 = .ok (.aload_n 0, 1) := by decide +kernel
theorem dX1_ask_50 : decode cX1_ask 50 = .ok (.getfield 9, 3) := by decide +kernel
theorem dX1_ask_53 : decode cX1_ask 53 = .ok (.iload_n 1, 1) := by decide +kernel
theorem dX1_ask_54 : decode cX1_ask 54 = .ok (.iload_n 2, 1) := by decide +kernel
theorem dX1_ask_55 : decode cX1_ask 55 = .ok (.invokevirtual 23, 3) := by decide +kernel
theorem dX1_ask_58 : decode cX1_ask 58 = .ok (.invokevirtual 33, 3) := by decide +kernel
theorem dX1_ask_61 : decode cX1_ask 61 = .ok (.invokevirtual 43, 3) := by decide +kernel
theorem dX1_ask_64 : decode cX1_ask 64 = .ok (.iload_n 3, 1) := by decide +kernel
theorem dX1_ask_65 : decode cX1_ask 65 = .ok (.ifCond .eq 8, 3) := by decide +kernel
theorem dX1_ask_68 : decode cX1_ask 68 = .ok (.iload_n 3, 1) := by decide +kernel
theorem dX1_ask_69 : decode cX1_ask 69 = .ok (.iconst 3, 1) := by decide +kernel
theorem dX1_ask_70 : decode cX1_ask 70 = .ok (.if_icmp .ne 22, 3) := by decide +kernel
theorem dX1_ask_73 : decode cX1_ask 73 = .ok (.aload_n 0, 1) := by decide +kernel
theorem dX1_ask_74 : decode cX1_ask 74 = .ok (.getfield 9, 3) := by decide +kernel
theorem dX1_ask_77 : decode cX1_ask 77 = .ok (.iload_n 1, 1) := by decide +kernel
theorem dX1_ask_78 : decode cX1_ask 78 = .ok (.iload_n 2, 1) := by decide +kernel
theorem dX1_ask_79 : decode cX1_ask 79 = .ok (.invokevirtual 47, 3) := by decide +kernel
theorem dX1_ask_82 : decode cX1_ask 82 = .ok (.aload_n 0, 1) := by decide +kernel
theorem dX1_ask_83 : decode cX1_ask 83 = .ok (.getfield 15, 3) := by decide +kernel
theorem dX1_ask_86 : decode cX1_ask 86 = .ok (.bipush 7, 2) := by decide +kernel
theorem dX1_ask_88 : decode cX1_ask 88 = .ok (.iconst 1, 1) := by decide +kernel
theorem dX1_ask_89 : decode cX1_ask 89 = .ok (.invokevirtual 51, 3) := by decide +kernel
theorem dX1_ask_92 : decode cX1_ask 92 = .ok (.iload_n 3, 1) := by decide +kernel
theorem dX1_ask_93 : decode cX1_ask 93 = .ok (.iconst 1, 1) := by decide +kernel
theorem dX1_ask_94 : decode cX1_ask 94 = .ok (.if_icmp .eq 8, 3) := by decide +kernel
theorem dX1_ask_97 : decode cX1_ask 97 = .ok (.iload_n 3, 1) := by decide +kernel
theorem dX1_ask_98 : decode cX1_ask 98 = .ok (.iconst 4, 1) := by decide +kernel
theorem dX1_ask_99 : decode cX1_ask 99 = .ok (.if_icmp .ne 12, 3) := by decide +kernel
theorem dX1_ask_102 : decode cX1_ask 102 = .ok (.aload_n 0, 1) := by decide +kernel
theorem dX1_ask_103 : decode cX1_ask 103 = .ok (.getfield 9, 3) := by decide +kernel
theorem dX1_ask_106 : decode cX1_ask 106 = .ok (.iload_n 1, 1) := by decide +kernel
theorem dX1_ask_107 : decode cX1_ask 107 = .ok (.iload_n 2, 1) := by decide +kernel
theorem dX1_ask_108 : decode cX1_ask 108 = .ok (.invokevirtual 56, 3) := by decide +kernel
theorem dX1_ask_111 : decode cX1_ask 111 = .ok (.iload_n 3, 1) := by decide +kernel
theorem dX1_ask_112 : decode cX1_ask 112 = .ok (.ifCond .eq 24, 3) := by decide +kernel
theorem dX1_ask_115 : decode cX1_ask 115 = .ok (.iload_n 3, 1) := by decide +kernel
theorem dX1_ask_116 : decode cX1_ask 116 = .ok (.iconst 1, 1) := by decide +kernel
theorem dX1_ask_117 : decode cX1_ask 117 = .ok (.if_icmp .eq 19, 3) := by decide +kernel
theorem dX1_ask_120 : decode cX1_ask 120 = .ok (.aload_n 0, 1) := by decide +kernel
theorem dX1_ask_121 : decode cX1_ask 121 = .ok (.getfield 15, 3) := by decide +kernel
theorem dX1_ask_124 : decode cX1_ask 124 = .ok (.bipush 7, 2) := by decide +kernel
theorem dX1_ask_126 : decode cX1_ask 126 = .ok (.aload_n 0, 1) := by decide +kernel
theorem dX1_ask_127 : decode cX1_ask 127 = .ok (.getfield 9, 3) := by decide +kernel
theorem dX1_ask_130 : decode cX1_ask 130 = .ok (.invokevirtual 59, 3) := by decide +kernel
theorem dX1_ask_133 : decode cX1_ask 133 = .ok (.invokevirtual 51, 3) := by decide +kernel
theorem dX1_ask_136 : decode cX1_ask 136 = .ok (.aload_n 0, 1) := by decide +kernel
theorem dX1_ask_137 : decode cX1_ask 137 = .ok (.getfield 9, 3) := by decide +kernel
theorem dX1_ask_140 : decode cX1_ask 140 = .ok (.iload_n 1, 1) := by decide +kernel
theorem dX1_ask_141 : decode cX1_ask 141 = .ok (.invokevirtual 63, 3) := by decide +kernel
theorem dX1_ask_144 : decode cX1_ask 144 = .ok (.ifCond .eq 15, 3) := by decide +kernel
theorem dX1_ask_147 : decode cX1_ask 147 = .ok (.aload_n 0, 1) := by decide +kernel
theorem dX1_ask_148 : decode cX1_ask 148 = .ok (.getfield 9, 3) := by decide +kernel
theorem dX1_ask_151 : decode cX1_ask 151 = .ok (.getfield 67, 3) := by decide +kernel
theorem dX1_ask_154 : decode cX1_ask 154 = .ok (.iload_n 1, 1) := by decide +kernel
theorem dX1_ask_155 : decode cX1_ask 155 = .ok (.iaload, 1) := by decide +kernel
theorem dX1_ask_156 : decode cX1_ask 156 = .ok (.goto 4, 3) := by decide +kernel
theorem dX1_ask_159 : decode cX1_ask 159 = .ok (.iconst (-1), 1) := by decide +kernel
theorem dX1_ask_160 : decode cX1_ask 160 = .ok (.ireturn, 1) := by decide +kernel
theorem dX1_giveBack_0 : decode cX1_giveBack 0 = .ok (.aload_n 0, 1) := by decide +kernel
theorem dX1_giveBack_1 : decode cX1_giveBack 1 = .ok (.getfield 9, 3) := by decide +kernel
theorem dX1_giveBack_4 : decode cX1_giveBack 4 = .ok (.iload_n 1, 1) := by decide +kernel
theorem dX1_giveBack_5 : decode cX1_giveBack 5 = .ok (.iload_n 2, 1) := by decide +kernel
theorem dX1_giveBack_6 : decode cX1_giveBack 6 = .ok (.invokevirtual 71, 3) := by decide +kernel
theorem dX1_giveBack_9 : decode cX1_giveBack 9 = .ok (.aload_n 0, 1) := by decide +kernel
theorem dX1_giveBack_10 : decode cX1_giveBack 10 = .ok (.getfield 15, 3) := by decide +kernel
theorem dX1_giveBack_13 : decode cX1_giveBack 13 = .ok (.bipush 7, 2) := by decide +kernel
theorem dX1_giveBack_15 : decode cX1_giveBack 15 = .ok (.aload_n 0, 1) := by decide +kernel
theorem dX1_giveBack_16 : decode cX1_giveBack 16 = .ok (.getfield 9, 3) := by decide +kernel
theorem dX1_giveBack_19 : decode cX1_giveBack 19 = .ok (.invokevirtual 59, 3) := by decide +kernel
theorem dX1_giveBack_22 : decode cX1_giveBack 22 = .ok (.invokevirtual 51, 3) := by decide +kernel
theorem dX1_giveBack_25 : decode cX1_giveBack 25 = .ok (.aload_n 0, 1) := by decide +kernel
theorem dX1_giveBack_26 : decode cX1_giveBack 26 = .ok (.getfield 9, 3) := by decide +kernel
theorem dX1_giveBack_29 : decode cX1_giveBack 29 = .ok (.iload_n 1, 1) := by decide +kernel
theorem dX1_giveBack_30 : decode cX1_giveBack 30 = .ok (.invokevirtual 74, 3) := by decide +kernel
theorem dX1_giveBack_33 : decode cX1_giveBack 33 = .ok (.ireturn, 1) := by decide +kernel
theorem dX1_end_0 : decode cX1_end 0 = .ok (.aload_n 0, 1) := by decide +kernel
theorem dX1_end_1 : decode cX1_end 1 = .ok (.getfield 9, 3) := by decide +kernel
theorem dX1_end_4 : decode cX1_end 4 = .ok (.iload_n 1, 1) := by decide +kernel
theorem dX1_end_5 : decode cX1_end 5 = .ok (.invokevirtual 74, 3) := by decide +kernel
theorem dX1_end_8 : decode cX1_end 8 = .ok (.istore_n 2, 1) := by decide +kernel
theorem dX1_end_9 : decode cX1_end 9 = .ok (.aload_n 0, 1) := by decide +kernel
theorem dX1_end_10 : decode cX1_end 10 = .ok (.getfield 9, 3) := by decide +kernel
theorem dX1_end_13 : decode cX1_end 13 = .ok (.iload_n 1, 1) := by decide +kernel
theorem dX1_end_14 : decode cX1_end 14 = .ok (.invokevirtual 78, 3) := by decide +kernel
theorem dX1_end_17 : decode cX1_end 17 = .ok (.aload_n 0, 1) := by decide +kernel
theorem dX1_end_18 : decode cX1_end 18 = .ok (.getfield 15, 3) := by decide +kernel
theorem dX1_end_21 : decode cX1_end 21 = .ok (.bipush 7, 2) := by decide +kernel
theorem dX1_end_23 : decode cX1_end 23 = .ok (.aload_n 0, 1) := by decide +kernel
theorem dX1_end_24 : decode cX1_end 24 = .ok (.getfield 9, 3) := by decide +kernel
theorem dX1_end_27 : decode cX1_end 27 = .ok (.invokevirtual 59, 3) := by decide +kernel
theorem dX1_end_30 : decode cX1_end 30 = .ok (.invokevirtual 51, 3) := by decide +kernel
theorem dX1_end_33 : decode cX1_end 33 = .ok (.iload_n 2, 1) := by decide +kernel
theorem dX1_end_34 : decode cX1_end 34 = .ok (.ireturn, 1) := by decide +kernel
theorem dX1_kill_0 : decode cX1_kill 0 = .ok (.aload_n 0, 1) := by decide +kernel
theorem dX1_kill_1 : decode cX1_kill 1 = .ok (.getfield 9, 3) := by decide +kernel
theorem dX1_kill_4 : decode cX1_kill 4 = .ok (.iload_n 1, 1) := by decide +kernel
theorem dX1_kill_5 : decode cX1_kill 5 = .ok (.invokevirtual 74, 3) := by decide +kernel
theorem dX1_kill_8 : decode cX1_kill 8 = .ok (.istore_n 2, 1) := by decide +kernel
theorem dX1_kill_9 : decode cX1_kill 9 = .ok (.aload_n 0, 1) := by decide +kernel
theorem dX1_kill_10 : decode cX1_kill 10 = .ok (.iconst 1, 1) := by decide +kernel
theorem dX1_kill_11 : decode cX1_kill 11 = .ok (.iload_n 1, 1) := by decide +kernel
theorem dX1_kill_12 : decode cX1_kill 12 = .ok (.ishl, 1) := by decide +kernel
theorem dX1_kill_13 : decode cX1_kill 13 = .ok (.invokevirtual 43, 3) := by decide +kernel
theorem dX1_kill_16 : decode cX1_kill 16 = .ok (.aload_n 0, 1) := by decide +kernel
theorem dX1_kill_17 : decode cX1_kill 17 = .ok (.getfield 15, 3) := by decide +kernel
theorem dX1_kill_20 : decode cX1_kill 20 = .ok (.bipush 7, 2) := by decide +kernel
theorem dX1_kill_22 : decode cX1_kill 22 = .ok (.aload_n 0, 1) := by decide +kernel
theorem dX1_kill_23 : decode cX1_kill 23 = .ok (.getfield 9, 3) := by decide +kernel
theorem dX1_kill_26 : decode cX1_kill 26 = .ok (.invokevirtual 59, 3) := by decide +kernel
theorem dX1_kill_29 : decode cX1_kill 29 = .ok (.invokevirtual 51, 3) := by decide +kernel
theorem dX1_kill_32 : decode cX1_kill 32 = .ok (.iload_n 2, 1) := by decide +kernel
theorem dX1_kill_33 : decode cX1_kill 33 = .ok (.ireturn, 1) := by decide +kernel
theorem dX1_strikeAll_0 : decode cX1_strikeAll 0 = .ok (.iconst 0, 1) := by decide +kernel
theorem dX1_strikeAll_1 : decode cX1_strikeAll 1 = .ok (.istore_n 2, 1) := by decide +kernel
theorem dX1_strikeAll_2 : decode cX1_strikeAll 2 = .ok (.iload_n 2, 1) := by decide +kernel
theorem dX1_strikeAll_3 : decode cX1_strikeAll 3 = .ok (.bipush 10, 2) := by decide +kernel
theorem dX1_strikeAll_5 : decode cX1_strikeAll 5 = .ok (.if_icmp .ge 35, 3) := by decide +kernel
theorem dX1_strikeAll_8 : decode cX1_strikeAll 8 = .ok (.iload_n 1, 1) := by decide +kernel
theorem dX1_strikeAll_9 : decode cX1_strikeAll 9 = .ok (.iload_n 2, 1) := by decide +kernel
theorem dX1_strikeAll_10 : decode cX1_strikeAll 10 = .ok (.invokestatic 81, 3) := by decide +kernel
theorem dX1_strikeAll_13 : decode cX1_strikeAll 13 = .ok (.ifCond .eq 21, 3) := by decide +kernel
theorem dX1_strikeAll_16 : decode cX1_strikeAll 16 = .ok (.aload_n 0, 1) := by decide +kernel
theorem dX1_strikeAll_17 : decode cX1_strikeAll 17 = .ok (.getfield 9, 3) := by decide +kernel
theorem dX1_strikeAll_20 : decode cX1_strikeAll 20 = .ok (.iload_n 2, 1) := by decide +kernel
theorem dX1_strikeAll_21 : decode cX1_strikeAll 21 = .ok (.invokevirtual 84, 3) := by decide +kernel
theorem dX1_strikeAll_24 : decode cX1_strikeAll 24 = .ok (.aload_n 0, 1) := by decide +kernel
theorem dX1_strikeAll_25 : decode cX1_strikeAll 25 = .ok (.getfield 15, 3) := by decide +kernel
theorem dX1_strikeAll_28 : decode cX1_strikeAll 28 = .ok (.bipush 6, 2) := by decide +kernel
theorem dX1_strikeAll_30 : decode cX1_strikeAll 30 = .ok (.iconst 1, 1) := by decide +kernel
theorem dX1_strikeAll_31 : decode cX1_strikeAll 31 = .ok (.invokevirtual 51, 3) := by decide +kernel
theorem dX1_strikeAll_34 : decode cX1_strikeAll 34 = .ok (.iinc 2 1, 3) := by decide +kernel
theorem dX1_strikeAll_37 : decode cX1_strikeAll 37 = .ok (.goto (-35), 3) := by decide +kernel
theorem dX1_strikeAll_40 : decode cX1_strikeAll 40 = .ok (.return_, 1) := by decide +kernel
theorem dX1_startProbe_0 : decode cX1_startProbe 0 = .ok (.aload_n 0, 1) := by decide +kernel
theorem dX1_startProbe_1 : decode cX1_startProbe 1 = .ok (.getfield 19, 3) := by decide +kernel
theorem dX1_startProbe_4 : decode cX1_startProbe 4 = .ok (.aload_n 0, 1) := by decide +kernel
theorem dX1_startProbe_5 : decode cX1_startProbe 5 = .ok (.getfield 9, 3) := by decide +kernel
theorem dX1_startProbe_8 : decode cX1_startProbe 8 = .ok (.invokevirtual 87, 3) := by decide +kernel
theorem dX1_startProbe_11 : decode cX1_startProbe 11 = .ok (.aload_n 0, 1) := by decide +kernel
theorem dX1_startProbe_12 : decode cX1_startProbe 12 = .ok (.aload_n 0, 1) := by decide +kernel
theorem dX1_startProbe_13 : decode cX1_startProbe 13 = .ok (.getfield 19, 3) := by decide +kernel
theorem dX1_startProbe_16 : decode cX1_startProbe 16 = .ok (.iload_n 1, 1) := by decide +kernel
theorem dX1_startProbe_17 : decode cX1_startProbe 17 = .ok (.invokevirtual 93, 3) := by decide +kernel
theorem dX1_startProbe_20 : decode cX1_startProbe 20 = .ok (.iload_n 1, 1) := by decide +kernel
theorem dX1_startProbe_21 : decode cX1_startProbe 21 = .ok (.i2l, 1) := by decide +kernel
theorem dX1_startProbe_22 : decode cX1_startProbe 22 = .ok (.iconst 1, 1) := by decide +kernel
theorem dX1_startProbe_23 : decode cX1_startProbe 23 = .ok (.aload_n 0, 1) := by decide +kernel
theorem dX1_startProbe_24 : decode cX1_startProbe 24 = .ok (.getfield 9, 3) := by decide +kernel
theorem dX1_startProbe_27 : decode cX1_startProbe 27 = .ok (.getfield 96, 3) := by decide +kernel
theorem dX1_startProbe_30 : decode cX1_startProbe 30 = .ok (.iconst 1, 1) := by decide +kernel
theorem dX1_startProbe_31 : decode cX1_startProbe 31 = .ok (.isub, 1) := by decide +kernel
theorem dX1_startProbe_32 : decode cX1_startProbe 32 = .ok (.invokevirtual 99, 3) := by decide +kernel
theorem dX1_startProbe_35 : decode cX1_startProbe 35 = .ok (.aload_n 0, 1) := by decide +kernel
theorem dX1_startProbe_36 : decode cX1_startProbe 36 = .ok (.getfield 9, 3) := by decide +kernel
theorem dX1_startProbe_39 : decode cX1_startProbe 39 = .ok (.getfield 103, 3) := by decide +kernel
theorem dX1_startProbe_42 : decode cX1_startProbe 42 = .ok (.getfield 107, 3) := by decide +kernel
theorem dX1_startProbe_45 : decode cX1_startProbe 45 = .ok (.ireturn, 1) := by decide +kernel
theorem dX1_sendToAll_0 : decode cX1_sendToAll 0 = .ok (.iconst 0, 1) := by decide +kernel
theorem dX1_sendToAll_1 : decode cX1_sendToAll 1 = .ok (.istore 6, 2) := by decide +kernel
theorem dX1_sendToAll_3 : decode cX1_sendToAll 3 = .ok (.iload 6, 2) := by decide +kernel
theorem dX1_sendToAll_5 : decode cX1_sendToAll 5 = .ok (.bipush 10, 2) := by decide +kernel
theorem dX1_sendToAll_7 : decode cX1_sendToAll 7 = .ok (.if_icmp .ge 51, 3) := by decide +kernel
theorem dX1_sendToAll_10 : decode cX1_sendToAll 10 = .ok (.iload_n 1, 1) := by decide +kernel
theorem dX1_sendToAll_11 : decode cX1_sendToAll 11 = .ok (.iload 6, 2) := by decide +kernel
theorem dX1_sendToAll_13 : decode cX1_sendToAll 13 = .ok (.invokestatic 81, 3) := by decide +kernel
theorem dX1_sendToAll_16 : decode cX1_sendToAll 16 = .ok (.ifCond .eq 36, 3) := by decide +kernel
theorem dX1_sendToAll_19 : decode cX1_sendToAll 19 = .ok (.aload_n 0, 1) := by decide +kernel
theorem dX1_sendToAll_20 : decode cX1_sendToAll 20 = .ok (.getfield 15, 3) := by decide +kernel
theorem dX1_sendToAll_23 : decode cX1_sendToAll 23 = .ok (.aload_n 0, 1) := by decide +kernel
theorem dX1_sendToAll_24 : decode cX1_sendToAll 24 = .ok (.getfield 9, 3) := by decide +kernel
theorem dX1_sendToAll_27 : decode cX1_sendToAll 27 = .ok (.getfield 103, 3) := by decide +kernel
theorem dX1_sendToAll_30 : decode cX1_sendToAll 30 = .ok (.lload_n 2, 1) := by decide +kernel
theorem dX1_sendToAll_31 : decode cX1_sendToAll 31 = .ok (.iload 4, 2) := by decide +kernel
theorem dX1_sendToAll_33 : decode cX1_sendToAll 33 = .ok (.iload 6, 2) := by decide +kernel
theorem dX1_sendToAll_35 : decode cX1_sendToAll 35 = .ok (.iload 5, 2) := by decide +kernel
theorem dX1_sendToAll_37 : decode cX1_sendToAll 37 = .ok (.invokevirtual 112, 3) := by decide +kernel
theorem dX1_sendToAll_40 : decode cX1_sendToAll 40 = .ok (.ifCond .eq 7, 3) := by decide +kernel
theorem dX1_sendToAll_43 : decode cX1_sendToAll 43 = .ok (.iconst 0, 1) := by decide +kernel
theorem dX1_sendToAll_44 : decode cX1_sendToAll 44 = .ok (.goto 4, 3) := by decide +kernel
theorem dX1_sendToAll_47 : decode cX1_sendToAll 47 = .ok (.iconst 1, 1) := by decide +kernel
theorem dX1_sendToAll_48 : decode cX1_sendToAll 48 = .ok (.iconst 1, 1) := by decide +kernel
theorem dX1_sendToAll_49 : decode cX1_sendToAll 49 = .ok (.invokevirtual 51, 3) := by decide +kernel
theorem dX1_sendToAll_52 : decode cX1_sendToAll 52 = .ok (.iinc 6 1, 3) := by decide +kernel
theorem dX1_sendToAll_55 : decode cX1_sendToAll 55 = .ok (.goto (-52), 3) := by decide +kernel
theorem dX1_sendToAll_58 : decode cX1_sendToAll 58 = .ok (.return_, 1) := by decide +kernel
theorem dX1_deliverUpTo_0 : decode cX1_deliverUpTo 0 = .ok (.aload_n 0, 1) := by decide +kernel
theorem dX1_deliverUpTo_1 : decode cX1_deliverUpTo 1 = .ok (.getfield 19, 3) := by decide +kernel
theorem dX1_deliverUpTo_4 : decode cX1_deliverUpTo 4 = .ok (.aload_n 0, 1) := by decide +kernel
theorem dX1_deliverUpTo_5 : decode cX1_deliverUpTo 5 = .ok (.getfield 9, 3) := by decide +kernel
theorem dX1_deliverUpTo_8 : decode cX1_deliverUpTo 8 = .ok (.invokevirtual 87, 3) := by decide +kernel
theorem dX1_deliverUpTo_11 : decode cX1_deliverUpTo 11 = .ok (.iconst 0, 1) := by decide +kernel
theorem dX1_deliverUpTo_12 : decode cX1_deliverUpTo 12 = .ok (.istore_n 2, 1) := by decide +kernel
theorem dX1_deliverUpTo_13 : decode cX1_deliverUpTo 13 = .ok (.iload_n 2, 1) := by decide +kernel
theorem dX1_deliverUpTo_14 : decode cX1_deliverUpTo 14 = .ok (.iload_n 1, 1) := by decide +kernel
theorem dX1_deliverUpTo_15 : decode cX1_deliverUpTo 15 = .ok (.if_icmp .ge 26, 3) := by decide +kernel
theorem dX1_deliverUpTo_18 : decode cX1_deliverUpTo 18 = .ok (.aload_n 0, 1) := by decide +kernel
theorem dX1_deliverUpTo_19 : decode cX1_deliverUpTo 19 = .ok (.getfield 9, 3) := by decide +kernel
theorem dX1_deliverUpTo_22 : decode cX1_deliverUpTo 22 = .ok (.getfield 103, 3) := by decide +kernel
theorem dX1_deliverUpTo_25 : decode cX1_deliverUpTo 25 = .ok (.getfield 107, 3) := by decide +kernel
theorem dX1_deliverUpTo_28 : decode cX1_deliverUpTo 28 = .ok (.ifCond .le 13, 3) := by decide +kernel
theorem dX1_deliverUpTo_31 : decode cX1_deliverUpTo 31 = .ok (.aload_n 0, 1) := by decide +kernel
theorem dX1_deliverUpTo_32 : decode cX1_deliverUpTo 32 = .ok (.invokevirtual 116, 3) := by decide +kernel
theorem dX1_deliverUpTo_35 : decode cX1_deliverUpTo 35 = .ok (.iinc 2 1, 3) := by decide +kernel
theorem dX1_deliverUpTo_38 : decode cX1_deliverUpTo 38 = .ok (.goto (-25), 3) := by decide +kernel
theorem dX1_deliverUpTo_41 : decode cX1_deliverUpTo 41 = .ok (.iload_n 2, 1) := by decide +kernel
theorem dX1_deliverUpTo_42 : decode cX1_deliverUpTo 42 = .ok (.ireturn, 1) := by decide +kernel
theorem dX1_deliverFirst_0 : decode cX1_deliverFirst 0 = .ok (.aload_n 0, 1) := by decide +kernel
theorem dX1_deliverFirst_1 : decode cX1_deliverFirst 1 = .ok (.getfield 9, 3) := by decide +kernel
theorem dX1_deliverFirst_4 : decode cX1_deliverFirst 4 = .ok (.getfield 103, 3) := by decide +kernel
theorem dX1_deliverFirst_7 : decode cX1_deliverFirst 7 = .ok (.iconst 0, 1) := by decide +kernel
theorem dX1_deliverFirst_8 : decode cX1_deliverFirst 8 = .ok (.invokevirtual 119, 3) := by decide +kernel
theorem dX1_deliverFirst_11 : decode cX1_deliverFirst 11 = .ok (.istore_n 1, 1) := by decide +kernel
theorem dX1_deliverFirst_12 : decode cX1_deliverFirst 12 = .ok (.aload_n 0, 1) := by decide +kernel
theorem dX1_deliverFirst_13 : decode cX1_deliverFirst 13 = .ok (.getfield 9, 3) := by decide +kernel
theorem dX1_deliverFirst_16 : decode cX1_deliverFirst 16 = .ok (.getfield 103, 3) := by decide +kernel
theorem dX1_deliverFirst_19 : decode cX1_deliverFirst 19 = .ok (.getfield 122, 3) := by decide +kernel
theorem dX1_deliverFirst_22 : decode cX1_deliverFirst 22 = .ok (.iload_n 1, 1) := by decide +kernel
theorem dX1_deliverFirst_23 : decode cX1_deliverFirst 23 = .ok (.laload, 1) := by decide +kernel
theorem dX1_deliverFirst_24 : decode cX1_deliverFirst 24 = .ok (.lstore_n 2, 1) := by decide +kernel
theorem dX1_deliverFirst_25 : decode cX1_deliverFirst 25 = .ok (.aload_n 0, 1) := by decide +kernel
theorem dX1_deliverFirst_26 : decode cX1_deliverFirst 26 = .ok (.getfield 9, 3) := by decide +kernel
theorem dX1_deliverFirst_29 : decode cX1_deliverFirst 29 = .ok (.getfield 103, 3) := by decide +kernel
theorem dX1_deliverFirst_32 : decode cX1_deliverFirst 32 = .ok (.getfield 126, 3) := by decide +kernel
theorem dX1_deliverFirst_35 : decode cX1_deliverFirst 35 = .ok (.iload_n 1, 1) := by decide +kernel
theorem dX1_deliverFirst_36 : decode cX1_deliverFirst 36 = .ok (.iaload, 1) := by decide +kernel
theorem dX1_deliverFirst_37 : decode cX1_deliverFirst 37 = .ok (.istore 4, 2) := by decide +kernel
theorem dX1_deliverFirst_39 : decode cX1_deliverFirst 39 = .ok (.aload_n 0, 1) := by decide +kernel
theorem dX1_deliverFirst_40 : decode cX1_deliverFirst 40 = .ok (.getfield 9, 3) := by decide +kernel
theorem dX1_deliverFirst_43 : decode cX1_deliverFirst 43 = .ok (.getfield 103, 3) := by decide +kernel
theorem dX1_deliverFirst_46 : decode cX1_deliverFirst 46 = .ok (.getfield 129, 3) := by decide +kernel
theorem dX1_deliverFirst_49 : decode cX1_deliverFirst 49 = .ok (.iload_n 1, 1) := by decide +kernel
theorem dX1_deliverFirst_50 : decode cX1_deliverFirst 50 = .ok (.iaload, 1) := by decide +kernel
theorem dX1_deliverFirst_51 : decode cX1_deliverFirst 51 = .ok (.istore 5, 2) := by decide +kernel
theorem dX1_deliverFirst_53 : decode cX1_deliverFirst 53 = .ok (.aload_n 0, 1) := by decide +kernel
theorem dX1_deliverFirst_54 : decode cX1_deliverFirst 54 = .ok (.getfield 9, 3) := by decide +kernel
theorem dX1_deliverFirst_57 : decode cX1_deliverFirst 57 = .ok (.getfield 103, 3) := by decide +kernel
theorem dX1_deliverFirst_60 : decode cX1_deliverFirst 60 = .ok (.getfield 132, 3) := by decide +kernel
theorem dX1_deliverFirst_63 : decode cX1_deliverFirst 63 = .ok (.iload_n 1, 1) := by decide +kernel
theorem dX1_deliverFirst_64 : decode cX1_deliverFirst 64 = .ok (.iaload, 1) := by decide +kernel
theorem dX1_deliverFirst_65 : decode cX1_deliverFirst 65 = .ok (.istore 6, 2) := by decide +kernel
theorem dX1_deliverFirst_67 : decode cX1_deliverFirst 67 = .ok (.aload_n 0, 1) := by decide +kernel
theorem dX1_deliverFirst_68 : decode cX1_deliverFirst 68 = .ok (.getfield 9, 3) := by decide +kernel
theorem dX1_deliverFirst_71 : decode cX1_deliverFirst 71 = .ok (.getfield 103, 3) := by decide +kernel
theorem dX1_deliverFirst_74 : decode cX1_deliverFirst 74 = .ok (.invokevirtual 135, 3) := by decide +kernel
theorem dX1_deliverFirst_77 : decode cX1_deliverFirst 77 = .ok (.lload_n 2, 1) := by decide +kernel
theorem dX1_deliverFirst_78 : decode cX1_deliverFirst 78 = .ok (.iconst 0, 1) := by decide +kernel
theorem dX1_deliverFirst_79 : decode cX1_deliverFirst 79 = .ok (.invokestatic 138, 3) := by decide +kernel
theorem dX1_deliverFirst_82 : decode cX1_deliverFirst 82 = .ok (.istore 7, 2) := by decide +kernel
theorem dX1_deliverFirst_84 : decode cX1_deliverFirst 84 = .ok (.lload_n 2, 1) := by decide +kernel
theorem dX1_deliverFirst_85 : decode cX1_deliverFirst 85 = .ok (.iload 4, 2) := by decide +kernel
theorem dX1_deliverFirst_87 : decode cX1_deliverFirst 87 = .ok (.invokestatic 142, 3) := by decide +kernel
theorem dX1_deliverFirst_90 : decode cX1_deliverFirst 90 = .ok (.istore 8, 2) := by decide +kernel
theorem dX1_deliverFirst_92 : decode cX1_deliverFirst 92 = .ok (.aload_n 0, 1) := by decide +kernel
theorem dX1_deliverFirst_93 : decode cX1_deliverFirst 93 = .ok (.getfield 19, 3) := by decide +kernel
theorem dX1_deliverFirst_96 : decode cX1_deliverFirst 96 = .ok (.lload_n 2, 1) := by decide +kernel
theorem dX1_deliverFirst_97 : decode cX1_deliverFirst 97 = .ok (.iload 4, 2) := by decide +kernel
theorem dX1_deliverFirst_99 : decode cX1_deliverFirst 99 = .ok (.iload 5, 2) := by decide +kernel
theorem dX1_deliverFirst_101 : decode cX1_deliverFirst 101 = .ok (.invokevirtual 145, 3) := by decide +kernel
theorem dX1_deliverFirst_104 : decode cX1_deliverFirst 104 = .ok (.ifCond .ne 15, 3) := by decide +kernel
theorem dX1_deliverFirst_107 : decode cX1_deliverFirst 107 = .ok (.aload_n 0, 1) := by decide +kernel
theorem dX1_deliverFirst_108 : decode cX1_deliverFirst 108 = .ok (.getfield 15, 3) := by decide +kernel
theorem dX1_deliverFirst_111 : decode cX1_deliverFirst 111 = .ok (.iconst 2, 1) := by decide +kernel
theorem dX1_deliverFirst_112 : decode cX1_deliverFirst 112 = .ok (.iconst 1, 1) := by decide +kernel
theorem dX1_deliverFirst_113 : decode cX1_deliverFirst 113 = .ok (.invokevirtual 51, 3) := by decide +kernel
theorem dX1_deliverFirst_116 : decode cX1_deliverFirst 116 = .ok (.goto 118, 3) := by decide +kernel
theorem dX1_deliverFirst_119 : decode cX1_deliverFirst 119 = .ok (.iload 5, 2) := by decide +kernel
theorem dX1_deliverFirst_121 : decode cX1_deliverFirst 121 = .ok (.iload 7, 2) := by decide +kernel
theorem dX1_deliverFirst_123 : decode cX1_deliverFirst 123 = .ok (.if_icmp .ne 14, 3) := by decide +kernel
theorem dX1_deliverFirst_126 : decode cX1_deliverFirst 126 = .ok (.aload_n 0, 1) := by decide +kernel
theorem dX1_deliverFirst_127 : decode cX1_deliverFirst 127 = .ok (.iload 8, 2) := by decide +kernel
theorem dX1_deliverFirst_129 : decode cX1_deliverFirst 129 = .ok (.iload 7, 2) := by decide +kernel
theorem dX1_deliverFirst_131 : decode cX1_deliverFirst 131 = .ok (.invokevirtual 149, 3) := by decide +kernel
theorem dX1_deliverFirst_134 : decode cX1_deliverFirst 134 = .ok (.goto 100, 3) := by decide +kernel
theorem dX1_deliverFirst_137 : decode cX1_deliverFirst 137 = .ok (.aload_n 0, 1) := by decide +kernel
theorem dX1_deliverFirst_138 : decode cX1_deliverFirst 138 = .ok (.getfield 9, 3) := by decide +kernel
theorem dX1_deliverFirst_141 : decode cX1_deliverFirst 141 = .ok (.iload 5, 2) := by decide +kernel
theorem dX1_deliverFirst_143 : decode cX1_deliverFirst 143 = .ok (.iconst 1, 1) := by decide +kernel
theorem dX1_deliverFirst_144 : decode cX1_deliverFirst 144 = .ok (.invokevirtual 152, 3) := by decide +kernel
theorem dX1_deliverFirst_147 : decode cX1_deliverFirst 147 = .ok (.ifCond .eq 87, 3) := by decide +kernel
theorem dX1_deliverFirst_150 : decode cX1_deliverFirst 150 = .ok (.iload 8, 2) := by decide +kernel
theorem dX1_deliverFirst_152 : decode cX1_deliverFirst 152 = .ok (.iload 5, 2) := by decide +kernel
theorem dX1_deliverFirst_154 : decode cX1_deliverFirst 154 = .ok (.invokestatic 81, 3) := by decide +kernel
theorem dX1_deliverFirst_157 : decode cX1_deliverFirst 157 = .ok (.ifCond .ne 77, 3) := by decide +kernel
theorem dX1_deliverFirst_160 : decode cX1_deliverFirst 160 = .ok (.iload 6, 2) := by decide +kernel
theorem dX1_deliverFirst_162 : decode cX1_deliverFirst 162 = .ok (.ifCond .le 35, 3) := by decide +kernel
theorem dX1_deliverFirst_165 : decode cX1_deliverFirst 165 = .ok (.aload_n 0, 1) := by decide +kernel
theorem dX1_deliverFirst_166 : decode cX1_deliverFirst 166 = .ok (.aload_n 0, 1) := by decide +kernel
theorem dX1_deliverFirst_167 : decode cX1_deliverFirst 167 = .ok (.getfield 19, 3) := by decide +kernel
theorem dX1_deliverFirst_170 : decode cX1_deliverFirst 170 = .ok (.iload 5, 2) := by decide +kernel
theorem dX1_deliverFirst_172 : decode cX1_deliverFirst 172 = .ok (.invokevirtual 93, 3) := by decide +kernel
theorem dX1_deliverFirst_175 : decode cX1_deliverFirst 175 = .ok (.lload_n 2, 1) := by decide +kernel
theorem dX1_deliverFirst_176 : decode cX1_deliverFirst 176 = .ok (.iload 4, 2) := by decide +kernel
theorem dX1_deliverFirst_178 : decode cX1_deliverFirst 178 = .ok (.iload 5, 2) := by decide +kernel
theorem dX1_deliverFirst_180 : decode cX1_deliverFirst 180 = .ok (.invokestatic 155, 3) := by decide +kernel
theorem dX1_deliverFirst_183 : decode cX1_deliverFirst 183 = .ok (.iload 4, 2) := by decide +kernel
theorem dX1_deliverFirst_185 : decode cX1_deliverFirst 185 = .ok (.iconst 1, 1) := by decide +kernel
theorem dX1_deliverFirst_186 : decode cX1_deliverFirst 186 = .ok (.iadd, 1) := by decide +kernel
theorem dX1_deliverFirst_187 : decode cX1_deliverFirst 187 = .ok (.iload 6, 2) := by decide +kernel
theorem dX1_deliverFirst_189 : decode cX1_deliverFirst 189 = .ok (.iconst 1, 1) := by decide +kernel
theorem dX1_deliverFirst_190 : decode cX1_deliverFirst 190 = .ok (.isub, 1) := by decide +kernel
theorem dX1_deliverFirst_191 : decode cX1_deliverFirst 191 = .ok (.invokevirtual 99, 3) := by decide +kernel
theorem dX1_deliverFirst_194 : decode cX1_deliverFirst 194 = .ok (.goto 40, 3) := by decide +kernel
theorem dX1_deliverFirst_197 : decode cX1_deliverFirst 197 = .ok (.aload_n 0, 1) := by decide +kernel
theorem dX1_deliverFirst_198 : decode cX1_deliverFirst 198 = .ok (.getfield 15, 3) := by decide +kernel
theorem dX1_deliverFirst_201 : decode cX1_deliverFirst 201 = .ok (.iconst 3, 1) := by decide +kernel
theorem dX1_deliverFirst_202 : decode cX1_deliverFirst 202 = .ok (.iconst 1, 1) := by decide +kernel
theorem dX1_deliverFirst_203 : decode cX1_deliverFirst 203 = .ok (.invokevirtual 51, 3) := by decide +kernel
theorem dX1_deliverFirst_206 : decode cX1_deliverFirst 206 = .ok (.aload_n 0, 1) := by decide +kernel
theorem dX1_deliverFirst_207 : decode cX1_deliverFirst 207 = .ok (.getfield 15, 3) := by decide +kernel
theorem dX1_deliverFirst_210 : decode cX1_deliverFirst 210 = .ok (.iconst 5, 1) := by decide +kernel
theorem dX1_deliverFirst_211 : decode cX1_deliverFirst 211 = .ok (.aload_n 0, 1) := by decide +kernel
theorem dX1_deliverFirst_212 : decode cX1_deliverFirst 212 = .ok (.getfield 19, 3) := by decide +kernel
theorem dX1_deliverFirst_215 : decode cX1_deliverFirst 215 = .ok (.getfield 159, 3) := by decide +kernel
theorem dX1_deliverFirst_218 : decode cX1_deliverFirst 218 = .ok (.iload 7, 2) := by decide +kernel
theorem dX1_deliverFirst_220 : decode cX1_deliverFirst 220 = .ok (.invokestatic 81, 3) := by decide +kernel
theorem dX1_deliverFirst_223 : decode cX1_deliverFirst 223 = .ok (.ifCond .eq 7, 3) := by decide +kernel
theorem dX1_deliverFirst_226 : decode cX1_deliverFirst 226 = .ok (.iconst 1, 1) := by decide +kernel
theorem dX1_deliverFirst_227 : decode cX1_deliverFirst 227 = .ok (.goto 4, 3) := by decide +kernel
theorem dX1_deliverFirst_230 : decode cX1_deliverFirst 230 = .ok (.iconst 0, 1) := by decide +kernel
theorem dX1_deliverFirst_231 : decode cX1_deliverFirst 231 = .ok (.invokevirtual 51, 3) := by decide +kernel
theorem dX1_deliverFirst_234 : decode cX1_deliverFirst 234 = .ok (.return_, 1) := by decide +kernel
theorem dX1_breakDeadlock_0 : decode cX1_breakDeadlock 0 = .ok (.aload_n 0, 1) := by decide +kernel
theorem dX1_breakDeadlock_1 : decode cX1_breakDeadlock 1 = .ok (.iload_n 1, 1) := by decide +kernel
theorem dX1_breakDeadlock_2 : decode cX1_breakDeadlock 2 = .ok (.invokevirtual 162, 3) := by decide +kernel
theorem dX1_breakDeadlock_5 : decode cX1_breakDeadlock 5 = .ok (.istore_n 3, 1) := by decide +kernel
theorem dX1_breakDeadlock_6 : decode cX1_breakDeadlock 6 = .ok (.aload_n 0, 1) := by decide +kernel
theorem dX1_breakDeadlock_7 : decode cX1_breakDeadlock 7 = .ok (.getfield 15, 3) := by decide +kernel
theorem dX1_breakDeadlock_10 : decode cX1_breakDeadlock 10 = .ok (.iload_n 1, 1) := by decide +kernel
theorem dX1_breakDeadlock_11 : decode cX1_breakDeadlock 11 = .ok (.iload_n 3, 1) := by decide +kernel
theorem dX1_breakDeadlock_12 : decode cX1_breakDeadlock 12 = .ok (.iload_n 2, 1) := by decide +kernel
theorem dX1_breakDeadlock_13 : decode cX1_breakDeadlock 13 = .ok (.invokevirtual 165, 3) := by decide +kernel
theorem dX1_breakDeadlock_16 : decode cX1_breakDeadlock 16 = .ok (.aload_n 0, 1) := by decide +kernel
theorem dX1_breakDeadlock_17 : decode cX1_breakDeadlock 17 = .ok (.getfield 9, 3) := by decide +kernel
theorem dX1_breakDeadlock_20 : decode cX1_breakDeadlock 20 = .ok (.iload_n 3, 1) := by decide +kernel
theorem dX1_breakDeadlock_21 : decode cX1_breakDeadlock 21 = .ok (.invokevirtual 84, 3) := by decide +kernel
theorem dX1_breakDeadlock_24 : decode cX1_breakDeadlock 24 = .ok (.aload_n 0, 1) := by decide +kernel
theorem dX1_breakDeadlock_25 : decode cX1_breakDeadlock 25 = .ok (.getfield 15, 3) := by decide +kernel
theorem dX1_breakDeadlock_28 : decode cX1_breakDeadlock 28 = .ok (.bipush 6, 2) := by decide +kernel
theorem dX1_breakDeadlock_30 : decode cX1_breakDeadlock 30 = .ok (.iconst 1, 1) := by decide +kernel
theorem dX1_breakDeadlock_31 : decode cX1_breakDeadlock 31 = .ok (.invokevirtual 51, 3) := by decide +kernel
theorem dX1_breakDeadlock_34 : decode cX1_breakDeadlock 34 = .ok (.aload_n 0, 1) := by decide +kernel
theorem dX1_breakDeadlock_35 : decode cX1_breakDeadlock 35 = .ok (.getfield 15, 3) := by decide +kernel
theorem dX1_breakDeadlock_38 : decode cX1_breakDeadlock 38 = .ok (.bipush 7, 2) := by decide +kernel
theorem dX1_breakDeadlock_40 : decode cX1_breakDeadlock 40 = .ok (.aload_n 0, 1) := by decide +kernel
theorem dX1_breakDeadlock_41 : decode cX1_breakDeadlock 41 = .ok (.getfield 9, 3) := by decide +kernel
theorem dX1_breakDeadlock_44 : decode cX1_breakDeadlock 44 = .ok (.invokevirtual 59, 3) := by decide +kernel
theorem dX1_breakDeadlock_47 : decode cX1_breakDeadlock 47 = .ok (.invokevirtual 51, 3) := by decide +kernel
theorem dX1_breakDeadlock_50 : decode cX1_breakDeadlock 50 = .ok (.aload_n 0, 1) := by decide +kernel
theorem dX1_breakDeadlock_51 : decode cX1_breakDeadlock 51 = .ok (.getfield 19, 3) := by decide +kernel
theorem dX1_breakDeadlock_54 : decode cX1_breakDeadlock 54 = .ok (.aload_n 0, 1) := by decide +kernel
theorem dX1_breakDeadlock_55 : decode cX1_breakDeadlock 55 = .ok (.getfield 9, 3) := by decide +kernel
theorem dX1_breakDeadlock_58 : decode cX1_breakDeadlock 58 = .ok (.invokevirtual 87, 3) := by decide +kernel
theorem dX1_breakDeadlock_61 : decode cX1_breakDeadlock 61 = .ok (.return_, 1) := by decide +kernel
theorem dX1_victimOf_0 : decode cX1_victimOf 0 = .ok (.iconst (-1), 1) := by decide +kernel
theorem dX1_victimOf_1 : decode cX1_victimOf 1 = .ok (.istore_n 2, 1) := by decide +kernel
theorem dX1_victimOf_2 : decode cX1_victimOf 2 = .ok (.iconst 0, 1) := by decide +kernel
theorem dX1_victimOf_3 : decode cX1_victimOf 3 = .ok (.istore_n 3, 1) := by decide +kernel
theorem dX1_victimOf_4 : decode cX1_victimOf 4 = .ok (.iload_n 3, 1) := by decide +kernel
theorem dX1_victimOf_5 : decode cX1_victimOf 5 = .ok (.bipush 10, 2) := by decide +kernel
theorem dX1_victimOf_7 : decode cX1_victimOf 7 = .ok (.if_icmp .ge 33, 3) := by decide +kernel
theorem dX1_victimOf_10 : decode cX1_victimOf 10 = .ok (.iload_n 1, 1) := by decide +kernel
theorem dX1_victimOf_11 : decode cX1_victimOf 11 = .ok (.iload_n 3, 1) := by decide +kernel
theorem dX1_victimOf_12 : decode cX1_victimOf 12 = .ok (.invokestatic 81, 3) := by decide +kernel
theorem dX1_victimOf_15 : decode cX1_victimOf 15 = .ok (.ifCond .eq 19, 3) := by decide +kernel
theorem dX1_victimOf_18 : decode cX1_victimOf 18 = .ok (.iload_n 2, 1) := by decide +kernel
theorem dX1_victimOf_19 : decode cX1_victimOf 19 = .ok (.iconst (-1), 1) := by decide +kernel
theorem dX1_victimOf_20 : decode cX1_victimOf 20 = .ok (.if_icmp .eq 12, 3) := by decide +kernel
theorem dX1_victimOf_23 : decode cX1_victimOf 23 = .ok (.aload_n 0, 1) := by decide +kernel
theorem dX1_victimOf_24 : decode cX1_victimOf 24 = .ok (.iload_n 3, 1) := by decide +kernel
theorem dX1_victimOf_25 : decode cX1_victimOf 25 = .ok (.iload_n 2, 1) := by decide +kernel
theorem dX1_victimOf_26 : decode cX1_victimOf 26 = .ok (.invokevirtual 169, 3) := by decide +kernel
theorem dX1_victimOf_29 : decode cX1_victimOf 29 = .ok (.ifCond .eq 5, 3) := by decide +kernel
theorem dX1_victimOf_32 : decode cX1_victimOf 32 = .ok (.iload_n 3, 1) := by decide +kernel
theorem dX1_victimOf_33 : decode cX1_victimOf 33 = .ok (.istore_n 2, 1) := by decide +kernel
theorem dX1_victimOf_34 : decode cX1_victimOf 34 = .ok (.iinc 3 1, 3) := by decide +kernel
theorem dX1_victimOf_37 : decode cX1_victimOf 37 = .ok (.goto (-33), 3) := by decide +kernel
theorem dX1_victimOf_40 : decode cX1_victimOf 40 = .ok (.iload_n 2, 1) := by decide +kernel
theorem dX1_victimOf_41 : decode cX1_victimOf 41 = .ok (.ireturn, 1) := by decide +kernel
theorem dX1_isRatherVictim_0 : decode cX1_isRatherVictim 0 = .ok (.aload_n 0, 1) := by decide +kernel
theorem dX1_isRatherVictim_1 : decode cX1_isRatherVictim 1 = .ok (.getfield 9, 3) := by decide +kernel
theorem dX1_isRatherVictim_4 : decode cX1_isRatherVictim 4 = .ok (.iload_n 1, 1) := by decide +kernel
theorem dX1_isRatherVictim_5 : decode cX1_isRatherVictim 5 = .ok (.invokevirtual 63, 3) := by decide +kernel
theorem dX1_isRatherVictim_8 : decode cX1_isRatherVictim 8 = .ok (.ifCond .eq 14, 3) := by decide +kernel
theorem dX1_isRatherVictim_11 : decode cX1_isRatherVictim 11 = .ok (.aload_n 0, 1) := by decide +kernel
theorem dX1_isRatherVictim_12 : decode cX1_isRatherVictim 12 = .ok (.getfield 9, 3) := by decide +kernel
theorem dX1_isRatherVictim_15 : decode cX1_isRatherVictim 15 = .ok (.iload_n 2, 1) := by decide +kernel
theorem dX1_isRatherVictim_16 : decode cX1_isRatherVictim 16 = .ok (.invokevirtual 63, 3) := by decide +kernel
theorem dX1_isRatherVictim_19 : decode cX1_isRatherVictim 19 = .ok (.ifCond .ne 5, 3) := by decide +kernel
theorem dX1_isRatherVictim_22 : decode cX1_isRatherVictim 22 = .ok (.iconst 0, 1) := by decide +kernel
theorem dX1_isRatherVictim_23 : decode cX1_isRatherVictim 23 = .ok (.ireturn, 1) := by decide +kernel
theorem dX1_isRatherVictim_24 : decode cX1_isRatherVictim 24 = .ok (.iconst 0, 1) := by decide +kernel
theorem dX1_isRatherVictim_25 : decode cX1_isRatherVictim 25 = .ok (.istore_n 3, 1) := by decide +kernel
theorem dX1_isRatherVictim_26 : decode cX1_isRatherVictim 26 = .ok (.aload_n 0, 1) := by decide +kernel
theorem dX1_isRatherVictim_27 : decode cX1_isRatherVictim 27 = .ok (.getfield 9, 3) := by decide +kernel
theorem dX1_isRatherVictim_30 : decode cX1_isRatherVictim 30 = .ok (.getfield 172, 3) := by decide +kernel
theorem dX1_isRatherVictim_33 : decode cX1_isRatherVictim 33 = .ok (.ifCond .ne 26, 3) := by decide +kernel
theorem dX1_isRatherVictim_36 : decode cX1_isRatherVictim 36 = .ok (.aload_n 0, 1) := by decide +kernel
theorem dX1_isRatherVictim_37 : decode cX1_isRatherVictim 37 = .ok (.getfield 9, 3) := by decide +kernel
theorem dX1_isRatherVictim_40 : decode cX1_isRatherVictim 40 = .ok (.getfield 175, 3) := by decide +kernel
theorem dX1_isRatherVictim_43 : decode cX1_isRatherVictim 43 = .ok (.iload_n 1, 1) := by decide +kernel
theorem dX1_isRatherVictim_44 : decode cX1_isRatherVictim 44 = .ok (.iaload, 1) := by decide +kernel
theorem dX1_isRatherVictim_45 : decode cX1_isRatherVictim 45 = .ok (.aload_n 0, 1) := by decide +kernel
theorem dX1_isRatherVictim_46 : decode cX1_isRatherVictim 46 = .ok (.getfield 9, 3) := by decide +kernel
theorem dX1_isRatherVictim_49 : decode cX1_isRatherVictim 49 = .ok (.getfield 175, 3) := by decide +kernel
theorem dX1_isRatherVictim_52 : decode cX1_isRatherVictim 52 = .ok (.iload_n 2, 1) := by decide +kernel
theorem dX1_isRatherVictim_53 : decode cX1_isRatherVictim 53 = .ok (.iaload, 1) := by decide +kernel
theorem dX1_isRatherVictim_54 : decode cX1_isRatherVictim 54 = .ok (.isub, 1) := by decide +kernel
theorem dX1_isRatherVictim_55 : decode cX1_isRatherVictim 55 = .ok (.istore_n 3, 1) := by decide +kernel
theorem dX1_isRatherVictim_56 : decode cX1_isRatherVictim 56 = .ok (.goto 40, 3) := by decide +kernel
theorem dX1_isRatherVictim_59 : decode cX1_isRatherVictim 59 = .ok (.aload_n 0, 1) := by decide +kernel
theorem dX1_isRatherVictim_60 : decode cX1_isRatherVictim 60 = .ok (.getfield 9, 3) := by decide +kernel
theorem dX1_isRatherVictim_63 : decode cX1_isRatherVictim 63 = .ok (.getfield 172, 3) := by decide +kernel
theorem dX1_isRatherVictim_66 : decode cX1_isRatherVictim 66 = .ok (.iconst 2, 1) := by decide +kernel
theorem dX1_isRatherVictim_67 : decode cX1_isRatherVictim 67 = .ok (.if_icmp .ne 29, 3) := by decide +kernel
theorem dX1_isRatherVictim_70 : decode cX1_isRatherVictim 70 = .ok (.aload_n 0, 1) := by decide +kernel
theorem dX1_isRatherVictim_71 : decode cX1_isRatherVictim 71 = .ok (.getfield 9, 3) := by decide +kernel
theorem dX1_isRatherVictim_74 : decode cX1_isRatherVictim 74 = .ok (.getfield 178, 3) := by decide +kernel
theorem dX1_isRatherVictim_77 : decode cX1_isRatherVictim 77 = .ok (.iload_n 1, 1) := by decide +kernel
theorem dX1_isRatherVictim_78 : decode cX1_isRatherVictim 78 = .ok (.iaload, 1) := by decide +kernel
theorem dX1_isRatherVictim_79 : decode cX1_isRatherVictim 79 = .ok (.invokestatic 181, 3) := by decide +kernel
theorem dX1_isRatherVictim_82 : decode cX1_isRatherVictim 82 = .ok (.aload_n 0, 1) := by decide +kernel
theorem dX1_isRatherVictim_83 : decode cX1_isRatherVictim 83 = .ok (.getfield 9, 3) := by decide +kernel
theorem dX1_isRatherVictim_86 : decode cX1_isRatherVictim 86 = .ok (.getfield 178, 3) := by decide +kernel
theorem dX1_isRatherVictim_89 : decode cX1_isRatherVictim 89 = .ok (.iload_n 2, 1) := by decide +kernel
theorem dX1_isRatherVictim_90 : decode cX1_isRatherVictim 90 = .ok (.iaload, 1) := by decide +kernel
theorem dX1_isRatherVictim_91 : decode cX1_isRatherVictim 91 = .ok (.invokestatic 181, 3) := by decide +kernel
theorem dX1_isRatherVictim_94 : decode cX1_isRatherVictim 94 = .ok (.isub, 1) := by decide +kernel
theorem dX1_isRatherVictim_95 : decode cX1_isRatherVictim 95 = .ok (.istore_n 3, 1) := by decide +kernel
theorem dX1_isRatherVictim_96 : decode cX1_isRatherVictim 96 = .ok (.iload_n 3, 1) := by decide +kernel
theorem dX1_isRatherVictim_97 : decode cX1_isRatherVictim 97 = .ok (.ifCond .lt 28, 3) := by decide +kernel
theorem dX1_isRatherVictim_100 : decode cX1_isRatherVictim 100 = .ok (.iload_n 3, 1) := by decide +kernel
theorem dX1_isRatherVictim_101 : decode cX1_isRatherVictim 101 = .ok (.ifCond .ne 28, 3) := by decide +kernel
theorem dX1_isRatherVictim_104 : decode cX1_isRatherVictim 104 = .ok (.aload_n 0, 1) := by decide +kernel
theorem dX1_isRatherVictim_105 : decode cX1_isRatherVictim 105 = .ok (.getfield 9, 3) := by decide +kernel
theorem dX1_isRatherVictim_108 : decode cX1_isRatherVictim 108 = .ok (.getfield 186, 3) := by decide +kernel
theorem dX1_isRatherVictim_111 : decode cX1_isRatherVictim 111 = .ok (.iload_n 1, 1) := by decide +kernel
theorem dX1_isRatherVictim_112 : decode cX1_isRatherVictim 112 = .ok (.iaload, 1) := by decide +kernel
theorem dX1_isRatherVictim_113 : decode cX1_isRatherVictim 113 = .ok (.aload_n 0, 1) := by decide +kernel
theorem dX1_isRatherVictim_114 : decode cX1_isRatherVictim 114 = .ok (.getfield 9, 3) := by decide +kernel
theorem dX1_isRatherVictim_117 : decode cX1_isRatherVictim 117 = .ok (.getfield 186, 3) := by decide +kernel
theorem dX1_isRatherVictim_120 : decode cX1_isRatherVictim 120 = .ok (.iload_n 2, 1) := by decide +kernel
theorem dX1_isRatherVictim_121 : decode cX1_isRatherVictim 121 = .ok (.iaload, 1) := by decide +kernel
theorem dX1_isRatherVictim_122 : decode cX1_isRatherVictim 122 = .ok (.if_icmp .le 7, 3) := by decide +kernel
theorem dX1_isRatherVictim_125 : decode cX1_isRatherVictim 125 = .ok (.iconst 1, 1) := by decide +kernel
theorem dX1_isRatherVictim_126 : decode cX1_isRatherVictim 126 = .ok (.goto 4, 3) := by decide +kernel
theorem dX1_isRatherVictim_129 : decode cX1_isRatherVictim 129 = .ok (.iconst 0, 1) := by decide +kernel
theorem dX1_isRatherVictim_130 : decode cX1_isRatherVictim 130 = .ok (.ireturn, 1) := by decide +kernel
theorem dX2_init_0 : decode cX2_init 0 = .ok (.aload_n 0, 1) := by decide +kernel
theorem dX2_init_1 : decode cX2_init 1 = .ok (.invokespecial 3, 3) := by decide +kernel
theorem dX2_init_4 : decode cX2_init 4 = .ok (.aload_n 0, 1) := by decide +kernel
theorem dX2_init_5 : decode cX2_init 5 = .ok (.bipush 16, 2) := by decide +kernel
theorem dX2_init_7 : decode cX2_init 7 = .ok (.newarray .int, 2) := by decide +kernel
theorem dX2_init_9 : decode cX2_init 9 = .ok (.putfield 9, 3) := by decide +kernel
theorem dX2_init_12 : decode cX2_init 12 = .ok (.aload_n 0, 1) := by decide +kernel
theorem dX2_init_13 : decode cX2_init 13 = .ok (.bipush 16, 2) := by decide +kernel
theorem dX2_init_15 : decode cX2_init 15 = .ok (.newarray .int, 2) := by decide +kernel
theorem dX2_init_17 : decode cX2_init 17 = .ok (.putfield 15, 3) := by decide +kernel
theorem dX2_init_20 : decode cX2_init 20 = .ok (.aload_n 0, 1) := by decide +kernel
theorem dX2_init_21 : decode cX2_init 21 = .ok (.bipush 16, 2) := by decide +kernel
theorem dX2_init_23 : decode cX2_init 23 = .ok (.newarray .int, 2) := by decide +kernel
theorem dX2_init_25 : decode cX2_init 25 = .ok (.putfield 18, 3) := by decide +kernel
theorem dX2_init_28 : decode cX2_init 28 = .ok (.return_, 1) := by decide +kernel
theorem dX2_has_0 : decode cX2_has 0 = .ok (.iload_n 1, 1) := by decide +kernel
theorem dX2_has_1 : decode cX2_has 1 = .ok (.ifCond .lt 21, 3) := by decide +kernel
theorem dX2_has_4 : decode cX2_has 4 = .ok (.iload_n 1, 1) := by decide +kernel
theorem dX2_has_5 : decode cX2_has 5 = .ok (.aload_n 0, 1) := by decide +kernel
theorem dX2_has_6 : decode cX2_has 6 = .ok (.getfield 21, 3) := by decide +kernel
theorem dX2_has_9 : decode cX2_has 9 = .ok (.if_icmp .ge 13, 3) := by decide +kernel
theorem dX2_has_12 : decode cX2_has 12 = .ok (.iload_n 1, 1) := by decide +kernel
theorem dX2_has_13 : decode cX2_has 13 = .ok (.bipush 16, 2) := by decide +kernel
theorem dX2_has_15 : decode cX2_has 15 = .ok (.if_icmp .ge 7, 3) := by decide +kernel
theorem dX2_has_18 : decode cX2_has 18 = .ok (.iconst 1, 1) := by decide +kernel
theorem dX2_has_19 : decode cX2_has 19 = .ok (.goto 4, 3) := by decide +kernel
theorem dX2_has_22 : decode cX2_has 22 = .ok (.iconst 0, 1) := by decide +kernel
theorem dX2_has_23 : decode cX2_has 23 = .ok (.ireturn, 1) := by decide +kernel
theorem dX2_grow_0 : decode cX2_grow 0 = .ok (.aload_n 0, 1) := by decide +kernel
theorem dX2_grow_1 : decode cX2_grow 1 = .ok (.getfield 21, 3) := by decide +kernel
theorem dX2_grow_4 : decode cX2_grow 4 = .ok (.istore_n 2, 1) := by decide +kernel
theorem dX2_grow_5 : decode cX2_grow 5 = .ok (.iload_n 2, 1) := by decide +kernel
theorem dX2_grow_6 : decode cX2_grow 6 = .ok (.bipush 16, 2) := by decide +kernel
theorem dX2_grow_8 : decode cX2_grow 8 = .ok (.if_icmp .lt 5, 3) := by decide +kernel
theorem dX2_grow_11 : decode cX2_grow 11 = .ok (.iconst (-1), 1) := by decide +kernel
theorem dX2_grow_12 : decode cX2_grow 12 = .ok (.ireturn, 1) := by decide +kernel
theorem dX2_grow_13 : decode cX2_grow 13 = .ok (.aload_n 0, 1) := by decide +kernel
theorem dX2_grow_14 : decode cX2_grow 14 = .ok (.getfield 9, 3) := by decide +kernel
theorem dX2_grow_17 : decode cX2_grow 17 = .ok (.iload_n 2, 1) := by decide +kernel
theorem dX2_grow_18 : decode cX2_grow 18 = .ok (.iload_n 1, 1) := by decide +kernel
theorem dX2_grow_19 : decode cX2_grow 19 = .ok (.iastore, 1) := by decide +kernel
theorem dX2_grow_20 : decode cX2_grow 20 = .ok (.aload_n 0, 1) := by decide +kernel
theorem dX2_grow_21 : decode cX2_grow 21 = .ok (.getfield 15, 3) := by decide +kernel
theorem dX2_grow_24 : decode cX2_grow 24 = .ok (.iload_n 2, 1) := by decide +kernel
theorem dX2_grow_25 : decode cX2_grow 25 = .ok (.iconst 1, 1) := by decide +kernel
theorem dX2_grow_26 : decode cX2_grow 26 = .ok (.iload_n 2, 1) := by decide +kernel
theorem dX2_grow_27 : decode cX2_grow 27 = .ok (.ishl, 1) := by decide +kernel
theorem dX2_grow_28 : decode cX2_grow 28 = .ok (.aload_n 0, 1) := by decide +kernel
theorem dX2_grow_29 : decode cX2_grow 29 = .ok (.iload_n 1, 1) := by decide +kernel
theorem dX2_grow_30 : decode cX2_grow 30 = .ok (.invokevirtual 25, 3) := by decide +kernel
theorem dX2_grow_33 : decode cX2_grow 33 = .ok (.ifCond .eq 12, 3) := by decide +kernel
theorem dX2_grow_36 : decode cX2_grow 36 = .ok (.aload_n 0, 1) := by decide +kernel
theorem dX2_grow_37 : decode cX2_grow 37 = .ok (.getfield 15, 3) := by decide +kernel
theorem dX2_grow_40 : decode cX2_grow 40 = .ok (.iload_n 1, 1) := by decide +kernel
theorem dX2_grow_41 : decode cX2_grow 41 = .ok (.iaload, 1) := by decide +kernel
theorem dX2_grow_42 : decode cX2_grow 42 = .ok (.goto 4, 3) := by decide +kernel
theorem dX2_grow_45 : decode cX2_grow 45 = .ok (.iconst 0, 1) := by decide +kernel
theorem dX2_grow_46 : decode cX2_grow 46 = .ok (.ior, 1) := by decide +kernel
theorem dX2_grow_47 : decode cX2_grow 47 = .ok (.iastore, 1) := by decide +kernel
theorem dX2_grow_48 : decode cX2_grow 48 = .ok (.iconst 0, 1) := by decide +kernel
theorem dX2_grow_49 : decode cX2_grow 49 = .ok (.istore_n 3, 1) := by decide +kernel
theorem dX2_grow_50 : decode cX2_grow 50 = .ok (.iload_n 3, 1) := by decide +kernel
theorem dX2_grow_51 : decode cX2_grow 51 = .ok (.iload_n 2, 1) := by decide +kernel
theorem dX2_grow_52 : decode cX2_grow 52 = .ok (.if_icmp .gt 34, 3) := by decide +kernel
theorem dX2_grow_55 : decode cX2_grow 55 = .ok (.aload_n 0, 1) := by decide +kernel
theorem dX2_grow_56 : decode cX2_grow 56 = .ok (.getfield 15, 3) := by decide +kernel
theorem dX2_grow_59 : decode cX2_grow 59 = .ok (.iload_n 2, 1) := by decide +kernel
theorem dX2_grow_60 : decode cX2_grow 60 = .ok (.iaload, 1) := by decide +kernel
theorem dX2_grow_61 : decode cX2_grow 61 = .ok (.iload_n 3, 1) := by decide +kernel
theorem dX2_grow_62 : decode cX2_grow 62 = .ok (.invokestatic 29, 3) := by decide +kernel
theorem dX2_grow_65 : decode cX2_grow 65 = .ok (.ifCond .eq 15, 3) := by decide +kernel
theorem dX2_grow_68 : decode cX2_grow 68 = .ok (.aload_n 0, 1) := by decide +kernel
theorem dX2_grow_69 : decode cX2_grow 69 = .ok (.getfield 18, 3) := by decide +kernel
theorem dX2_grow_72 : decode cX2_grow 72 = .ok (.iload_n 3, 1) := by decide +kernel
theorem dX2_grow_73 : decode cX2_grow 73 = .ok (.dup2, 1) := by decide +kernel
theorem dX2_grow_74 : decode cX2_grow 74 = .ok (.iaload, 1) := by decide +kernel
theorem dX2_grow_75 : decode cX2_grow 75 = .ok (.iconst 1, 1) := by decide +kernel
theorem dX2_grow_76 : decode cX2_grow 76 = .ok (.iload_n 2, 1) := by decide +kernel
theorem dX2_grow_77 : decode cX2_grow 77 = .ok (.ishl, 1) := by decide +kernel
theorem dX2_grow_78 : decode cX2_grow 78 = .ok (.ior, 1) := by decide +kernel
theorem dX2_grow_79 : decode cX2_grow 79 = .ok (.iastore, 1) := by decide +kernel
theorem dX2_grow_80 : decode cX2_grow 80 = .ok (.iinc 3 1, 3) := by decide +kernel
theorem dX2_grow_83 : decode cX2_grow 83 = .ok (.goto (-33), 3) := by decide +kernel
theorem dX2_grow_86 : decode cX2_grow 86 = .ok (.aload_n 0, 1) := by decide +kernel
theorem dX2_grow_87 : decode cX2_grow 87 = .ok (.iload_n 2, 1) := by decide +kernel
theorem dX2_grow_88 : decode cX2_grow 88 = .ok (.iconst 1, 1) := by decide +kernel
theorem dX2_grow_89 : decode cX2_grow 89 = .ok (.iadd, 1) := by decide +kernel
theorem dX2_grow_90 : decode cX2_grow 90 = .ok (.putfield 21, 3) := by decide +kernel
theorem dX2_grow_93 : decode cX2_grow 93 = .ok (.iload_n 2, 1) := by decide +kernel
theorem dX2_grow_94 : decode cX2_grow 94 = .ok (.ireturn, 1) := by decide +kernel
theorem dX2_copyFrom_0 : decode cX2_copyFrom 0 = .ok (.aload_n 1, 1) := by decide +kernel
theorem dX2_copyFrom_1 : decode cX2_copyFrom 1 = .ok (.getfield 9, 3) := by decide +kernel
theorem dX2_copyFrom_4 : decode cX2_copyFrom 4 = .ok (.iconst 0, 1) := by decide +kernel
theorem dX2_copyFrom_5 : decode cX2_copyFrom 5 = .ok (.aload_n 0, 1) := by decide +kernel
theorem dX2_copyFrom_6 : decode cX2_copyFrom 6 = .ok (.getfield 9, 3) := by decide +kernel
theorem dX2_copyFrom_9 : decode cX2_copyFrom 9 = .ok (.iconst 0, 1) := by decide +kernel
theorem dX2_copyFrom_10 : decode cX2_copyFrom 10 = .ok (.bipush 16, 2) := by decide +kernel
theorem dX2_copyFrom_12 : decode cX2_copyFrom 12 = .ok (.invokestatic 33, 3) := by decide +kernel
theorem dX2_copyFrom_15 : decode cX2_copyFrom 15 = .ok (.aload_n 1, 1) := by decide +kernel
theorem dX2_copyFrom_16 : decode cX2_copyFrom 16 = .ok (.getfield 15, 3) := by decide +kernel
theorem dX2_copyFrom_19 : decode cX2_copyFrom 19 = .ok (.iconst 0, 1) := by decide +kernel
theorem dX2_copyFrom_20 : decode cX2_copyFrom 20 = .ok (.aload_n 0, 1) := by decide +kernel
theorem dX2_copyFrom_21 : decode cX2_copyFrom 21 = .ok (.getfield 15, 3) := by decide +kernel
theorem dX2_copyFrom_24 : decode cX2_copyFrom 24 = .ok (.iconst 0, 1) := by decide +kernel
theorem dX2_copyFrom_25 : decode cX2_copyFrom 25 = .ok (.bipush 16, 2) := by decide +kernel
theorem dX2_copyFrom_27 : decode cX2_copyFrom 27 = .ok (.invokestatic 33, 3) := by decide +kernel
theorem dX2_copyFrom_30 : decode cX2_copyFrom 30 = .ok (.aload_n 1, 1) := by decide +kernel
theorem dX2_copyFrom_31 : decode cX2_copyFrom 31 = .ok (.getfield 18, 3) := by decide +kernel
theorem dX2_copyFrom_34 : decode cX2_copyFrom 34 = .ok (.iconst 0, 1) := by decide +kernel
theorem dX2_copyFrom_35 : decode cX2_copyFrom 35 = .ok (.aload_n 0, 1) := by decide +kernel
theorem dX2_copyFrom_36 : decode cX2_copyFrom 36 = .ok (.getfield 18, 3) := by decide +kernel
theorem dX2_copyFrom_39 : decode cX2_copyFrom 39 = .ok (.iconst 0, 1) := by decide +kernel
theorem dX2_copyFrom_40 : decode cX2_copyFrom 40 = .ok (.bipush 16, 2) := by decide +kernel
theorem dX2_copyFrom_42 : decode cX2_copyFrom 42 = .ok (.invokestatic 33, 3) := by decide +kernel
theorem dX2_copyFrom_45 : decode cX2_copyFrom 45 = .ok (.aload_n 0, 1) := by decide +kernel
theorem dX2_copyFrom_46 : decode cX2_copyFrom 46 = .ok (.aload_n 1, 1) := by decide +kernel
theorem dX2_copyFrom_47 : decode cX2_copyFrom 47 = .ok (.getfield 21, 3) := by decide +kernel
theorem dX2_copyFrom_50 : decode cX2_copyFrom 50 = .ok (.putfield 21, 3) := by decide +kernel
theorem dX2_copyFrom_53 : decode cX2_copyFrom 53 = .ok (.return_, 1) := by decide +kernel
theorem dX3_init_0 : decode cX3_init 0 = .ok (.aload_n 0, 1) := by decide +kernel
theorem dX3_init_1 : decode cX3_init 1 = .ok (.invokespecial 3, 3) := by decide +kernel
theorem dX3_init_4 : decode cX3_init 4 = .ok (.aload_n 0, 1) := by decide +kernel
theorem dX3_init_5 : decode cX3_init 5 = .ok (.iconst 5, 1) := by decide +kernel
theorem dX3_init_6 : decode cX3_init 6 = .ok (.anewarray 9, 3) := by decide +kernel
theorem dX3_init_9 : decode cX3_init 9 = .ok (.putfield 11, 3) := by decide +kernel
theorem dX3_init_12 : decode cX3_init 12 = .ok (.return_, 1) := by decide +kernel
theorem dX3_keep_0 : decode cX3_keep 0 = .ok (.aload_n 0, 1) := by decide +kernel
theorem dX3_keep_1 : decode cX3_keep 1 = .ok (.getfield 17, 3) := by decide +kernel
theorem dX3_keep_4 : decode cX3_keep 4 = .ok (.iconst 5, 1) := by decide +kernel
theorem dX3_keep_5 : decode cX3_keep 5 = .ok (.if_icmp .lt 7, 3) := by decide +kernel
theorem dX3_keep_8 : decode cX3_keep 8 = .ok (.aload_n 0, 1) := by decide +kernel
theorem dX3_keep_9 : decode cX3_keep 9 = .ok (.invokevirtual 21, 3) := by decide +kernel
theorem dX3_keep_12 : decode cX3_keep 12 = .ok (.aload_n 0, 1) := by decide +kernel
theorem dX3_keep_13 : decode cX3_keep 13 = .ok (.getfield 11, 3) := by decide +kernel
theorem dX3_keep_16 : decode cX3_keep 16 = .ok (.aload_n 0, 1) := by decide +kernel
theorem dX3_keep_17 : decode cX3_keep 17 = .ok (.getfield 17, 3) := by decide +kernel
theorem dX3_keep_20 : decode cX3_keep 20 = .ok (.aaload, 1) := by decide +kernel
theorem dX3_keep_21 : decode cX3_keep 21 = .ok (.astore_n 2, 1) := by decide +kernel
theorem dX3_keep_22 : decode cX3_keep 22 = .ok (.aload_n 2, 1) := by decide +kernel
theorem dX3_keep_23 : decode cX3_keep 23 = .ok (.ifnonnull 21, 3) := by decide +kernel
theorem dX3_keep_26 : decode cX3_keep 26 = .ok (.new 9, 3) := by decide +kernel
theorem dX3_keep_29 : decode cX3_keep 29 = .ok (.dup, 1) := by decide +kernel
theorem dX3_keep_30 : decode cX3_keep 30 = .ok (.invokespecial 24, 3) := by decide +kernel
theorem dX3_keep_33 : decode cX3_keep 33 = .ok (.astore_n 2, 1) := by decide +kernel
theorem dX3_keep_34 : decode cX3_keep 34 = .ok (.aload_n 0, 1) := by decide +kernel
theorem dX3_keep_35 : decode cX3_keep 35 = .ok (.getfield 11, 3) := by decide +kernel
theorem dX3_keep_38 : decode cX3_keep 38 = .ok (.aload_n 0, 1) := by decide +kernel
theorem dX3_keep_39 : decode cX3_keep 39 = .ok (.getfield 17, 3) := by decide +kernel
theorem dX3_keep_42 : decode cX3_keep 42 = .ok (.aload_n 2, 1) := by decide +kernel
theorem dX3_keep_43 : decode cX3_keep 43 = .ok (.aastore, 1) := by decide +kernel
theorem dX3_keep_44 : decode cX3_keep 44 = .ok (.aload_n 2, 1) := by decide +kernel
theorem dX3_keep_45 : decode cX3_keep 45 = .ok (.aload_n 1, 1) := by decide +kernel
theorem dX3_keep_46 : decode cX3_keep 46 = .ok (.invokevirtual 25, 3) := by decide +kernel
theorem dX3_keep_49 : decode cX3_keep 49 = .ok (.aload_n 0, 1) := by decide +kernel
theorem dX3_keep_50 : decode cX3_keep 50 = .ok (.dup, 1) := by decide +kernel
theorem dX3_keep_51 : decode cX3_keep 51 = .ok (.getfield 17, 3) := by decide +kernel
theorem dX3_keep_54 : decode cX3_keep 54 = .ok (.iconst 1, 1) := by decide +kernel
theorem dX3_keep_55 : decode cX3_keep 55 = .ok (.iadd, 1) := by decide +kernel
theorem dX3_keep_56 : decode cX3_keep 56 = .ok (.putfield 17, 3) := by decide +kernel
theorem dX3_keep_59 : decode cX3_keep 59 = .ok (.return_, 1) := by decide +kernel
theorem dX3_dropOldest_0 : decode cX3_dropOldest 0 = .ok (.aload_n 0, 1) := by decide +kernel
theorem dX3_dropOldest_1 : decode cX3_dropOldest 1 = .ok (.getfield 11, 3) := by decide +kernel
theorem dX3_dropOldest_4 : decode cX3_dropOldest 4 = .ok (.iconst 0, 1) := by decide +kernel
theorem dX3_dropOldest_5 : decode cX3_dropOldest 5 = .ok (.aaload, 1) := by decide +kernel
theorem dX3_dropOldest_6 : decode cX3_dropOldest 6 = .ok (.astore_n 1, 1) := by decide +kernel
theorem dX3_dropOldest_7 : decode cX3_dropOldest 7 = .ok (.iconst 1, 1) := by decide +kernel
theorem dX3_dropOldest_8 : decode cX3_dropOldest 8 = .ok (.istore_n 2, 1) := by decide +kernel
theorem dX3_dropOldest_9 : decode cX3_dropOldest 9 = .ok (.iload_n 2, 1) := by decide +kernel
theorem dX3_dropOldest_10 : decode cX3_dropOldest 10 = .ok (.iconst 5, 1) := by decide +kernel
theorem dX3_dropOldest_11 : decode cX3_dropOldest 11 = .ok (.if_icmp .ge 23, 3) := by decide +kernel
theorem dX3_dropOldest_14 : decode cX3_dropOldest 14 = .ok (.aload_n 0, 1) := by decide +kernel
theorem dX3_dropOldest_15 : decode cX3_dropOldest 15 = .ok (.getfield 11, 3) := by decide +kernel
theorem dX3_dropOldest_18 : decode cX3_dropOldest 18 = .ok (.iload_n 2, 1) := by decide +kernel
theorem dX3_dropOldest_19 : decode cX3_dropOldest 19 = .ok (.iconst 1, 1) := by decide +kernel
theorem dX3_dropOldest_20 : decode cX3_dropOldest 20 = .ok (.isub, 1) := by decide +kernel
theorem dX3_dropOldest_21 : decode cX3_dropOldest 21 = .ok (.aload_n 0, 1) := by decide +kernel
theorem dX3_dropOldest_22 : decode cX3_dropOldest 22 = .ok (.getfield 11, 3) := by decide +kernel
theorem dX3_dropOldest_25 : decode cX3_dropOldest 25 = .ok (.iload_n 2, 1) := by decide +kernel
theorem dX3_dropOldest_26 : decode cX3_dropOldest 26 = .ok (.aaload, 1) := by decide +kernel
theorem dX3_dropOldest_27 : decode cX3_dropOldest 27 = .ok (.aastore, 1) := by decide +kernel
theorem dX3_dropOldest_28 : decode cX3_dropOldest 28 = .ok (.iinc 2 1, 3) := by decide +kernel
theorem dX3_dropOldest_31 : decode cX3_dropOldest 31 = .ok (.goto (-22), 3) := by decide +kernel
theorem dX3_dropOldest_34 : decode cX3_dropOldest 34 = .ok (.aload_n 0, 1) := by decide +kernel
theorem dX3_dropOldest_35 : decode cX3_dropOldest 35 = .ok (.getfield 11, 3) := by decide +kernel
theorem dX3_dropOldest_38 : decode cX3_dropOldest 38 = .ok (.iconst 4, 1) := by decide +kernel
theorem dX3_dropOldest_39 : decode cX3_dropOldest 39 = .ok (.aload_n 1, 1) := by decide +kernel
theorem dX3_dropOldest_40 : decode cX3_dropOldest 40 = .ok (.aastore, 1) := by decide +kernel
theorem dX3_dropOldest_41 : decode cX3_dropOldest 41 = .ok (.aload_n 0, 1) := by decide +kernel
theorem dX3_dropOldest_42 : decode cX3_dropOldest 42 = .ok (.iconst 4, 1) := by decide +kernel
theorem dX3_dropOldest_43 : decode cX3_dropOldest 43 = .ok (.putfield 17, 3) := by decide +kernel
theorem dX3_dropOldest_46 : decode cX3_dropOldest 46 = .ok (.return_, 1) := by decide +kernel
theorem dX3_bringBack_0 : decode cX3_bringBack 0 = .ok (.aload_n 0, 1) := by decide +kernel
theorem dX3_bringBack_1 : decode cX3_bringBack 1 = .ok (.getfield 17, 3) := by decide +kernel
theorem dX3_bringBack_4 : decode cX3_bringBack 4 = .ok (.ifCond .le 40, 3) := by decide +kernel
theorem dX3_bringBack_7 : decode cX3_bringBack 7 = .ok (.aload_n 0, 1) := by decide +kernel
theorem dX3_bringBack_8 : decode cX3_bringBack 8 = .ok (.getfield 17, 3) := by decide +kernel
theorem dX3_bringBack_11 : decode cX3_bringBack 11 = .ok (.iconst 5, 1) := by decide +kernel
theorem dX3_bringBack_12 : decode cX3_bringBack 12 = .ok (.if_icmp .gt 32, 3) := by decide +kernel
theorem dX3_bringBack_15 : decode cX3_bringBack 15 = .ok (.aload_n 0, 1) := by decide +kernel
theorem dX3_bringBack_16 : decode cX3_bringBack 16 = .ok (.dup, 1) := by decide +kernel
theorem dX3_bringBack_17 : decode cX3_bringBack 17 = .ok (.getfield 17, 3) := by decide +kernel
theorem dX3_bringBack_20 : decode cX3_bringBack 20 = .ok (.iconst 1, 1) := by decide +kernel
theorem dX3_bringBack_21 : decode cX3_bringBack 21 = .ok (.isub, 1) := by decide +kernel
theorem dX3_bringBack_22 : decode cX3_bringBack 22 = .ok (.putfield 17, 3) := by decide +kernel
theorem dX3_bringBack_25 : decode cX3_bringBack 25 = .ok (.aload_n 0, 1) := by decide +kernel
theorem dX3_bringBack_26 : decode cX3_bringBack 26 = .ok (.getfield 11, 3) := by decide +kernel
theorem dX3_bringBack_29 : decode cX3_bringBack 29 = .ok (.aload_n 0, 1) := by decide +kernel
theorem dX3_bringBack_30 : decode cX3_bringBack 30 = .ok (.getfield 17, 3) := by decide +kernel
theorem dX3_bringBack_33 : decode cX3_bringBack 33 = .ok (.aaload, 1) := by decide +kernel
theorem dX3_bringBack_34 : decode cX3_bringBack 34 = .ok (.astore_n 2, 1) := by decide +kernel
theorem dX3_bringBack_35 : decode cX3_bringBack 35 = .ok (.aload_n 2, 1) := by decide +kernel
theorem dX3_bringBack_36 : decode cX3_bringBack 36 = .ok (.ifnull 8, 3) := by decide +kernel
theorem dX3_bringBack_39 : decode cX3_bringBack 39 = .ok (.aload_n 1, 1) := by decide +kernel
theorem dX3_bringBack_40 : decode cX3_bringBack 40 = .ok (.aload_n 2, 1) := by decide +kernel
theorem dX3_bringBack_41 : decode cX3_bringBack 41 = .ok (.invokevirtual 25, 3) := by decide +kernel
theorem dX3_bringBack_44 : decode cX3_bringBack 44 = .ok (.return_, 1) := by decide +kernel
theorem dX4_init_0 : decode cX4_init 0 = .ok (.aload_n 0, 1) := by decide +kernel
theorem dX4_init_1 : decode cX4_init 1 = .ok (.invokespecial 3, 3) := by decide +kernel
theorem dX4_init_4 : decode cX4_init 4 = .ok (.aload_n 0, 1) := by decide +kernel
theorem dX4_init_5 : decode cX4_init 5 = .ok (.bipush 40, 2) := by decide +kernel
theorem dX4_init_7 : decode cX4_init 7 = .ok (.newarray .long, 2) := by decide +kernel
theorem dX4_init_9 : decode cX4_init 9 = .ok (.putfield 9, 3) := by decide +kernel
theorem dX4_init_12 : decode cX4_init 12 = .ok (.aload_n 0, 1) := by decide +kernel
theorem dX4_init_13 : decode cX4_init 13 = .ok (.bipush 40, 2) := by decide +kernel
theorem dX4_init_15 : decode cX4_init 15 = .ok (.newarray .int, 2) := by decide +kernel
theorem dX4_init_17 : decode cX4_init 17 = .ok (.putfield 15, 3) := by decide +kernel
theorem dX4_init_20 : decode cX4_init 20 = .ok (.aload_n 0, 1) := by decide +kernel
theorem dX4_init_21 : decode cX4_init 21 = .ok (.bipush 40, 2) := by decide +kernel
theorem dX4_init_23 : decode cX4_init 23 = .ok (.newarray .int, 2) := by decide +kernel
theorem dX4_init_25 : decode cX4_init 25 = .ok (.putfield 19, 3) := by decide +kernel
theorem dX4_init_28 : decode cX4_init 28 = .ok (.aload_n 0, 1) := by decide +kernel
theorem dX4_init_29 : decode cX4_init 29 = .ok (.bipush 40, 2) := by decide +kernel
theorem dX4_init_31 : decode cX4_init 31 = .ok (.newarray .int, 2) := by decide +kernel
theorem dX4_init_33 : decode cX4_init 33 = .ok (.putfield 22, 3) := by decide +kernel
theorem dX4_init_36 : decode cX4_init 36 = .ok (.return_, 1) := by decide +kernel
theorem dX4_taskAt_0 : decode cX4_taskAt 0 = .ok (.lload_n 0, 1) := by decide +kernel
theorem dX4_taskAt_1 : decode cX4_taskAt 1 = .ok (.iconst 4, 1) := by decide +kernel
theorem dX4_taskAt_2 : decode cX4_taskAt 2 = .ok (.iload_n 2, 1) := by decide +kernel
theorem dX4_taskAt_3 : decode cX4_taskAt 3 = .ok (.imul, 1) := by decide +kernel
theorem dX4_taskAt_4 : decode cX4_taskAt 4 = .ok (.lushr, 1) := by decide +kernel
theorem dX4_taskAt_5 : decode cX4_taskAt 5 = .ok (.l2i, 1) := by decide +kernel
theorem dX4_taskAt_6 : decode cX4_taskAt 6 = .ok (.bipush 15, 2) := by decide +kernel
theorem dX4_taskAt_8 : decode cX4_taskAt 8 = .ok (.iand, 1) := by decide +kernel
theorem dX4_taskAt_9 : decode cX4_taskAt 9 = .ok (.ireturn, 1) := by decide +kernel
theorem dX4_extended_0 : decode cX4_extended 0 = .ok (.lload_n 0, 1) := by decide +kernel
theorem dX4_extended_1 : decode cX4_extended 1 = .ok (.iload_n 3, 1) := by decide +kernel
theorem dX4_extended_2 : decode cX4_extended 2 = .ok (.i2l, 1) := by decide +kernel
theorem dX4_extended_3 : decode cX4_extended 3 = .ok (.iconst 4, 1) := by decide +kernel
theorem dX4_extended_4 : decode cX4_extended 4 = .ok (.iload_n 2, 1) := by decide +kernel
theorem dX4_extended_5 : decode cX4_extended 5 = .ok (.imul, 1) := by decide +kernel
theorem dX4_extended_6 : decode cX4_extended 6 = .ok (.lshl, 1) := by decide +kernel
theorem dX4_extended_7 : decode cX4_extended 7 = .ok (.lor, 1) := by decide +kernel
theorem dX4_extended_8 : decode cX4_extended 8 = .ok (.lreturn, 1) := by decide +kernel
theorem dX4_members_0 : decode cX4_members 0 = .ok (.iconst 0, 1) := by decide +kernel
theorem dX4_members_1 : decode cX4_members 1 = .ok (.istore_n 3, 1) := by decide +kernel
theorem dX4_members_2 : decode cX4_members 2 = .ok (.iconst 0, 1) := by decide +kernel
theorem dX4_members_3 : decode cX4_members 3 = .ok (.istore 4, 2) := by decide +kernel
theorem dX4_members_5 : decode cX4_members 5 = .ok (.iload 4, 2) := by decide +kernel
theorem dX4_members_7 : decode cX4_members 7 = .ok (.iload_n 2, 1) := by decide +kernel
theorem dX4_members_8 : decode cX4_members 8 = .ok (.if_icmp .ge 20, 3) := by decide +kernel
theorem dX4_members_11 : decode cX4_members 11 = .ok (.iload_n 3, 1) := by decide +kernel
theorem dX4_members_12 : decode cX4_members 12 = .ok (.iconst 1, 1) := by decide +kernel
theorem dX4_members_13 : decode cX4_members 13 = .ok (.lload_n 0, 1) := by decide +kernel
theorem dX4_members_14 : decode cX4_members 14 = .ok (.iload 4, 2) := by decide +kernel
theorem dX4_members_16 : decode cX4_members 16 = .ok (.invokestatic 25, 3) := by decide +kernel
theorem dX4_members_19 : decode cX4_members 19 = .ok (.ishl, 1) := by decide +kernel
theorem dX4_members_20 : decode cX4_members 20 = .ok (.ior, 1) := by decide +kernel
theorem dX4_members_21 : decode cX4_members 21 = .ok (.istore_n 3, 1) := by decide +kernel
theorem dX4_members_22 : decode cX4_members 22 = .ok (.iinc 4 1, 3) := by decide +kernel
theorem dX4_members_25 : decode cX4_members 25 = .ok (.goto (-20), 3) := by decide +kernel
theorem dX4_members_28 : decode cX4_members 28 = .ok (.iload_n 3, 1) := by decide +kernel
theorem dX4_members_29 : decode cX4_members 29 = .ok (.ireturn, 1) := by decide +kernel
theorem dX4_rowOf_0 : decode cX4_rowOf 0 = .ok (.aload_n 0, 1) := by decide +kernel
theorem dX4_rowOf_1 : decode cX4_rowOf 1 = .ok (.getfield 29, 3) := by decide +kernel
theorem dX4_rowOf_4 : decode cX4_rowOf 4 = .ok (.iload_n 1, 1) := by decide +kernel
theorem dX4_rowOf_5 : decode cX4_rowOf 5 = .ok (.iadd, 1) := by decide +kernel
theorem dX4_rowOf_6 : decode cX4_rowOf 6 = .ok (.bipush 40, 2) := by decide +kernel
theorem dX4_rowOf_8 : decode cX4_rowOf 8 = .ok (.irem, 1) := by decide +kernel
theorem dX4_rowOf_9 : decode cX4_rowOf 9 = .ok (.ireturn, 1) := by decide +kernel
theorem dX4_send_0 : decode cX4_send 0 = .ok (.aload_n 0, 1) := by decide +kernel
theorem dX4_send_1 : decode cX4_send 1 = .ok (.getfield 33, 3) := by decide +kernel
theorem dX4_send_4 : decode cX4_send 4 = .ok (.bipush 40, 2) := by decide +kernel
theorem dX4_send_6 : decode cX4_send 6 = .ok (.if_icmp .lt 5, 3) := by decide +kernel
theorem dX4_send_9 : decode cX4_send 9 = .ok (.iconst 0, 1) := by decide +kernel
theorem dX4_send_10 : decode cX4_send 10 = .ok (.ireturn, 1) := by decide +kernel
theorem dX4_send_11 : decode cX4_send 11 = .ok (.aload_n 0, 1) := by decide +kernel
theorem dX4_send_12 : decode cX4_send 12 = .ok (.aload_n 0, 1) := by decide +kernel
theorem dX4_send_13 : decode cX4_send 13 = .ok (.getfield 33, 3) := by decide +kernel
theorem dX4_send_16 : decode cX4_send 16 = .ok (.invokevirtual 36, 3) := by decide +kernel
theorem dX4_send_19 : decode cX4_send 19 = .ok (.istore 6, 2) := by decide +kernel
theorem dX4_send_21 : decode cX4_send 21 = .ok (.aload_n 0, 1) := by decide +kernel
theorem dX4_send_22 : decode cX4_send 22 = .ok (.getfield 9, 3) := by decide +kernel
theorem dX4_send_25 : decode cX4_send 25 = .ok (.iload 6, 2) := by decide +kernel
theorem dX4_send_27 : decode cX4_send 27 = .ok (.lload_n 1, 1) := by decide +kernel
theorem dX4_send_28 : decode cX4_send 28 = .ok (.lastore, 1) := by decide +kernel
theorem dX4_send_29 : decode cX4_send 29 = .ok (.aload_n 0, 1) := by decide +kernel
theorem dX4_send_30 : decode cX4_send 30 = .ok (.getfield 15, 3) := by decide +kernel
theorem dX4_send_33 : decode cX4_send 33 = .ok (.iload 6, 2) := by decide +kernel
theorem dX4_send_35 : decode cX4_send 35 = .ok (.iload_n 3, 1) := by decide +kernel
theorem dX4_send_36 : decode cX4_send 36 = .ok (.iastore, 1) := by decide +kernel
theorem dX4_send_37 : decode cX4_send 37 = .ok (.aload_n 0, 1) := by decide +kernel
theorem dX4_send_38 : decode cX4_send 38 = .ok (.getfield 19, 3) := by decide +kernel
theorem dX4_send_41 : decode cX4_send 41 = .ok (.iload 6, 2) := by decide +kernel
theorem dX4_send_43 : decode cX4_send 43 = .ok (.iload 4, 2) := by decide +kernel
theorem dX4_send_45 : decode cX4_send 45 = .ok (.iastore, 1) := by decide +kernel
theorem dX4_send_46 : decode cX4_send 46 = .ok (.aload_n 0, 1) := by decide +kernel
theorem dX4_send_47 : decode cX4_send 47 = .ok (.getfield 22, 3) := by decide +kernel
theorem dX4_send_50 : decode cX4_send 50 = .ok (.iload 6, 2) := by decide +kernel
theorem dX4_send_52 : decode cX4_send 52 = .ok (.iload 5, 2) := by decide +kernel
theorem dX4_send_54 : decode cX4_send 54 = .ok (.iastore, 1) := by decide +kernel
theorem dX4_send_55 : decode cX4_send 55 = .ok (.aload_n 0, 1) := by decide +kernel
theorem dX4_send_56 : decode cX4_send 56 = .ok (.dup, 1) := by decide +kernel
theorem dX4_send_57 : decode cX4_send 57 = .ok (.getfield 33, 3) := by decide +kernel
theorem dX4_send_60 : decode cX4_send 60 = .ok (.iconst 1, 1) := by decide +kernel
theorem dX4_send_61 : decode cX4_send 61 = .ok (.iadd, 1) := by decide +kernel
theorem dX4_send_62 : decode cX4_send 62 = .ok (.putfield 33, 3) := by decide +kernel
theorem dX4_send_65 : decode cX4_send 65 = .ok (.iconst 1, 1) := by decide +kernel
theorem dX4_send_66 : decode cX4_send 66 = .ok (.ireturn, 1) := by decide +kernel
theorem dX4_dropFirst_0 : decode cX4_dropFirst 0 = .ok (.aload_n 0, 1) := by decide +kernel
theorem dX4_dropFirst_1 : decode cX4_dropFirst 1 = .ok (.getfield 33, 3) := by decide +kernel
theorem dX4_dropFirst_4 : decode cX4_dropFirst 4 = .ok (.ifCond .le 22, 3) := by decide +kernel
theorem dX4_dropFirst_7 : decode cX4_dropFirst 7 = .ok (.aload_n 0, 1) := by decide +kernel
theorem dX4_dropFirst_8 : decode cX4_dropFirst 8 = .ok (.aload_n 0, 1) := by decide +kernel
theorem dX4_dropFirst_9 : decode cX4_dropFirst 9 = .ok (.iconst 1, 1) := by decide +kernel
theorem dX4_dropFirst_10 : decode cX4_dropFirst 10 = .ok (.invokevirtual 36, 3) := by decide +kernel
theorem dX4_dropFirst_13 : decode cX4_dropFirst 13 = .ok (.putfield 29, 3) := by decide +kernel
theorem dX4_dropFirst_16 : decode cX4_dropFirst 16 = .ok (.aload_n 0, 1) := by decide +kernel
theorem dX4_dropFirst_17 : decode cX4_dropFirst 17 = .ok (.dup, 1) := by decide +kernel
theorem dX4_dropFirst_18 : decode cX4_dropFirst 18 = .ok (.getfield 33, 3) := by decide +kernel
theorem dX4_dropFirst_21 : decode cX4_dropFirst 21 = .ok (.iconst 1, 1) := by decide +kernel
theorem dX4_dropFirst_22 : decode cX4_dropFirst 22 = .ok (.isub, 1) := by decide +kernel
theorem dX4_dropFirst_23 : decode cX4_dropFirst 23 = .ok (.putfield 33, 3) := by decide +kernel
theorem dX4_dropFirst_26 : decode cX4_dropFirst 26 = .ok (.return_, 1) := by decide +kernel
theorem dX4_property_0 : decode cX4_property 0 = .ok (.iload_n 1, 1) := by decide +kernel
theorem dX4_property_1 : decode cX4_property 1 = .ok (.ifCond .lt 11, 3) := by decide +kernel
theorem dX4_property_4 : decode cX4_property 4 = .ok (.iload_n 1, 1) := by decide +kernel
theorem dX4_property_5 : decode cX4_property 5 = .ok (.aload_n 0, 1) := by decide +kernel
theorem dX4_property_6 : decode cX4_property 6 = .ok (.getfield 33, 3) := by decide +kernel
theorem dX4_property_9 : decode cX4_property 9 = .ok (.if_icmp .lt 5, 3) := by decide +kernel
theorem dX4_property_12 : decode cX4_property 12 = .ok (.iconst (-1), 1) := by decide +kernel
theorem dX4_property_13 : decode cX4_property 13 = .ok (.ireturn, 1) := by decide +kernel
theorem dX4_property_14 : decode cX4_property 14 = .ok (.aload_n 0, 1) := by decide +kernel
theorem dX4_property_15 : decode cX4_property 15 = .ok (.iload_n 1, 1) := by decide +kernel
theorem dX4_property_16 : decode cX4_property 16 = .ok (.invokevirtual 36, 3) := by decide +kernel
theorem dX4_property_19 : decode cX4_property 19 = .ok (.istore_n 3, 1) := by decide +kernel
theorem dX4_property_20 : decode cX4_property 20 = .ok (.iload_n 2, 1) := by decide +kernel
theorem dX4_property_21 : decode cX4_property 21 = .ok (.tableswitch 63 0 3 #[31, 42, 49, 56], 31) := by decide +kernel
theorem dX4_property_52 : decode cX4_property 52 = .ok (.aload_n 0, 1) := by decide +kernel
theorem dX4_property_53 : decode cX4_property 53 = .ok (.getfield 9, 3) := by decide +kernel
theorem dX4_property_56 : decode cX4_property 56 = .ok (.iload_n 3, 1) := by decide +kernel
theorem dX4_property_57 : decode cX4_property 57 = .ok (.laload, 1) := by decide +kernel
theorem dX4_property_58 : decode cX4_property 58 = .ok (.iconst 0, 1) := by decide +kernel
theorem dX4_property_59 : decode cX4_property 59 = .ok (.invokestatic 25, 3) := by decide +kernel
theorem dX4_property_62 : decode cX4_property 62 = .ok (.ireturn, 1) := by decide +kernel
theorem dX4_property_63 : decode cX4_property 63 = .ok (.aload_n 0, 1) := by decide +kernel
theorem dX4_property_64 : decode cX4_property 64 = .ok (.getfield 19, 3) := by decide +kernel
theorem dX4_property_67 : decode cX4_property 67 = .ok (.iload_n 3, 1) := by decide +kernel
theorem dX4_property_68 : decode cX4_property 68 = .ok (.iaload, 1) := by decide +kernel
theorem dX4_property_69 : decode cX4_property 69 = .ok (.ireturn, 1) := by decide +kernel
theorem dX4_property_70 : decode cX4_property 70 = .ok (.aload_n 0, 1) := by decide +kernel
theorem dX4_property_71 : decode cX4_property 71 = .ok (.getfield 22, 3) := by decide +kernel
theorem dX4_property_74 : decode cX4_property 74 = .ok (.iload_n 3, 1) := by decide +kernel
theorem dX4_property_75 : decode cX4_property 75 = .ok (.iaload, 1) := by decide +kernel
theorem dX4_property_76 : decode cX4_property 76 = .ok (.ireturn, 1) := by decide +kernel
theorem dX4_property_77 : decode cX4_property 77 = .ok (.aload_n 0, 1) := by decide +kernel
theorem dX4_property_78 : decode cX4_property 78 = .ok (.getfield 15, 3) := by decide +kernel
theorem dX4_property_81 : decode cX4_property 81 = .ok (.iload_n 3, 1) := by decide +kernel
theorem dX4_property_82 : decode cX4_property 82 = .ok (.iaload, 1) := by decide +kernel
theorem dX4_property_83 : decode cX4_property 83 = .ok (.ireturn, 1) := by decide +kernel
theorem dX4_property_84 : decode cX4_property 84 = .ok (.aload_n 0, 1) := by decide +kernel
theorem dX4_property_85 : decode cX4_property 85 = .ok (.getfield 9, 3) := by decide +kernel
theorem dX4_property_88 : decode cX4_property 88 = .ok (.iload_n 3, 1) := by decide +kernel
theorem dX4_property_89 : decode cX4_property 89 = .ok (.laload, 1) := by decide +kernel
theorem dX4_property_90 : decode cX4_property 90 = .ok (.aload_n 0, 1) := by decide +kernel
theorem dX4_property_91 : decode cX4_property 91 = .ok (.getfield 15, 3) := by decide +kernel
theorem dX4_property_94 : decode cX4_property 94 = .ok (.iload_n 3, 1) := by decide +kernel
theorem dX4_property_95 : decode cX4_property 95 = .ok (.iaload, 1) := by decide +kernel
theorem dX4_property_96 : decode cX4_property 96 = .ok (.invokestatic 40, 3) := by decide +kernel
theorem dX4_property_99 : decode cX4_property 99 = .ok (.ireturn, 1) := by decide +kernel
theorem dX4_copyFrom_0 : decode cX4_copyFrom 0 = .ok (.aload_n 1, 1) := by decide +kernel
theorem dX4_copyFrom_1 : decode cX4_copyFrom 1 = .ok (.getfield 9, 3) := by decide +kernel
theorem dX4_copyFrom_4 : decode cX4_copyFrom 4 = .ok (.iconst 0, 1) := by decide +kernel
theorem dX4_copyFrom_5 : decode cX4_copyFrom 5 = .ok (.aload_n 0, 1) := by decide +kernel
theorem dX4_copyFrom_6 : decode cX4_copyFrom 6 = .ok (.getfield 9, 3) := by decide +kernel
theorem dX4_copyFrom_9 : decode cX4_copyFrom 9 = .ok (.iconst 0, 1) := by decide +kernel
theorem dX4_copyFrom_10 : decode cX4_copyFrom 10 = .ok (.bipush 40, 2) := by decide +kernel
theorem dX4_copyFrom_12 : decode cX4_copyFrom 12 = .ok (.invokestatic 43, 3) := by decide +kernel
theorem dX4_copyFrom_15 : decode cX4_copyFrom 15 = .ok (.aload_n 1, 1) := by decide +kernel
theorem dX4_copyFrom_16 : decode cX4_copyFrom 16 = .ok (.getfield 15, 3) := by decide +kernel
theorem dX4_copyFrom_19 : decode cX4_copyFrom 19 = .ok (.iconst 0, 1) := by decide +kernel
theorem dX4_copyFrom_20 : decode cX4_copyFrom 20 = .ok (.aload_n 0, 1) := by decide +kernel
theorem dX4_copyFrom_21 : decode cX4_copyFrom 21 = .ok (.getfield 15, 3) := by decide +kernel
theorem dX4_copyFrom_24 : decode cX4_copyFrom 24 = .ok (.iconst 0, 1) := by decide +kernel
theorem dX4_copyFrom_25 : decode cX4_copyFrom 25 = .ok (.bipush 40, 2) := by decide +kernel
theorem dX4_copyFrom_27 : decode cX4_copyFrom 27 = .ok (.invokestatic 43, 3) := by decide +kernel
theorem dX4_copyFrom_30 : decode cX4_copyFrom 30 = .ok (.aload_n 1, 1) := by decide +kernel
theorem dX4_copyFrom_31 : decode cX4_copyFrom 31 = .ok (.getfield 19, 3) := by decide +kernel
theorem dX4_copyFrom_34 : decode cX4_copyFrom 34 = .ok (.iconst 0, 1) := by decide +kernel
theorem dX4_copyFrom_35 : decode cX4_copyFrom 35 = .ok (.aload_n 0, 1) := by decide +kernel
theorem dX4_copyFrom_36 : decode cX4_copyFrom 36 = .ok (.getfield 19, 3) := by decide +kernel
theorem dX4_copyFrom_39 : decode cX4_copyFrom 39 = .ok (.iconst 0, 1) := by decide +kernel
theorem dX4_copyFrom_40 : decode cX4_copyFrom 40 = .ok (.bipush 40, 2) := by decide +kernel
theorem dX4_copyFrom_42 : decode cX4_copyFrom 42 = .ok (.invokestatic 43, 3) := by decide +kernel
theorem dX4_copyFrom_45 : decode cX4_copyFrom 45 = .ok (.aload_n 1, 1) := by decide +kernel
theorem dX4_copyFrom_46 : decode cX4_copyFrom 46 = .ok (.getfield 22, 3) := by decide +kernel
theorem dX4_copyFrom_49 : decode cX4_copyFrom 49 = .ok (.iconst 0, 1) := by decide +kernel
theorem dX4_copyFrom_50 : decode cX4_copyFrom 50 = .ok (.aload_n 0, 1) := by decide +kernel
theorem dX4_copyFrom_51 : decode cX4_copyFrom 51 = .ok (.getfield 22, 3) := by decide +kernel
theorem dX4_copyFrom_54 : decode cX4_copyFrom 54 = .ok (.iconst 0, 1) := by decide +kernel
theorem dX4_copyFrom_55 : decode cX4_copyFrom 55 = .ok (.bipush 40, 2) := by decide +kernel
theorem dX4_copyFrom_57 : decode cX4_copyFrom 57 = .ok (.invokestatic 43, 3) := by decide +kernel
theorem dX4_copyFrom_60 : decode cX4_copyFrom 60 = .ok (.aload_n 0, 1) := by decide +kernel
theorem dX4_copyFrom_61 : decode cX4_copyFrom 61 = .ok (.aload_n 1, 1) := by decide +kernel
theorem dX4_copyFrom_62 : decode cX4_copyFrom 62 = .ok (.getfield 29, 3) := by decide +kernel
theorem dX4_copyFrom_65 : decode cX4_copyFrom 65 = .ok (.putfield 29, 3) := by decide +kernel
theorem dX4_copyFrom_68 : decode cX4_copyFrom 68 = .ok (.aload_n 0, 1) := by decide +kernel
theorem dX4_copyFrom_69 : decode cX4_copyFrom 69 = .ok (.aload_n 1, 1) := by decide +kernel
theorem dX4_copyFrom_70 : decode cX4_copyFrom 70 = .ok (.getfield 33, 3) := by decide +kernel
theorem dX4_copyFrom_73 : decode cX4_copyFrom 73 = .ok (.putfield 33, 3) := by decide +kernel
theorem dX4_copyFrom_76 : decode cX4_copyFrom 76 = .ok (.return_, 1) := by decide +kernel
theorem dX5_init_0 : decode cX5_init 0 = .ok (.aload_n 0, 1) := by decide +kernel
theorem dX5_init_1 : decode cX5_init 1 = .ok (.invokespecial 3, 3) := by decide +kernel
theorem dX5_init_4 : decode cX5_init 4 = .ok (.aload_n 0, 1) := by decide +kernel
theorem dX5_init_5 : decode cX5_init 5 = .ok (.bipush 120, 2) := by decide +kernel
theorem dX5_init_7 : decode cX5_init 7 = .ok (.newarray .char, 2) := by decide +kernel
theorem dX5_init_9 : decode cX5_init 9 = .ok (.putfield 9, 3) := by decide +kernel
theorem dX5_init_12 : decode cX5_init 12 = .ok (.return_, 1) := by decide +kernel
theorem dX5_append_0 : decode cX5_append 0 = .ok (.aload_n 0, 1) := by decide +kernel
theorem dX5_append_1 : decode cX5_append 1 = .ok (.getfield 15, 3) := by decide +kernel
theorem dX5_append_4 : decode cX5_append 4 = .ok (.bipush 120, 2) := by decide +kernel
theorem dX5_append_6 : decode cX5_append 6 = .ok (.if_icmp .ge 24, 3) := by decide +kernel
theorem dX5_append_9 : decode cX5_append 9 = .ok (.aload_n 0, 1) := by decide +kernel
theorem dX5_append_10 : decode cX5_append 10 = .ok (.getfield 9, 3) := by decide +kernel
theorem dX5_append_13 : decode cX5_append 13 = .ok (.aload_n 0, 1) := by decide +kernel
theorem dX5_append_14 : decode cX5_append 14 = .ok (.getfield 15, 3) := by decide +kernel
theorem dX5_append_17 : decode cX5_append 17 = .ok (.iload_n 1, 1) := by decide +kernel
theorem dX5_append_18 : decode cX5_append 18 = .ok (.i2c, 1) := by decide +kernel
theorem dX5_append_19 : decode cX5_append 19 = .ok (.castore, 1) := by decide +kernel
theorem dX5_append_20 : decode cX5_append 20 = .ok (.aload_n 0, 1) := by decide +kernel
theorem dX5_append_21 : decode cX5_append 21 = .ok (.dup, 1) := by decide +kernel
theorem dX5_append_22 : decode cX5_append 22 = .ok (.getfield 15, 3) := by decide +kernel
theorem dX5_append_25 : decode cX5_append 25 = .ok (.iconst 1, 1) := by decide +kernel
theorem dX5_append_26 : decode cX5_append 26 = .ok (.iadd, 1) := by decide +kernel
theorem dX5_append_27 : decode cX5_append 27 = .ok (.putfield 15, 3) := by decide +kernel
theorem dX5_append_30 : decode cX5_append 30 = .ok (.aload_n 0, 1) := by decide +kernel
theorem dX5_append_31 : decode cX5_append 31 = .ok (.getfield 15, 3) := by decide +kernel
theorem dX5_append_34 : decode cX5_append 34 = .ok (.ireturn, 1) := by decide +kernel
theorem dX5_numbersAfter_0 : decode cX5_numbersAfter 0 = .ok (.iload_n 0, 1) := by decide +kernel
theorem dX5_numbersAfter_1 : decode cX5_numbersAfter 1 = .ok (.tableswitch 99 97 116 #[97, 97, 99, 97, 99, 97, 99, 99, 99, 99, 99, 95, 99, 99, 99, 97, 95, 99, 99, 97], 95) := by decide +kernel
theorem dX5_numbersAfter_96 : decode cX5_numbersAfter 96 = .ok (.iconst 2, 1) := by decide +kernel
theorem dX5_numbersAfter_97 : decode cX5_numbersAfter 97 = .ok (.ireturn, 1) := by decide +kernel
theorem dX5_numbersAfter_98 : decode cX5_numbersAfter 98 = .ok (.iconst 1, 1) := by decide +kernel
theorem dX5_numbersAfter_99 : decode cX5_numbersAfter 99 = .ok (.ireturn, 1) := by decide +kernel
theorem dX5_numbersAfter_100 : decode cX5_numbersAfter 100 = .ok (.iconst 0, 1) := by decide +kernel
theorem dX5_numbersAfter_101 : decode cX5_numbersAfter 101 = .ok (.ireturn, 1) := by decide +kernel
theorem dX5_firstFault_0 : decode cX5_firstFault 0 = .ok (.iconst 0, 1) := by decide +kernel
theorem dX5_firstFault_1 : decode cX5_firstFault 1 = .ok (.istore_n 1, 1) := by decide +kernel
theorem dX5_firstFault_2 : decode cX5_firstFault 2 = .ok (.iconst 0, 1) := by decide +kernel
theorem dX5_firstFault_3 : decode cX5_firstFault 3 = .ok (.istore_n 2, 1) := by decide +kernel
theorem dX5_firstFault_4 : decode cX5_firstFault 4 = .ok (.iconst 0, 1) := by decide +kernel
theorem dX5_firstFault_5 : decode cX5_firstFault 5 = .ok (.istore_n 3, 1) := by decide +kernel
theorem dX5_firstFault_6 : decode cX5_firstFault 6 = .ok (.iload_n 3, 1) := by decide +kernel
theorem dX5_firstFault_7 : decode cX5_firstFault 7 = .ok (.aload_n 0, 1) := by decide +kernel
theorem dX5_firstFault_8 : decode cX5_firstFault 8 = .ok (.getfield 15, 3) := by decide +kernel
theorem dX5_firstFault_11 : decode cX5_firstFault 11 = .ok (.if_icmp .ge 87, 3) := by decide +kernel
theorem dX5_firstFault_14 : decode cX5_firstFault 14 = .ok (.iload_n 3, 1) := by decide +kernel
theorem dX5_firstFault_15 : decode cX5_firstFault 15 = .ok (.bipush 120, 2) := by decide +kernel
theorem dX5_firstFault_17 : decode cX5_firstFault 17 = .ok (.if_icmp .ge 81, 3) := by decide +kernel
theorem dX5_firstFault_20 : decode cX5_firstFault 20 = .ok (.aload_n 0, 1) := by decide +kernel
theorem dX5_firstFault_21 : decode cX5_firstFault 21 = .ok (.getfield 9, 3) := by decide +kernel
theorem dX5_firstFault_24 : decode cX5_firstFault 24 = .ok (.iload_n 3, 1) := by decide +kernel
theorem dX5_firstFault_25 : decode cX5_firstFault 25 = .ok (.caload, 1) := by decide +kernel
theorem dX5_firstFault_26 : decode cX5_firstFault 26 = .ok (.istore 4, 2) := by decide +kernel
theorem dX5_firstFault_28 : decode cX5_firstFault 28 = .ok (.iload_n 1, 1) := by decide +kernel
theorem dX5_firstFault_29 : decode cX5_firstFault 29 = .ok (.ifCond .ne 17, 3) := by decide +kernel
theorem dX5_firstFault_32 : decode cX5_firstFault 32 = .ok (.iload 4, 2) := by decide +kernel
theorem dX5_firstFault_34 : decode cX5_firstFault 34 = .ok (.invokestatic 19, 3) := by decide +kernel
theorem dX5_firstFault_37 : decode cX5_firstFault 37 = .ok (.istore_n 1, 1) := by decide +kernel
theorem dX5_firstFault_38 : decode cX5_firstFault 38 = .ok (.iconst 0, 1) := by decide +kernel
theorem dX5_firstFault_39 : decode cX5_firstFault 39 = .ok (.istore_n 2, 1) := by decide +kernel
theorem dX5_firstFault_40 : decode cX5_firstFault 40 = .ok (.iload_n 1, 1) := by decide +kernel
theorem dX5_firstFault_41 : decode cX5_firstFault 41 = .ok (.ifCond .ne 51, 3) := by decide +kernel
theorem dX5_firstFault_44 : decode cX5_firstFault 44 = .ok (.iload_n 3, 1) := by decide +kernel
theorem dX5_firstFault_45 : decode cX5_firstFault 45 = .ok (.ireturn, 1) := by decide +kernel
theorem dX5_firstFault_46 : decode cX5_firstFault 46 = .ok (.iload 4, 2) := by decide +kernel
theorem dX5_firstFault_48 : decode cX5_firstFault 48 = .ok (.invokestatic 23, 3) := by decide +kernel
theorem dX5_firstFault_51 : decode cX5_firstFault 51 = .ok (.ifCond .eq 13, 3) := by decide +kernel
theorem dX5_firstFault_54 : decode cX5_firstFault 54 = .ok (.iinc 2 1, 3) := by decide +kernel
theorem dX5_firstFault_57 : decode cX5_firstFault 57 = .ok (.iload_n 2, 1) := by decide +kernel
theorem dX5_firstFault_58 : decode cX5_firstFault 58 = .ok (.iconst 2, 1) := by decide +kernel
theorem dX5_firstFault_59 : decode cX5_firstFault 59 = .ok (.if_icmp .le 33, 3) := by decide +kernel
theorem dX5_firstFault_62 : decode cX5_firstFault 62 = .ok (.iload_n 3, 1) := by decide +kernel
theorem dX5_firstFault_63 : decode cX5_firstFault 63 = .ok (.ireturn, 1) := by decide +kernel
theorem dX5_firstFault_64 : decode cX5_firstFault 64 = .ok (.iload_n 2, 1) := by decide +kernel
theorem dX5_firstFault_65 : decode cX5_firstFault 65 = .ok (.ifCond .eq 20, 3) := by decide +kernel
theorem dX5_firstFault_68 : decode cX5_firstFault 68 = .ok (.iload 4, 2) := by decide +kernel
theorem dX5_firstFault_70 : decode cX5_firstFault 70 = .ok (.iload_n 1, 1) := by decide +kernel
theorem dX5_firstFault_71 : decode cX5_firstFault 71 = .ok (.iconst 1, 1) := by decide +kernel
theorem dX5_firstFault_72 : decode cX5_firstFault 72 = .ok (.if_icmp .le 8, 3) := by decide +kernel
theorem dX5_firstFault_75 : decode cX5_firstFault 75 = .ok (.bipush 44, 2) := by decide +kernel
theorem dX5_firstFault_77 : decode cX5_firstFault 77 = .ok (.goto 5, 3) := by decide +kernel
theorem dX5_firstFault_80 : decode cX5_firstFault 80 = .ok (.bipush 59, 2) := by decide +kernel
theorem dX5_firstFault_82 : decode cX5_firstFault 82 = .ok (.if_icmp .eq 5, 3) := by decide +kernel
theorem dX5_firstFault_85 : decode cX5_firstFault 85 = .ok (.iload_n 3, 1) := by decide +kernel
theorem dX5_firstFault_86 : decode cX5_firstFault 86 = .ok (.ireturn, 1) := by decide +kernel
theorem dX5_firstFault_87 : decode cX5_firstFault 87 = .ok (.iinc 1 (-1), 3) := by decide +kernel
theorem dX5_firstFault_90 : decode cX5_firstFault 90 = .ok (.iconst 0, 1) := by decide +kernel
theorem dX5_firstFault_91 : decode cX5_firstFault 91 = .ok (.istore_n 2, 1) := by decide +kernel
theorem dX5_firstFault_92 : decode cX5_firstFault 92 = .ok (.iinc 3 1, 3) := by decide +kernel
theorem dX5_firstFault_95 : decode cX5_firstFault 95 = .ok (.goto (-89), 3) := by decide +kernel
theorem dX5_firstFault_98 : decode cX5_firstFault 98 = .ok (.iload_n 1, 1) := by decide +kernel
theorem dX5_firstFault_99 : decode cX5_firstFault 99 = .ok (.ifCond .ne 7, 3) := by decide +kernel
theorem dX5_firstFault_102 : decode cX5_firstFault 102 = .ok (.iconst (-1), 1) := by decide +kernel
theorem dX5_firstFault_103 : decode cX5_firstFault 103 = .ok (.goto 7, 3) := by decide +kernel
theorem dX5_firstFault_106 : decode cX5_firstFault 106 = .ok (.aload_n 0, 1) := by decide +kernel
theorem dX5_firstFault_107 : decode cX5_firstFault 107 = .ok (.getfield 15, 3) := by decide +kernel
theorem dX5_firstFault_110 : decode cX5_firstFault 110 = .ok (.ireturn, 1) := by decide +kernel
theorem dX6_init_0 : decode cX6_init 0 = .ok (.aload_n 0, 1) := by decide +kernel
theorem dX6_init_1 : decode cX6_init 1 = .ok (.invokespecial 3, 3) := by decide +kernel
theorem dX6_init_4 : decode cX6_init 4 = .ok (.aload_n 0, 1) := by decide +kernel
theorem dX6_init_5 : decode cX6_init 5 = .ok (.bipush 8, 2) := by decide +kernel
theorem dX6_init_7 : decode cX6_init 7 = .ok (.newarray .int, 2) := by decide +kernel
theorem dX6_init_9 : decode cX6_init 9 = .ok (.putfield 9, 3) := by decide +kernel
theorem dX6_init_12 : decode cX6_init 12 = .ok (.aload_n 0, 1) := by decide +kernel
theorem dX6_init_13 : decode cX6_init 13 = .ok (.iconst (-1), 1) := by decide +kernel
theorem dX6_init_14 : decode cX6_init 14 = .ok (.putfield 15, 3) := by decide +kernel
theorem dX6_init_17 : decode cX6_init 17 = .ok (.aload_n 0, 1) := by decide +kernel
theorem dX6_init_18 : decode cX6_init 18 = .ok (.iconst (-1), 1) := by decide +kernel
theorem dX6_init_19 : decode cX6_init 19 = .ok (.putfield 19, 3) := by decide +kernel
theorem dX6_init_22 : decode cX6_init 22 = .ok (.aload_n 0, 1) := by decide +kernel
theorem dX6_init_23 : decode cX6_init 23 = .ok (.iconst (-1), 1) := by decide +kernel
theorem dX6_init_24 : decode cX6_init 24 = .ok (.putfield 22, 3) := by decide +kernel
theorem dX6_init_27 : decode cX6_init 27 = .ok (.return_, 1) := by decide +kernel
theorem dX6_add_0 : decode cX6_add 0 = .ok (.iload_n 1, 1) := by decide +kernel
theorem dX6_add_1 : decode cX6_add 1 = .ok (.ifCond .lt 19, 3) := by decide +kernel
theorem dX6_add_4 : decode cX6_add 4 = .ok (.iload_n 1, 1) := by decide +kernel
theorem dX6_add_5 : decode cX6_add 5 = .ok (.bipush 8, 2) := by decide +kernel
theorem dX6_add_7 : decode cX6_add 7 = .ok (.if_icmp .ge 13, 3) := by decide +kernel
theorem dX6_add_10 : decode cX6_add 10 = .ok (.aload_n 0, 1) := by decide +kernel
theorem dX6_add_11 : decode cX6_add 11 = .ok (.getfield 9, 3) := by decide +kernel
theorem dX6_add_14 : decode cX6_add 14 = .ok (.iload_n 1, 1) := by decide +kernel
theorem dX6_add_15 : decode cX6_add 15 = .ok (.dup2, 1) := by decide +kernel
theorem dX6_add_16 : decode cX6_add 16 = .ok (.iaload, 1) := by decide +kernel
theorem dX6_add_17 : decode cX6_add 17 = .ok (.iload_n 2, 1) := by decide +kernel
theorem dX6_add_18 : decode cX6_add 18 = .ok (.iadd, 1) := by decide +kernel
theorem dX6_add_19 : decode cX6_add 19 = .ok (.iastore, 1) := by decide +kernel
theorem dX6_add_20 : decode cX6_add 20 = .ok (.return_, 1) := by decide +kernel
theorem dX6_noteDeadlock_0 : decode cX6_noteDeadlock 0 = .ok (.aload_n 0, 1) := by decide +kernel
theorem dX6_noteDeadlock_1 : decode cX6_noteDeadlock 1 = .ok (.iload_n 1, 1) := by decide +kernel
theorem dX6_noteDeadlock_2 : decode cX6_noteDeadlock 2 = .ok (.putfield 15, 3) := by decide +kernel
theorem dX6_noteDeadlock_5 : decode cX6_noteDeadlock 5 = .ok (.aload_n 0, 1) := by decide +kernel
theorem dX6_noteDeadlock_6 : decode cX6_noteDeadlock 6 = .ok (.iload_n 2, 1) := by decide +kernel
theorem dX6_noteDeadlock_7 : decode cX6_noteDeadlock 7 = .ok (.putfield 19, 3) := by decide +kernel
theorem dX6_noteDeadlock_10 : decode cX6_noteDeadlock 10 = .ok (.aload_n 0, 1) := by decide +kernel
theorem dX6_noteDeadlock_11 : decode cX6_noteDeadlock 11 = .ok (.iload_n 3, 1) := by decide +kernel
theorem dX6_noteDeadlock_12 : decode cX6_noteDeadlock 12 = .ok (.putfield 22, 3) := by decide +kernel
theorem dX6_noteDeadlock_15 : decode cX6_noteDeadlock 15 = .ok (.aload_n 0, 1) := by decide +kernel
theorem dX6_noteDeadlock_16 : decode cX6_noteDeadlock 16 = .ok (.iconst 4, 1) := by decide +kernel
theorem dX6_noteDeadlock_17 : decode cX6_noteDeadlock 17 = .ok (.iconst 1, 1) := by decide +kernel
theorem dX6_noteDeadlock_18 : decode cX6_noteDeadlock 18 = .ok (.invokevirtual 25, 3) := by decide +kernel
theorem dX6_noteDeadlock_21 : decode cX6_noteDeadlock 21 = .ok (.return_, 1) := by decide +kernel
theorem dX7_init_0 : decode cX7_init 0 = .ok (.aload_n 0, 1) := by decide +kernel
theorem dX7_init_1 : decode cX7_init 1 = .ok (.invokespecial 3, 3) := by decide +kernel
theorem dX7_init_4 : decode cX7_init 4 = .ok (.aload_n 0, 1) := by decide +kernel
theorem dX7_init_5 : decode cX7_init 5 = .ok (.bipush 10, 2) := by decide +kernel
theorem dX7_init_7 : decode cX7_init 7 = .ok (.newarray .int, 2) := by decide +kernel
theorem dX7_init_9 : decode cX7_init 9 = .ok (.putfield 9, 3) := by decide +kernel
theorem dX7_init_12 : decode cX7_init 12 = .ok (.aload_n 0, 1) := by decide +kernel
theorem dX7_init_13 : decode cX7_init 13 = .ok (.bipush 10, 2) := by decide +kernel
theorem dX7_init_15 : decode cX7_init 15 = .ok (.newarray .int, 2) := by decide +kernel
theorem dX7_init_17 : decode cX7_init 17 = .ok (.putfield 15, 3) := by decide +kernel
theorem dX7_init_20 : decode cX7_init 20 = .ok (.return_, 1) := by decide +kernel
theorem dX7_read_0 : decode cX7_read 0 = .ok (.iconst 0, 1) := by decide +kernel
theorem dX7_read_1 : decode cX7_read 1 = .ok (.istore_n 2, 1) := by decide +kernel
theorem dX7_read_2 : decode cX7_read 2 = .ok (.iload_n 2, 1) := by decide +kernel
theorem dX7_read_3 : decode cX7_read 3 = .ok (.bipush 10, 2) := by decide +kernel
theorem dX7_read_5 : decode cX7_read 5 = .ok (.if_icmp .ge 32, 3) := by decide +kernel
theorem dX7_read_8 : decode cX7_read 8 = .ok (.aload_n 0, 1) := by decide +kernel
theorem dX7_read_9 : decode cX7_read 9 = .ok (.getfield 9, 3) := by decide +kernel
theorem dX7_read_12 : decode cX7_read 12 = .ok (.iload_n 2, 1) := by decide +kernel
theorem dX7_read_13 : decode cX7_read 13 = .ok (.aload_n 1, 1) := by decide +kernel
theorem dX7_read_14 : decode cX7_read 14 = .ok (.iload_n 2, 1) := by decide +kernel
theorem dX7_read_15 : decode cX7_read 15 = .ok (.invokevirtual 18, 3) := by decide +kernel
theorem dX7_read_18 : decode cX7_read 18 = .ok (.iastore, 1) := by decide +kernel
theorem dX7_read_19 : decode cX7_read 19 = .ok (.aload_n 0, 1) := by decide +kernel
theorem dX7_read_20 : decode cX7_read 20 = .ok (.getfield 15, 3) := by decide +kernel
theorem dX7_read_23 : decode cX7_read 23 = .ok (.iload_n 2, 1) := by decide +kernel
theorem dX7_read_24 : decode cX7_read 24 = .ok (.aload_n 0, 1) := by decide +kernel
theorem dX7_read_25 : decode cX7_read 25 = .ok (.getfield 9, 3) := by decide +kernel
theorem dX7_read_28 : decode cX7_read 28 = .ok (.iload_n 2, 1) := by decide +kernel
theorem dX7_read_29 : decode cX7_read 29 = .ok (.iaload, 1) := by decide +kernel
theorem dX7_read_30 : decode cX7_read 30 = .ok (.iastore, 1) := by decide +kernel
theorem dX7_read_31 : decode cX7_read 31 = .ok (.iinc 2 1, 3) := by decide +kernel
theorem dX7_read_34 : decode cX7_read 34 = .ok (.goto (-32), 3) := by decide +kernel
theorem dX7_read_37 : decode cX7_read 37 = .ok (.iconst 0, 1) := by decide +kernel
theorem dX7_read_38 : decode cX7_read 38 = .ok (.istore_n 2, 1) := by decide +kernel
theorem dX7_read_39 : decode cX7_read 39 = .ok (.iload_n 2, 1) := by decide +kernel
theorem dX7_read_40 : decode cX7_read 40 = .ok (.bipush 10, 2) := by decide +kernel
theorem dX7_read_42 : decode cX7_read 42 = .ok (.if_icmp .ge 51, 3) := by decide +kernel
theorem dX7_read_45 : decode cX7_read 45 = .ok (.iconst 0, 1) := by decide +kernel
theorem dX7_read_46 : decode cX7_read 46 = .ok (.istore_n 3, 1) := by decide +kernel
theorem dX7_read_47 : decode cX7_read 47 = .ok (.iload_n 3, 1) := by decide +kernel
theorem dX7_read_48 : decode cX7_read 48 = .ok (.bipush 10, 2) := by decide +kernel
theorem dX7_read_50 : decode cX7_read 50 = .ok (.if_icmp .ge 37, 3) := by decide +kernel
theorem dX7_read_53 : decode cX7_read 53 = .ok (.aload_n 0, 1) := by decide +kernel
theorem dX7_read_54 : decode cX7_read 54 = .ok (.getfield 15, 3) := by decide +kernel
theorem dX7_read_57 : decode cX7_read 57 = .ok (.iload_n 3, 1) := by decide +kernel
theorem dX7_read_58 : decode cX7_read 58 = .ok (.iaload, 1) := by decide +kernel
theorem dX7_read_59 : decode cX7_read 59 = .ok (.iload_n 2, 1) := by decide +kernel
theorem dX7_read_60 : decode cX7_read 60 = .ok (.invokestatic 24, 3) := by decide +kernel
theorem dX7_read_63 : decode cX7_read 63 = .ok (.ifCond .eq 18, 3) := by decide +kernel
theorem dX7_read_66 : decode cX7_read 66 = .ok (.aload_n 0, 1) := by decide +kernel
theorem dX7_read_67 : decode cX7_read 67 = .ok (.getfield 15, 3) := by decide +kernel
theorem dX7_read_70 : decode cX7_read 70 = .ok (.iload_n 3, 1) := by decide +kernel
theorem dX7_read_71 : decode cX7_read 71 = .ok (.dup2, 1) := by decide +kernel
theorem dX7_read_72 : decode cX7_read 72 = .ok (.iaload, 1) := by decide +kernel
theorem dX7_read_73 : decode cX7_read 73 = .ok (.aload_n 0, 1) := by decide +kernel
theorem dX7_read_74 : decode cX7_read 74 = .ok (.getfield 15, 3) := by decide +kernel
theorem dX7_read_77 : decode cX7_read 77 = .ok (.iload_n 2, 1) := by decide +kernel
theorem dX7_read_78 : decode cX7_read 78 = .ok (.iaload, 1) := by decide +kernel
theorem dX7_read_79 : decode cX7_read 79 = .ok (.ior, 1) := by decide +kernel
theorem dX7_read_80 : decode cX7_read 80 = .ok (.iastore, 1) := by decide +kernel
theorem dX7_read_81 : decode cX7_read 81 = .ok (.iinc 3 1, 3) := by decide +kernel
theorem dX7_read_84 : decode cX7_read 84 = .ok (.goto (-37), 3) := by decide +kernel
theorem dX7_read_87 : decode cX7_read 87 = .ok (.iinc 2 1, 3) := by decide +kernel
theorem dX7_read_90 : decode cX7_read 90 = .ok (.goto (-51), 3) := by decide +kernel
theorem dX7_read_93 : decode cX7_read 93 = .ok (.aload_n 0, 1) := by decide +kernel
theorem dX7_read_94 : decode cX7_read 94 = .ok (.iconst 0, 1) := by decide +kernel
theorem dX7_read_95 : decode cX7_read 95 = .ok (.putfield 28, 3) := by decide +kernel
theorem dX7_read_98 : decode cX7_read 98 = .ok (.iconst 0, 1) := by decide +kernel
theorem dX7_read_99 : decode cX7_read 99 = .ok (.istore_n 2, 1) := by decide +kernel
theorem dX7_read_100 : decode cX7_read 100 = .ok (.iload_n 2, 1) := by decide +kernel
theorem dX7_read_101 : decode cX7_read 101 = .ok (.bipush 10, 2) := by decide +kernel
theorem dX7_read_103 : decode cX7_read 103 = .ok (.if_icmp .ge 34, 3) := by decide +kernel
theorem dX7_read_106 : decode cX7_read 106 = .ok (.aload_n 0, 1) := by decide +kernel
theorem dX7_read_107 : decode cX7_read 107 = .ok (.getfield 15, 3) := by decide +kernel
theorem dX7_read_110 : decode cX7_read 110 = .ok (.iload_n 2, 1) := by decide +kernel
theorem dX7_read_111 : decode cX7_read 111 = .ok (.iaload, 1) := by decide +kernel
theorem dX7_read_112 : decode cX7_read 112 = .ok (.iload_n 2, 1) := by decide +kernel
theorem dX7_read_113 : decode cX7_read 113 = .ok (.invokestatic 24, 3) := by decide +kernel
theorem dX7_read_116 : decode cX7_read 116 = .ok (.ifCond .eq 15, 3) := by decide +kernel
theorem dX7_read_119 : decode cX7_read 119 = .ok (.aload_n 0, 1) := by decide +kernel
theorem dX7_read_120 : decode cX7_read 120 = .ok (.dup, 1) := by decide +kernel
theorem dX7_read_121 : decode cX7_read 121 = .ok (.getfield 28, 3) := by decide +kernel
theorem dX7_read_124 : decode cX7_read 124 = .ok (.iconst 1, 1) := by decide +kernel
theorem dX7_read_125 : decode cX7_read 125 = .ok (.iload_n 2, 1) := by decide +kernel
theorem dX7_read_126 : decode cX7_read 126 = .ok (.ishl, 1) := by decide +kernel
theorem dX7_read_127 : decode cX7_read 127 = .ok (.ior, 1) := by decide +kernel
theorem dX7_read_128 : decode cX7_read 128 = .ok (.putfield 28, 3) := by decide +kernel
theorem dX7_read_131 : decode cX7_read 131 = .ok (.iinc 2 1, 3) := by decide +kernel
theorem dX7_read_134 : decode cX7_read 134 = .ok (.goto (-34), 3) := by decide +kernel
theorem dX7_read_137 : decode cX7_read 137 = .ok (.return_, 1) := by decide +kernel
theorem dX7_of_0 : decode cX7_of 0 = .ok (.iload_n 1, 1) := by decide +kernel
theorem dX7_of_1 : decode cX7_of 1 = .ok (.ifCond .lt 18, 3) := by decide +kernel
theorem dX7_of_4 : decode cX7_of 4 = .ok (.iload_n 1, 1) := by decide +kernel
theorem dX7_of_5 : decode cX7_of 5 = .ok (.bipush 10, 2) := by decide +kernel
theorem dX7_of_7 : decode cX7_of 7 = .ok (.if_icmp .ge 12, 3) := by decide +kernel
theorem dX7_of_10 : decode cX7_of 10 = .ok (.aload_n 0, 1) := by decide +kernel
theorem dX7_of_11 : decode cX7_of 11 = .ok (.getfield 9, 3) := by decide +kernel
theorem dX7_of_14 : decode cX7_of 14 = .ok (.iload_n 1, 1) := by decide +kernel
theorem dX7_of_15 : decode cX7_of 15 = .ok (.iaload, 1) := by decide +kernel
theorem dX7_of_16 : decode cX7_of 16 = .ok (.goto 4, 3) := by decide +kernel
theorem dX7_of_19 : decode cX7_of 19 = .ok (.iconst 0, 1) := by decide +kernel
theorem dX7_of_20 : decode cX7_of 20 = .ok (.ireturn, 1) := by decide +kernel
theorem dX7_follow_0 : decode cX7_follow 0 = .ok (.iconst 0, 1) := by decide +kernel
theorem dX7_follow_1 : decode cX7_follow 1 = .ok (.istore 5, 2) := by decide +kernel
theorem dX7_follow_3 : decode cX7_follow 3 = .ok (.iload 5, 2) := by decide +kernel
theorem dX7_follow_5 : decode cX7_follow 5 = .ok (.iload_n 3, 1) := by decide +kernel
theorem dX7_follow_6 : decode cX7_follow 6 = .ok (.if_icmp .ge 52, 3) := by decide +kernel
theorem dX7_follow_9 : decode cX7_follow 9 = .ok (.iload 5, 2) := by decide +kernel
theorem dX7_follow_11 : decode cX7_follow 11 = .ok (.iconst 1, 1) := by decide +kernel
theorem dX7_follow_12 : decode cX7_follow 12 = .ok (.iadd, 1) := by decide +kernel
theorem dX7_follow_13 : decode cX7_follow 13 = .ok (.iload_n 3, 1) := by decide +kernel
theorem dX7_follow_14 : decode cX7_follow 14 = .ok (.if_icmp .ge 14, 3) := by decide +kernel
theorem dX7_follow_17 : decode cX7_follow 17 = .ok (.lload_n 1, 1) := by decide +kernel
theorem dX7_follow_18 : decode cX7_follow 18 = .ok (.iload 5, 2) := by decide +kernel
theorem dX7_follow_20 : decode cX7_follow 20 = .ok (.iconst 1, 1) := by decide +kernel
theorem dX7_follow_21 : decode cX7_follow 21 = .ok (.iadd, 1) := by decide +kernel
theorem dX7_follow_22 : decode cX7_follow 22 = .ok (.invokestatic 32, 3) := by decide +kernel
theorem dX7_follow_25 : decode cX7_follow 25 = .ok (.goto 5, 3) := by decide +kernel
theorem dX7_follow_28 : decode cX7_follow 28 = .ok (.iload 4, 2) := by decide +kernel
theorem dX7_follow_30 : decode cX7_follow 30 = .ok (.istore 6, 2) := by decide +kernel
theorem dX7_follow_32 : decode cX7_follow 32 = .ok (.aload_n 0, 1) := by decide +kernel
theorem dX7_follow_33 : decode cX7_follow 33 = .ok (.lload_n 1, 1) := by decide +kernel
theorem dX7_follow_34 : decode cX7_follow 34 = .ok (.iload 5, 2) := by decide +kernel
theorem dX7_follow_36 : decode cX7_follow 36 = .ok (.invokestatic 32, 3) := by decide +kernel
theorem dX7_follow_39 : decode cX7_follow 39 = .ok (.invokevirtual 38, 3) := by decide +kernel
theorem dX7_follow_42 : decode cX7_follow 42 = .ok (.iload 6, 2) := by decide +kernel
theorem dX7_follow_44 : decode cX7_follow 44 = .ok (.invokestatic 24, 3) := by decide +kernel
theorem dX7_follow_47 : decode cX7_follow 47 = .ok (.ifCond .ne 5, 3) := by decide +kernel
theorem dX7_follow_50 : decode cX7_follow 50 = .ok (.iconst 0, 1) := by decide +kernel
theorem dX7_follow_51 : decode cX7_follow 51 = .ok (.ireturn, 1) := by decide +kernel
theorem dX7_follow_52 : decode cX7_follow 52 = .ok (.iinc 5 1, 3) := by decide +kernel
theorem dX7_follow_55 : decode cX7_follow 55 = .ok (.goto (-52), 3) := by decide +kernel
theorem dX7_follow_58 : decode cX7_follow 58 = .ok (.iconst 1, 1) := by decide +kernel
theorem dX7_follow_59 : decode cX7_follow 59 = .ok (.ireturn, 1) := by decide +kernel
theorem dX7_leadingToRings_0 : decode cX7_leadingToRings 0 = .ok (.iconst 0, 1) := by decide +kernel
theorem dX7_leadingToRings_1 : decode cX7_leadingToRings 1 = .ok (.istore_n 1, 1) := by decide +kernel
theorem dX7_leadingToRings_2 : decode cX7_leadingToRings 2 = .ok (.iconst 0, 1) := by decide +kernel
theorem dX7_leadingToRings_3 : decode cX7_leadingToRings 3 = .ok (.istore_n 2, 1) := by decide +kernel
theorem dX7_leadingToRings_4 : decode cX7_leadingToRings 4 = .ok (.iload_n 2, 1) := by decide +kernel
theorem dX7_leadingToRings_5 : decode cX7_leadingToRings 5 = .ok (.bipush 10, 2) := by decide +kernel
theorem dX7_leadingToRings_7 : decode cX7_leadingToRings 7 = .ok (.if_icmp .ge 29, 3) := by decide +kernel
theorem dX7_leadingToRings_10 : decode cX7_leadingToRings 10 = .ok (.aload_n 0, 1) := by decide +kernel
theorem dX7_leadingToRings_11 : decode cX7_leadingToRings 11 = .ok (.getfield 15, 3) := by decide +kernel
theorem dX7_leadingToRings_14 : decode cX7_leadingToRings 14 = .ok (.iload_n 2, 1) := by decide +kernel
theorem dX7_leadingToRings_15 : decode cX7_leadingToRings 15 = .ok (.iaload, 1) := by decide +kernel
theorem dX7_leadingToRings_16 : decode cX7_leadingToRings 16 = .ok (.aload_n 0, 1) := by decide +kernel
theorem dX7_leadingToRings_17 : decode cX7_leadingToRings 17 = .ok (.getfield 28, 3) := by decide +kernel
theorem dX7_leadingToRings_20 : decode cX7_leadingToRings 20 = .ok (.iand, 1) := by decide +kernel
theorem dX7_leadingToRings_21 : decode cX7_leadingToRings 21 = .ok (.ifCond .eq 9, 3) := by decide +kernel
theorem dX7_leadingToRings_24 : decode cX7_leadingToRings 24 = .ok (.iload_n 1, 1) := by decide +kernel
theorem dX7_leadingToRings_25 : decode cX7_leadingToRings 25 = .ok (.iconst 1, 1) := by decide +kernel
theorem dX7_leadingToRings_26 : decode cX7_leadingToRings 26 = .ok (.iload_n 2, 1) := by decide +kernel
theorem dX7_leadingToRings_27 : decode cX7_leadingToRings 27 = .ok (.ishl, 1) := by decide +kernel
theorem dX7_leadingToRings_28 : decode cX7_leadingToRings 28 = .ok (.ior, 1) := by decide +kernel
theorem dX7_leadingToRings_29 : decode cX7_leadingToRings 29 = .ok (.istore_n 1, 1) := by decide +kernel
theorem dX7_leadingToRings_30 : decode cX7_leadingToRings 30 = .ok (.iinc 2 1, 3) := by decide +kernel
theorem dX7_leadingToRings_33 : decode cX7_leadingToRings 33 = .ok (.goto (-29), 3) := by decide +kernel
theorem dX7_leadingToRings_36 : decode cX7_leadingToRings 36 = .ok (.iload_n 1, 1) := by decide +kernel
theorem dX7_leadingToRings_37 : decode cX7_leadingToRings 37 = .ok (.ireturn, 1) := by decide +kernel
theorem dX7_shortestRing_0 : decode cX7_shortestRing 0 = .ok (.aload_n 0, 1) := by decide +kernel
theorem dX7_shortestRing_1 : decode cX7_shortestRing 1 = .ok (.iload_n 1, 1) := by decide +kernel
theorem dX7_shortestRing_2 : decode cX7_shortestRing 2 = .ok (.invokevirtual 38, 3) := by decide +kernel
theorem dX7_shortestRing_5 : decode cX7_shortestRing 5 = .ok (.istore_n 2, 1) := by decide +kernel
theorem dX7_shortestRing_6 : decode cX7_shortestRing 6 = .ok (.iconst 1, 1) := by decide +kernel
theorem dX7_shortestRing_7 : decode cX7_shortestRing 7 = .ok (.istore_n 3, 1) := by decide +kernel
theorem dX7_shortestRing_8 : decode cX7_shortestRing 8 = .ok (.iload_n 3, 1) := by decide +kernel
theorem dX7_shortestRing_9 : decode cX7_shortestRing 9 = .ok (.bipush 10, 2) := by decide +kernel
theorem dX7_shortestRing_11 : decode cX7_shortestRing 11 = .ok (.if_icmp .gt 62, 3) := by decide +kernel
theorem dX7_shortestRing_14 : decode cX7_shortestRing 14 = .ok (.iload_n 2, 1) := by decide +kernel
theorem dX7_shortestRing_15 : decode cX7_shortestRing 15 = .ok (.iload_n 1, 1) := by decide +kernel
theorem dX7_shortestRing_16 : decode cX7_shortestRing 16 = .ok (.invokestatic 24, 3) := by decide +kernel
theorem dX7_shortestRing_19 : decode cX7_shortestRing 19 = .ok (.ifCond .eq 5, 3) := by decide +kernel
theorem dX7_shortestRing_22 : decode cX7_shortestRing 22 = .ok (.iload_n 3, 1) := by decide +kernel
theorem dX7_shortestRing_23 : decode cX7_shortestRing 23 = .ok (.ireturn, 1) := by decide +kernel
theorem dX7_shortestRing_24 : decode cX7_shortestRing 24 = .ok (.iconst 0, 1) := by decide +kernel
theorem dX7_shortestRing_25 : decode cX7_shortestRing 25 = .ok (.istore 4, 2) := by decide +kernel
theorem dX7_shortestRing_27 : decode cX7_shortestRing 27 = .ok (.iconst 0, 1) := by decide +kernel
theorem dX7_shortestRing_28 : decode cX7_shortestRing 28 = .ok (.istore 5, 2) := by decide +kernel
theorem dX7_shortestRing_30 : decode cX7_shortestRing 30 = .ok (.iload 5, 2) := by decide +kernel
theorem dX7_shortestRing_32 : decode cX7_shortestRing 32 = .ok (.bipush 10, 2) := by decide +kernel
theorem dX7_shortestRing_34 : decode cX7_shortestRing 34 = .ok (.if_icmp .ge 30, 3) := by decide +kernel
theorem dX7_shortestRing_37 : decode cX7_shortestRing 37 = .ok (.iload_n 2, 1) := by decide +kernel
theorem dX7_shortestRing_38 : decode cX7_shortestRing 38 = .ok (.iload 5, 2) := by decide +kernel
theorem dX7_shortestRing_40 : decode cX7_shortestRing 40 = .ok (.invokestatic 24, 3) := by decide +kernel
theorem dX7_shortestRing_43 : decode cX7_shortestRing 43 = .ok (.ifCond .eq 15, 3) := by decide +kernel
theorem dX7_shortestRing_46 : decode cX7_shortestRing 46 = .ok (.iload 4, 2) := by decide +kernel
theorem dX7_shortestRing_48 : decode cX7_shortestRing 48 = .ok (.aload_n 0, 1) := by decide +kernel
theorem dX7_shortestRing_49 : decode cX7_shortestRing 49 = .ok (.getfield 9, 3) := by decide +kernel
theorem dX7_shortestRing_52 : decode cX7_shortestRing 52 = .ok (.iload 5, 2) := by decide +kernel
theorem dX7_shortestRing_54 : decode cX7_shortestRing 54 = .ok (.iaload, 1) := by decide +kernel
theorem dX7_shortestRing_55 : decode cX7_shortestRing 55 = .ok (.ior, 1) := by decide +kernel
theorem dX7_shortestRing_56 : decode cX7_shortestRing 56 = .ok (.istore 4, 2) := by decide +kernel
theorem dX7_shortestRing_58 : decode cX7_shortestRing 58 = .ok (.iinc 5 1, 3) := by decide +kernel
theorem dX7_shortestRing_61 : decode cX7_shortestRing 61 = .ok (.goto (-31), 3) := by decide +kernel
theorem dX7_shortestRing_64 : decode cX7_shortestRing 64 = .ok (.iload 4, 2) := by decide +kernel
theorem dX7_shortestRing_66 : decode cX7_shortestRing 66 = .ok (.istore_n 2, 1) := by decide +kernel
theorem dX7_shortestRing_67 : decode cX7_shortestRing 67 = .ok (.iinc 3 1, 3) := by decide +kernel
theorem dX7_shortestRing_70 : decode cX7_shortestRing 70 = .ok (.goto (-62), 3) := by decide +kernel
theorem dX7_shortestRing_73 : decode cX7_shortestRing 73 = .ok (.iconst (-1), 1) := by decide +kernel
theorem dX7_shortestRing_74 : decode cX7_shortestRing 74 = .ok (.ireturn, 1) := by decide +kernel
theorem dX7_countRings_0 : decode cX7_countRings 0 = .ok (.aload_n 0, 1) := by decide +kernel
theorem dX7_countRings_1 : decode cX7_countRings 1 = .ok (.getfield 28, 3) := by decide +kernel
theorem dX7_countRings_4 : decode cX7_countRings 4 = .ok (.ifCond .ne 5, 3) := by decide +kernel
theorem dX7_countRings_7 : decode cX7_countRings 7 = .ok (.iconst 0, 1) := by decide +kernel
theorem dX7_countRings_8 : decode cX7_countRings 8 = .ok (.ireturn, 1) := by decide +kernel
theorem dX7_countRings_9 : decode cX7_countRings 9 = .ok (.aload_n 0, 1) := by decide +kernel
theorem dX7_countRings_10 : decode cX7_countRings 10 = .ok (.getfield 41, 3) := by decide +kernel
theorem dX7_countRings_13 : decode cX7_countRings 13 = .ok (.astore_n 1, 1) := by decide +kernel
theorem dX7_countRings_14 : decode cX7_countRings 14 = .ok (.aload_n 1, 1) := by decide +kernel
theorem dX7_countRings_15 : decode cX7_countRings 15 = .ok (.ifnonnull 14, 3) := by decide +kernel
theorem dX7_countRings_18 : decode cX7_countRings 18 = .ok (.sipush 4608, 3) := by decide +kernel
theorem dX7_countRings_21 : decode cX7_countRings 21 = .ok (.newarray .int, 2) := by decide +kernel
theorem dX7_countRings_23 : decode cX7_countRings 23 = .ok (.astore_n 1, 1) := by decide +kernel
theorem dX7_countRings_24 : decode cX7_countRings 24 = .ok (.aload_n 0, 1) := by decide +kernel
theorem dX7_countRings_25 : decode cX7_countRings 25 = .ok (.aload_n 1, 1) := by decide +kernel
theorem dX7_countRings_26 : decode cX7_countRings 26 = .ok (.putfield 41, 3) := by decide +kernel
theorem dX7_countRings_29 : decode cX7_countRings 29 = .ok (.iconst 0, 1) := by decide +kernel
theorem dX7_countRings_30 : decode cX7_countRings 30 = .ok (.istore_n 2, 1) := by decide +kernel
theorem dX7_countRings_31 : decode cX7_countRings 31 = .ok (.iconst 0, 1) := by decide +kernel
theorem dX7_countRings_32 : decode cX7_countRings 32 = .ok (.istore_n 3, 1) := by decide +kernel
theorem dX7_countRings_33 : decode cX7_countRings 33 = .ok (.iload_n 3, 1) := by decide +kernel
theorem dX7_countRings_34 : decode cX7_countRings 34 = .ok (.bipush 10, 2) := by decide +kernel
theorem dX7_countRings_36 : decode cX7_countRings 36 = .ok (.if_icmp .ge 29, 3) := by decide +kernel
theorem dX7_countRings_39 : decode cX7_countRings 39 = .ok (.aload_n 0, 1) := by decide +kernel
theorem dX7_countRings_40 : decode cX7_countRings 40 = .ok (.getfield 28, 3) := by decide +kernel
theorem dX7_countRings_43 : decode cX7_countRings 43 = .ok (.iload_n 3, 1) := by decide +kernel
theorem dX7_countRings_44 : decode cX7_countRings 44 = .ok (.invokestatic 24, 3) := by decide +kernel
theorem dX7_countRings_47 : decode cX7_countRings 47 = .ok (.ifCond .eq 12, 3) := by decide +kernel
theorem dX7_countRings_50 : decode cX7_countRings 50 = .ok (.iload_n 2, 1) := by decide +kernel
theorem dX7_countRings_51 : decode cX7_countRings 51 = .ok (.aload_n 0, 1) := by decide +kernel
theorem dX7_countRings_52 : decode cX7_countRings 52 = .ok (.iload_n 3, 1) := by decide +kernel
theorem dX7_countRings_53 : decode cX7_countRings 53 = .ok (.aload_n 1, 1) := by decide +kernel
theorem dX7_countRings_54 : decode cX7_countRings 54 = .ok (.invokevirtual 44, 3) := by decide +kernel
theorem dX7_countRings_57 : decode cX7_countRings 57 = .ok (.iadd, 1) := by decide +kernel
theorem dX7_countRings_58 : decode cX7_countRings 58 = .ok (.istore_n 2, 1) := by decide +kernel
theorem dX7_countRings_59 : decode cX7_countRings 59 = .ok (.iinc 3 1, 3) := by decide +kernel
theorem dX7_countRings_62 : decode cX7_countRings 62 = .ok (.goto (-29), 3) := by decide +kernel
theorem dX7_countRings_65 : decode cX7_countRings 65 = .ok (.iload_n 2, 1) := by decide +kernel
theorem dX7_countRings_66 : decode cX7_countRings 66 = .ok (.ireturn, 1) := by decide +kernel
theorem dX7_ringsFrom_0 : decode cX7_ringsFrom 0 = .ok (.bipush 9, 2) := by decide +kernel
theorem dX7_ringsFrom_2 : decode cX7_ringsFrom 2 = .ok (.iload_n 1, 1) := by decide +kernel
theorem dX7_ringsFrom_3 : decode cX7_ringsFrom 3 = .ok (.isub, 1) := by decide +kernel
theorem dX7_ringsFrom_4 : decode cX7_ringsFrom 4 = .ok (.istore_n 3, 1) := by decide +kernel
theorem dX7_ringsFrom_5 : decode cX7_ringsFrom 5 = .ok (.iload_n 1, 1) := by decide +kernel
theorem dX7_ringsFrom_6 : decode cX7_ringsFrom 6 = .ok (.iconst 1, 1) := by decide +kernel
theorem dX7_ringsFrom_7 : decode cX7_ringsFrom 7 = .ok (.iadd, 1) := by decide +kernel
theorem dX7_ringsFrom_8 : decode cX7_ringsFrom 8 = .ok (.istore 4, 2) := by decide +kernel
theorem dX7_ringsFrom_10 : decode cX7_ringsFrom 10 = .ok (.iconst 0, 1) := by decide +kernel
theorem dX7_ringsFrom_11 : decode cX7_ringsFrom 11 = .ok (.istore 5, 2) := by decide +kernel
theorem dX7_ringsFrom_13 : decode cX7_ringsFrom 13 = .ok (.iload 5, 2) := by decide +kernel
theorem dX7_ringsFrom_15 : decode cX7_ringsFrom 15 = .ok (.iconst 1, 1) := by decide +kernel
theorem dX7_ringsFrom_16 : decode cX7_ringsFrom 16 = .ok (.iload_n 3, 1) := by decide +kernel
theorem dX7_ringsFrom_17 : decode cX7_ringsFrom 17 = .ok (.ishl, 1) := by decide +kernel
theorem dX7_ringsFrom_18 : decode cX7_ringsFrom 18 = .ok (.bipush 9, 2) := by decide +kernel
theorem dX7_ringsFrom_20 : decode cX7_ringsFrom 20 = .ok (.imul, 1) := by decide +kernel
theorem dX7_ringsFrom_21 : decode cX7_ringsFrom 21 = .ok (.if_icmp .ge 14, 3) := by decide +kernel
theorem dX7_ringsFrom_24 : decode cX7_ringsFrom 24 = .ok (.aload_n 2, 1) := by decide +kernel
theorem dX7_ringsFrom_25 : decode cX7_ringsFrom 25 = .ok (.iload 5, 2) := by decide +kernel
theorem dX7_ringsFrom_27 : decode cX7_ringsFrom 27 = .ok (.iconst 0, 1) := by decide +kernel
theorem dX7_ringsFrom_28 : decode cX7_ringsFrom 28 = .ok (.iastore, 1) := by decide +kernel
theorem dX7_ringsFrom_29 : decode cX7_ringsFrom 29 = .ok (.iinc 5 1, 3) := by decide +kernel
theorem dX7_ringsFrom_32 : decode cX7_ringsFrom 32 = .ok (.goto (-19), 3) := by decide +kernel
theorem dX7_ringsFrom_35 : decode cX7_ringsFrom 35 = .ok (.aload_n 0, 1) := by decide +kernel
theorem dX7_ringsFrom_36 : decode cX7_ringsFrom 36 = .ok (.aload_n 2, 1) := by decide +kernel
theorem dX7_ringsFrom_37 : decode cX7_ringsFrom 37 = .ok (.iconst 0, 1) := by decide +kernel
theorem dX7_ringsFrom_38 : decode cX7_ringsFrom 38 = .ok (.aload_n 0, 1) := by decide +kernel
theorem dX7_ringsFrom_39 : decode cX7_ringsFrom 39 = .ok (.getfield 9, 3) := by decide +kernel
theorem dX7_ringsFrom_42 : decode cX7_ringsFrom 42 = .ok (.iload_n 1, 1) := by decide +kernel
theorem dX7_ringsFrom_43 : decode cX7_ringsFrom 43 = .ok (.iaload, 1) := by decide +kernel
theorem dX7_ringsFrom_44 : decode cX7_ringsFrom 44 = .ok (.iload 4, 2) := by decide +kernel
theorem dX7_ringsFrom_46 : decode cX7_ringsFrom 46 = .ok (.ishr, 1) := by decide +kernel
theorem dX7_ringsFrom_47 : decode cX7_ringsFrom 47 = .ok (.iconst 1, 1) := by decide +kernel
theorem dX7_ringsFrom_48 : decode cX7_ringsFrom 48 = .ok (.invokevirtual 48, 3) := by decide +kernel
theorem dX7_ringsFrom_51 : decode cX7_ringsFrom 51 = .ok (.iconst 0, 1) := by decide +kernel
theorem dX7_ringsFrom_52 : decode cX7_ringsFrom 52 = .ok (.istore 5, 2) := by decide +kernel
theorem dX7_ringsFrom_54 : decode cX7_ringsFrom 54 = .ok (.iconst 1, 1) := by decide +kernel
theorem dX7_ringsFrom_55 : decode cX7_ringsFrom 55 = .ok (.istore 6, 2) := by decide +kernel
theorem dX7_ringsFrom_57 : decode cX7_ringsFrom 57 = .ok (.iload 6, 2) := by decide +kernel
theorem dX7_ringsFrom_59 : decode cX7_ringsFrom 59 = .ok (.iconst 1, 1) := by decide +kernel
theorem dX7_ringsFrom_60 : decode cX7_ringsFrom 60 = .ok (.iload_n 3, 1) := by decide +kernel
theorem dX7_ringsFrom_61 : decode cX7_ringsFrom 61 = .ok (.ishl, 1) := by decide +kernel
theorem dX7_ringsFrom_62 : decode cX7_ringsFrom 62 = .ok (.if_icmp .ge 87, 3) := by decide +kernel
theorem dX7_ringsFrom_65 : decode cX7_ringsFrom 65 = .ok (.iconst 0, 1) := by decide +kernel
theorem dX7_ringsFrom_66 : decode cX7_ringsFrom 66 = .ok (.istore 7, 2) := by decide +kernel
theorem dX7_ringsFrom_68 : decode cX7_ringsFrom 68 = .ok (.iload 7, 2) := by decide +kernel
theorem dX7_ringsFrom_70 : decode cX7_ringsFrom 70 = .ok (.iload_n 3, 1) := by decide +kernel
theorem dX7_ringsFrom_71 : decode cX7_ringsFrom 71 = .ok (.if_icmp .ge 72, 3) := by decide +kernel
theorem dX7_ringsFrom_74 : decode cX7_ringsFrom 74 = .ok (.aload_n 2, 1) := by decide +kernel
theorem dX7_ringsFrom_75 : decode cX7_ringsFrom 75 = .ok (.iload 6, 2) := by decide +kernel
theorem dX7_ringsFrom_77 : decode cX7_ringsFrom 77 = .ok (.bipush 9, 2) := by decide +kernel
theorem dX7_ringsFrom_79 : decode cX7_ringsFrom 79 = .ok (.imul, 1) := by decide +kernel
theorem dX7_ringsFrom_80 : decode cX7_ringsFrom 80 = .ok (.iload 7, 2) := by decide +kernel
theorem dX7_ringsFrom_82 : decode cX7_ringsFrom 82 = .ok (.iadd, 1) := by decide +kernel
theorem dX7_ringsFrom_83 : decode cX7_ringsFrom 83 = .ok (.iaload, 1) := by decide +kernel
theorem dX7_ringsFrom_84 : decode cX7_ringsFrom 84 = .ok (.istore 8, 2) := by decide +kernel
theorem dX7_ringsFrom_86 : decode cX7_ringsFrom 86 = .ok (.iload 8, 2) := by decide +kernel
theorem dX7_ringsFrom_88 : decode cX7_ringsFrom 88 = .ok (.ifCond .eq 49, 3) := by decide +kernel
theorem dX7_ringsFrom_91 : decode cX7_ringsFrom 91 = .ok (.aload_n 0, 1) := by decide +kernel
theorem dX7_ringsFrom_92 : decode cX7_ringsFrom 92 = .ok (.getfield 9, 3) := by decide +kernel
theorem dX7_ringsFrom_95 : decode cX7_ringsFrom 95 = .ok (.iload 4, 2) := by decide +kernel
theorem dX7_ringsFrom_97 : decode cX7_ringsFrom 97 = .ok (.iload 7, 2) := by decide +kernel
theorem dX7_ringsFrom_99 : decode cX7_ringsFrom 99 = .ok (.iadd, 1) := by decide +kernel
theorem dX7_ringsFrom_100 : decode cX7_ringsFrom 100 = .ok (.iaload, 1) := by decide +kernel
theorem dX7_ringsFrom_101 : decode cX7_ringsFrom 101 = .ok (.istore 9, 2) := by decide +kernel
theorem dX7_ringsFrom_103 : decode cX7_ringsFrom 103 = .ok (.iload 5, 2) := by decide +kernel
theorem dX7_ringsFrom_105 : decode cX7_ringsFrom 105 = .ok (.iload 9, 2) := by decide +kernel
theorem dX7_ringsFrom_107 : decode cX7_ringsFrom 107 = .ok (.iload_n 1, 1) := by decide +kernel
theorem dX7_ringsFrom_108 : decode cX7_ringsFrom 108 = .ok (.invokestatic 24, 3) := by decide +kernel
theorem dX7_ringsFrom_111 : decode cX7_ringsFrom 111 = .ok (.ifCond .eq 8, 3) := by decide +kernel
theorem dX7_ringsFrom_114 : decode cX7_ringsFrom 114 = .ok (.iload 8, 2) := by decide +kernel
theorem dX7_ringsFrom_116 : decode cX7_ringsFrom 116 = .ok (.goto 4, 3) := by decide +kernel
theorem dX7_ringsFrom_119 : decode cX7_ringsFrom 119 = .ok (.iconst 0, 1) := by decide +kernel
theorem dX7_ringsFrom_120 : decode cX7_ringsFrom 120 = .ok (.iadd, 1) := by decide +kernel
theorem dX7_ringsFrom_121 : decode cX7_ringsFrom 121 = .ok (.istore 5, 2) := by decide +kernel
theorem dX7_ringsFrom_123 : decode cX7_ringsFrom 123 = .ok (.aload_n 0, 1) := by decide +kernel
theorem dX7_ringsFrom_124 : decode cX7_ringsFrom 124 = .ok (.aload_n 2, 1) := by decide +kernel
theorem dX7_ringsFrom_125 : decode cX7_ringsFrom 125 = .ok (.iload 6, 2) := by decide +kernel
theorem dX7_ringsFrom_127 : decode cX7_ringsFrom 127 = .ok (.iload 9, 2) := by decide +kernel
theorem dX7_ringsFrom_129 : decode cX7_ringsFrom 129 = .ok (.iload 4, 2) := by decide +kernel
theorem dX7_ringsFrom_131 : decode cX7_ringsFrom 131 = .ok (.ishr, 1) := by decide +kernel
theorem dX7_ringsFrom_132 : decode cX7_ringsFrom 132 = .ok (.iload 8, 2) := by decide +kernel
theorem dX7_ringsFrom_134 : decode cX7_ringsFrom 134 = .ok (.invokevirtual 48, 3) := by decide +kernel
theorem dX7_ringsFrom_137 : decode cX7_ringsFrom 137 = .ok (.iinc 7 1, 3) := by decide +kernel
theorem dX7_ringsFrom_140 : decode cX7_ringsFrom 140 = .ok (.goto (-72), 3) := by decide +kernel
theorem dX7_ringsFrom_143 : decode cX7_ringsFrom 143 = .ok (.iinc 6 1, 3) := by decide +kernel
theorem dX7_ringsFrom_146 : decode cX7_ringsFrom 146 = .ok (.goto (-89), 3) := by decide +kernel
theorem dX7_ringsFrom_149 : decode cX7_ringsFrom 149 = .ok (.iload 5, 2) := by decide +kernel
theorem dX7_ringsFrom_151 : decode cX7_ringsFrom 151 = .ok (.ireturn, 1) := by decide +kernel
theorem dX7_extend_0 : decode cX7_extend 0 = .ok (.iconst 0, 1) := by decide +kernel
theorem dX7_extend_1 : decode cX7_extend 1 = .ok (.istore 5, 2) := by decide +kernel
theorem dX7_extend_3 : decode cX7_extend 3 = .ok (.iload 5, 2) := by decide +kernel
theorem dX7_extend_5 : decode cX7_extend 5 = .ok (.bipush 9, 2) := by decide +kernel
theorem dX7_extend_7 : decode cX7_extend 7 = .ok (.if_icmp .ge 41, 3) := by decide +kernel
theorem dX7_extend_10 : decode cX7_extend 10 = .ok (.iload_n 3, 1) := by decide +kernel
theorem dX7_extend_11 : decode cX7_extend 11 = .ok (.iload_n 2, 1) := by decide +kernel
theorem dX7_extend_12 : decode cX7_extend 12 = .ok (.iconst (-1), 1) := by decide +kernel
theorem dX7_extend_13 : decode cX7_extend 13 = .ok (.ixor, 1) := by decide +kernel
theorem dX7_extend_14 : decode cX7_extend 14 = .ok (.iand, 1) := by decide +kernel
theorem dX7_extend_15 : decode cX7_extend 15 = .ok (.iload 5, 2) := by decide +kernel
theorem dX7_extend_17 : decode cX7_extend 17 = .ok (.invokestatic 24, 3) := by decide +kernel
theorem dX7_extend_20 : decode cX7_extend 20 = .ok (.ifCond .eq 22, 3) := by decide +kernel
theorem dX7_extend_23 : decode cX7_extend 23 = .ok (.aload_n 1, 1) := by decide +kernel
theorem dX7_extend_24 : decode cX7_extend 24 = .ok (.iload_n 2, 1) := by decide +kernel
theorem dX7_extend_25 : decode cX7_extend 25 = .ok (.iconst 1, 1) := by decide +kernel
theorem dX7_extend_26 : decode cX7_extend 26 = .ok (.iload 5, 2) := by decide +kernel
theorem dX7_extend_28 : decode cX7_extend 28 = .ok (.ishl, 1) := by decide +kernel
theorem dX7_extend_29 : decode cX7_extend 29 = .ok (.ior, 1) := by decide +kernel
theorem dX7_extend_30 : decode cX7_extend 30 = .ok (.bipush 9, 2) := by decide +kernel
theorem dX7_extend_32 : decode cX7_extend 32 = .ok (.imul, 1) := by decide +kernel
theorem dX7_extend_33 : decode cX7_extend 33 = .ok (.iload 5, 2) := by decide +kernel
theorem dX7_extend_35 : decode cX7_extend 35 = .ok (.iadd, 1) := by decide +kernel
theorem dX7_extend_36 : decode cX7_extend 36 = .ok (.dup2, 1) := by decide +kernel
theorem dX7_extend_37 : decode cX7_extend 37 = .ok (.iaload, 1) := by decide +kernel
theorem dX7_extend_38 : decode cX7_extend 38 = .ok (.iload 4, 2) := by decide +kernel
theorem dX7_extend_40 : decode cX7_extend 40 = .ok (.iadd, 1) := by decide +kernel
theorem dX7_extend_41 : decode cX7_extend 41 = .ok (.iastore, 1) := by decide +kernel
theorem dX7_extend_42 : decode cX7_extend 42 = .ok (.iinc 5 1, 3) := by decide +kernel
theorem dX7_extend_45 : decode cX7_extend 45 = .ok (.goto (-42), 3) := by decide +kernel
theorem dX7_extend_48 : decode cX7_extend 48 = .ok (.return_, 1) := by decide +kernel
theorem dX7_leastVictims_0 : decode cX7_leastVictims 0 = .ok (.aload_n 0, 1) := by decide +kernel
theorem dX7_leastVictims_1 : decode cX7_leastVictims 1 = .ok (.getfield 28, 3) := by decide +kernel
theorem dX7_leastVictims_4 : decode cX7_leastVictims 4 = .ok (.istore_n 2, 1) := by decide +kernel
theorem dX7_leastVictims_5 : decode cX7_leastVictims 5 = .ok (.aload_n 0, 1) := by decide +kernel
theorem dX7_leastVictims_6 : decode cX7_leastVictims 6 = .ok (.aload_n 0, 1) := by decide +kernel
theorem dX7_leastVictims_7 : decode cX7_leastVictims 7 = .ok (.getfield 28, 3) := by decide +kernel
theorem dX7_leastVictims_10 : decode cX7_leastVictims 10 = .ok (.aload_n 1, 1) := by decide +kernel
theorem dX7_leastVictims_11 : decode cX7_leastVictims 11 = .ok (.invokevirtual 52, 3) := by decide +kernel
theorem dX7_leastVictims_14 : decode cX7_leastVictims 14 = .ok (.istore_n 3, 1) := by decide +kernel
theorem dX7_leastVictims_15 : decode cX7_leastVictims 15 = .ok (.iconst 1, 1) := by decide +kernel
theorem dX7_leastVictims_16 : decode cX7_leastVictims 16 = .ok (.istore 4, 2) := by decide +kernel
theorem dX7_leastVictims_18 : decode cX7_leastVictims 18 = .ok (.iload 4, 2) := by decide +kernel
theorem dX7_leastVictims_20 : decode cX7_leastVictims 20 = .ok (.aload_n 0, 1) := by decide +kernel
theorem dX7_leastVictims_21 : decode cX7_leastVictims 21 = .ok (.getfield 28, 3) := by decide +kernel
theorem dX7_leastVictims_24 : decode cX7_leastVictims 24 = .ok (.if_icmp .ge 88, 3) := by decide +kernel
theorem dX7_leastVictims_27 : decode cX7_leastVictims 27 = .ok (.iload 4, 2) := by decide +kernel
theorem dX7_leastVictims_29 : decode cX7_leastVictims 29 = .ok (.aload_n 0, 1) := by decide +kernel
theorem dX7_leastVictims_30 : decode cX7_leastVictims 30 = .ok (.getfield 28, 3) := by decide +kernel
theorem dX7_leastVictims_33 : decode cX7_leastVictims 33 = .ok (.iconst (-1), 1) := by decide +kernel
theorem dX7_leastVictims_34 : decode cX7_leastVictims 34 = .ok (.ixor, 1) := by decide +kernel
theorem dX7_leastVictims_35 : decode cX7_leastVictims 35 = .ok (.iand, 1) := by decide +kernel
theorem dX7_leastVictims_36 : decode cX7_leastVictims 36 = .ok (.ifCond .ne 70, 3) := by decide +kernel
theorem dX7_leastVictims_39 : decode cX7_leastVictims 39 = .ok (.aload_n 0, 1) := by decide +kernel
theorem dX7_leastVictims_40 : decode cX7_leastVictims 40 = .ok (.iload 4, 2) := by decide +kernel
theorem dX7_leastVictims_42 : decode cX7_leastVictims 42 = .ok (.aload_n 1, 1) := by decide +kernel
theorem dX7_leastVictims_43 : decode cX7_leastVictims 43 = .ok (.invokevirtual 52, 3) := by decide +kernel
theorem dX7_leastVictims_46 : decode cX7_leastVictims 46 = .ok (.istore 5, 2) := by decide +kernel
theorem dX7_leastVictims_48 : decode cX7_leastVictims 48 = .ok (.iload 5, 2) := by decide +kernel
theorem dX7_leastVictims_50 : decode cX7_leastVictims 50 = .ok (.iload_n 3, 1) := by decide +kernel
theorem dX7_leastVictims_51 : decode cX7_leastVictims 51 = .ok (.if_icmp .lt 21, 3) := by decide +kernel
theorem dX7_leastVictims_54 : decode cX7_leastVictims 54 = .ok (.iload 5, 2) := by decide +kernel
theorem dX7_leastVictims_56 : decode cX7_leastVictims 56 = .ok (.iload_n 3, 1) := by decide +kernel
theorem dX7_leastVictims_57 : decode cX7_leastVictims 57 = .ok (.if_icmp .ne 19, 3) := by decide +kernel
theorem dX7_leastVictims_60 : decode cX7_leastVictims 60 = .ok (.iload 4, 2) := by decide +kernel
theorem dX7_leastVictims_62 : decode cX7_leastVictims 62 = .ok (.invokestatic 55, 3) := by decide +kernel
theorem dX7_leastVictims_65 : decode cX7_leastVictims 65 = .ok (.iload_n 2, 1) := by decide +kernel
theorem dX7_leastVictims_66 : decode cX7_leastVictims 66 = .ok (.invokestatic 55, 3) := by decide +kernel
theorem dX7_leastVictims_69 : decode cX7_leastVictims 69 = .ok (.if_icmp .ge 7, 3) := by decide +kernel
theorem dX7_leastVictims_72 : decode cX7_leastVictims 72 = .ok (.iconst 1, 1) := by decide +kernel
theorem dX7_leastVictims_73 : decode cX7_leastVictims 73 = .ok (.goto 4, 3) := by decide +kernel
theorem dX7_leastVictims_76 : decode cX7_leastVictims 76 = .ok (.iconst 0, 1) := by decide +kernel
theorem dX7_leastVictims_77 : decode cX7_leastVictims 77 = .ok (.istore 6, 2) := by decide +kernel
theorem dX7_leastVictims_79 : decode cX7_leastVictims 79 = .ok (.iload 6, 2) := by decide +kernel
theorem dX7_leastVictims_81 : decode cX7_leastVictims 81 = .ok (.ifCond .eq 25, 3) := by decide +kernel
theorem dX7_leastVictims_84 : decode cX7_leastVictims 84 = .ok (.aload_n 0, 1) := by decide +kernel
theorem dX7_leastVictims_85 : decode cX7_leastVictims 85 = .ok (.aload_n 0, 1) := by decide +kernel
theorem dX7_leastVictims_86 : decode cX7_leastVictims 86 = .ok (.getfield 28, 3) := by decide +kernel
theorem dX7_leastVictims_89 : decode cX7_leastVictims 89 = .ok (.iload 4, 2) := by decide +kernel
theorem dX7_leastVictims_91 : decode cX7_leastVictims 91 = .ok (.iconst (-1), 1) := by decide +kernel
theorem dX7_leastVictims_92 : decode cX7_leastVictims 92 = .ok (.ixor, 1) := by decide +kernel
theorem dX7_leastVictims_93 : decode cX7_leastVictims 93 = .ok (.iand, 1) := by decide +kernel
theorem dX7_leastVictims_94 : decode cX7_leastVictims 94 = .ok (.invokevirtual 60, 3) := by decide +kernel
theorem dX7_leastVictims_97 : decode cX7_leastVictims 97 = .ok (.ifCond .eq 9, 3) := by decide +kernel
theorem dX7_leastVictims_100 : decode cX7_leastVictims 100 = .ok (.iload 4, 2) := by decide +kernel
theorem dX7_leastVictims_102 : decode cX7_leastVictims 102 = .ok (.istore_n 2, 1) := by decide +kernel
theorem dX7_leastVictims_103 : decode cX7_leastVictims 103 = .ok (.iload 5, 2) := by decide +kernel
theorem dX7_leastVictims_105 : decode cX7_leastVictims 105 = .ok (.istore_n 3, 1) := by decide +kernel
theorem dX7_leastVictims_106 : decode cX7_leastVictims 106 = .ok (.iinc 4 1, 3) := by decide +kernel
theorem dX7_leastVictims_109 : decode cX7_leastVictims 109 = .ok (.goto (-91), 3) := by decide +kernel
theorem dX7_leastVictims_112 : decode cX7_leastVictims 112 = .ok (.iload_n 2, 1) := by decide +kernel
theorem dX7_leastVictims_113 : decode cX7_leastVictims 113 = .ok (.ireturn, 1) := by decide +kernel
theorem dX7_costOf_0 : decode cX7_costOf 0 = .ok (.iconst 0, 1) := by decide +kernel
theorem dX7_costOf_1 : decode cX7_costOf 1 = .ok (.istore_n 3, 1) := by decide +kernel
theorem dX7_costOf_2 : decode cX7_costOf 2 = .ok (.iconst 0, 1) := by decide +kernel
theorem dX7_costOf_3 : decode cX7_costOf 3 = .ok (.istore 4, 2) := by decide +kernel
theorem dX7_costOf_5 : decode cX7_costOf 5 = .ok (.iload 4, 2) := by decide +kernel
theorem dX7_costOf_7 : decode cX7_costOf 7 = .ok (.bipush 10, 2) := by decide +kernel
theorem dX7_costOf_9 : decode cX7_costOf 9 = .ok (.if_icmp .ge 32, 3) := by decide +kernel
theorem dX7_costOf_12 : decode cX7_costOf 12 = .ok (.iload 4, 2) := by decide +kernel
theorem dX7_costOf_14 : decode cX7_costOf 14 = .ok (.aload_n 2, 1) := by decide +kernel
theorem dX7_costOf_15 : decode cX7_costOf 15 = .ok (.arraylength, 1) := by decide +kernel
theorem dX7_costOf_16 : decode cX7_costOf 16 = .ok (.if_icmp .ge 25, 3) := by decide +kernel
theorem dX7_costOf_19 : decode cX7_costOf 19 = .ok (.iload_n 1, 1) := by decide +kernel
theorem dX7_costOf_20 : decode cX7_costOf 20 = .ok (.iload 4, 2) := by decide +kernel
theorem dX7_costOf_22 : decode cX7_costOf 22 = .ok (.invokestatic 24, 3) := by decide +kernel
theorem dX7_costOf_25 : decode cX7_costOf 25 = .ok (.ifCond .eq 10, 3) := by decide +kernel
theorem dX7_costOf_28 : decode cX7_costOf 28 = .ok (.iload_n 3, 1) := by decide +kernel
theorem dX7_costOf_29 : decode cX7_costOf 29 = .ok (.aload_n 2, 1) := by decide +kernel
theorem dX7_costOf_30 : decode cX7_costOf 30 = .ok (.iload 4, 2) := by decide +kernel
theorem dX7_costOf_32 : decode cX7_costOf 32 = .ok (.iaload, 1) := by decide +kernel
theorem dX7_costOf_33 : decode cX7_costOf 33 = .ok (.iadd, 1) := by decide +kernel
theorem dX7_costOf_34 : decode cX7_costOf 34 = .ok (.istore_n 3, 1) := by decide +kernel
theorem dX7_costOf_35 : decode cX7_costOf 35 = .ok (.iinc 4 1, 3) := by decide +kernel
theorem dX7_costOf_38 : decode cX7_costOf 38 = .ok (.goto (-33), 3) := by decide +kernel
theorem dX7_costOf_41 : decode cX7_costOf 41 = .ok (.iload_n 3, 1) := by decide +kernel
theorem dX7_costOf_42 : decode cX7_costOf 42 = .ok (.ireturn, 1) := by decide +kernel
theorem dX7_isRingFree_0 : decode cX7_isRingFree 0 = .ok (.iload_n 1, 1) := by decide +kernel
theorem dX7_isRingFree_1 : decode cX7_isRingFree 1 = .ok (.istore_n 2, 1) := by decide +kernel
theorem dX7_isRingFree_2 : decode cX7_isRingFree 2 = .ok (.iconst 0, 1) := by decide +kernel
theorem dX7_isRingFree_3 : decode cX7_isRingFree 3 = .ok (.istore_n 3, 1) := by decide +kernel
theorem dX7_isRingFree_4 : decode cX7_isRingFree 4 = .ok (.iload_n 3, 1) := by decide +kernel
theorem dX7_isRingFree_5 : decode cX7_isRingFree 5 = .ok (.bipush 10, 2) := by decide +kernel
theorem dX7_isRingFree_7 : decode cX7_isRingFree 7 = .ok (.if_icmp .ge 70, 3) := by decide +kernel
theorem dX7_isRingFree_10 : decode cX7_isRingFree 10 = .ok (.iload_n 2, 1) := by decide +kernel
theorem dX7_isRingFree_11 : decode cX7_isRingFree 11 = .ok (.ifCond .eq 66, 3) := by decide +kernel
theorem dX7_isRingFree_14 : decode cX7_isRingFree 14 = .ok (.iload_n 2, 1) := by decide +kernel
theorem dX7_isRingFree_15 : decode cX7_isRingFree 15 = .ok (.istore 4, 2) := by decide +kernel
theorem dX7_isRingFree_17 : decode cX7_isRingFree 17 = .ok (.iconst 0, 1) := by decide +kernel
theorem dX7_isRingFree_18 : decode cX7_isRingFree 18 = .ok (.istore 5, 2) := by decide +kernel
theorem dX7_isRingFree_20 : decode cX7_isRingFree 20 = .ok (.iload 5, 2) := by decide +kernel
theorem dX7_isRingFree_22 : decode cX7_isRingFree 22 = .ok (.bipush 10, 2) := by decide +kernel
theorem dX7_isRingFree_24 : decode cX7_isRingFree 24 = .ok (.if_icmp .ge 39, 3) := by decide +kernel
theorem dX7_isRingFree_27 : decode cX7_isRingFree 27 = .ok (.iload_n 2, 1) := by decide +kernel
theorem dX7_isRingFree_28 : decode cX7_isRingFree 28 = .ok (.iload 5, 2) := by decide +kernel
theorem dX7_isRingFree_30 : decode cX7_isRingFree 30 = .ok (.invokestatic 24, 3) := by decide +kernel
theorem dX7_isRingFree_33 : decode cX7_isRingFree 33 = .ok (.ifCond .eq 24, 3) := by decide +kernel
theorem dX7_isRingFree_36 : decode cX7_isRingFree 36 = .ok (.aload_n 0, 1) := by decide +kernel
theorem dX7_isRingFree_37 : decode cX7_isRingFree 37 = .ok (.getfield 9, 3) := by decide +kernel
theorem dX7_isRingFree_40 : decode cX7_isRingFree 40 = .ok (.iload 5, 2) := by decide +kernel
theorem dX7_isRingFree_42 : decode cX7_isRingFree 42 = .ok (.iaload, 1) := by decide +kernel
theorem dX7_isRingFree_43 : decode cX7_isRingFree 43 = .ok (.iload_n 2, 1) := by decide +kernel
theorem dX7_isRingFree_44 : decode cX7_isRingFree 44 = .ok (.iand, 1) := by decide +kernel
theorem dX7_isRingFree_45 : decode cX7_isRingFree 45 = .ok (.ifCond .ne 12, 3) := by decide +kernel
theorem dX7_isRingFree_48 : decode cX7_isRingFree 48 = .ok (.iload_n 2, 1) := by decide +kernel
theorem dX7_isRingFree_49 : decode cX7_isRingFree 49 = .ok (.iconst 1, 1) := by decide +kernel
theorem dX7_isRingFree_50 : decode cX7_isRingFree 50 = .ok (.iload 5, 2) := by decide +kernel
theorem dX7_isRingFree_52 : decode cX7_isRingFree 52 = .ok (.ishl, 1) := by decide +kernel
theorem dX7_isRingFree_53 : decode cX7_isRingFree 53 = .ok (.iconst (-1), 1) := by decide +kernel
theorem dX7_isRingFree_54 : decode cX7_isRingFree 54 = .ok (.ixor, 1) := by decide +kernel
theorem dX7_isRingFree_55 : decode cX7_isRingFree 55 = .ok (.iand, 1) := by decide +kernel
theorem dX7_isRingFree_56 : decode cX7_isRingFree 56 = .ok (.istore_n 2, 1) := by decide +kernel
theorem dX7_isRingFree_57 : decode cX7_isRingFree 57 = .ok (.iinc 5 1, 3) := by decide +kernel
theorem dX7_isRingFree_60 : decode cX7_isRingFree 60 = .ok (.goto (-40), 3) := by decide +kernel
theorem dX7_isRingFree_63 : decode cX7_isRingFree 63 = .ok (.iload_n 2, 1) := by decide +kernel
theorem dX7_isRingFree_64 : decode cX7_isRingFree 64 = .ok (.iload 4, 2) := by decide +kernel
theorem dX7_isRingFree_66 : decode cX7_isRingFree 66 = .ok (.if_icmp .ne 5, 3) := by decide +kernel
theorem dX7_isRingFree_69 : decode cX7_isRingFree 69 = .ok (.iconst 0, 1) := by decide +kernel
theorem dX7_isRingFree_70 : decode cX7_isRingFree 70 = .ok (.ireturn, 1) := by decide +kernel
theorem dX7_isRingFree_71 : decode cX7_isRingFree 71 = .ok (.iinc 3 1, 3) := by decide +kernel
theorem dX7_isRingFree_74 : decode cX7_isRingFree 74 = .ok (.goto (-70), 3) := by decide +kernel
theorem dX7_isRingFree_77 : decode cX7_isRingFree 77 = .ok (.iload_n 2, 1) := by decide +kernel
theorem dX7_isRingFree_78 : decode cX7_isRingFree 78 = .ok (.ifCond .ne 7, 3) := by decide +kernel
theorem dX7_isRingFree_81 : decode cX7_isRingFree 81 = .ok (.iconst 1, 1) := by decide +kernel
theorem dX7_isRingFree_82 : decode cX7_isRingFree 82 = .ok (.goto 4, 3) := by decide +kernel
theorem dX7_isRingFree_85 : decode cX7_isRingFree 85 = .ok (.iconst 0, 1) := by decide +kernel
theorem dX7_isRingFree_86 : decode cX7_isRingFree 86 = .ok (.ireturn, 1) := by decide +kernel
