theorem dX9_init_0 : decode cX9_init 0 = .ok (.aload_n 0, 1) := by decide +kernel
theorem dX9_init_1 : decode cX9_init 1 = .ok (.invokespecial 1, 3) := by decide +kernel
theorem dX9_init_4 : decode cX9_init 4 = .ok (.aload_n 0, 1) := by decide +kernel
theorem dX9_init_5 : decode cX9_init 5 = .ok (.sipush 613, 3) := by decide +kernel
theorem dX9_init_8 : decode cX9_init 8 = .ok (.newarray .int, 2) := by decide +kernel
theorem dX9_init_10 : decode cX9_init 10 = .ok (.putfield 7, 3) := by decide +kernel
theorem dX9_init_13 : decode cX9_init 13 = .ok (.aload_n 0, 1) := by decide +kernel
theorem dX9_init_14 : decode cX9_init 14 = .ok (.sipush 3065, 3) := by decide +kernel
theorem dX9_init_17 : decode cX9_init 17 = .ok (.newarray .int, 2) := by decide +kernel
theorem dX9_init_19 : decode cX9_init 19 = .ok (.putfield 13, 3) := by decide +kernel
theorem dX9_init_22 : decode cX9_init 22 = .ok (.aload_n 0, 1) := by decide +kernel
theorem dX9_init_23 : decode cX9_init 23 = .ok (.bipush 8, 2) := by decide +kernel
theorem dX9_init_25 : decode cX9_init 25 = .ok (.newarray .int, 2) := by decide +kernel
theorem dX9_init_27 : decode cX9_init 27 = .ok (.putfield 16, 3) := by decide +kernel
theorem dX9_init_30 : decode cX9_init 30 = .ok (.aload_n 0, 1) := by decide +kernel
theorem dX9_init_31 : decode cX9_init 31 = .ok (.bipush 120, 2) := by decide +kernel
theorem dX9_init_33 : decode cX9_init 33 = .ok (.newarray .byte, 2) := by decide +kernel
theorem dX9_init_35 : decode cX9_init 35 = .ok (.putfield 19, 3) := by decide +kernel
theorem dX9_init_38 : decode cX9_init 38 = .ok (.aload_n 0, 1) := by decide +kernel
theorem dX9_init_39 : decode cX9_init 39 = .ok (.iconst (-1), 1) := by decide +kernel
theorem dX9_init_40 : decode cX9_init 40 = .ok (.putfield 23, 3) := by decide +kernel
theorem dX9_init_43 : decode cX9_init 43 = .ok (.aload_n 0, 1) := by decide +kernel
theorem dX9_init_44 : decode cX9_init 44 = .ok (.iconst (-1), 1) := by decide +kernel
theorem dX9_init_45 : decode cX9_init 45 = .ok (.putfield 27, 3) := by decide +kernel
theorem dX9_init_48 : decode cX9_init 48 = .ok (.aload_n 0, 1) := by decide +kernel
theorem dX9_init_49 : decode cX9_init 49 = .ok (.iconst (-1), 1) := by decide +kernel
theorem dX9_init_50 : decode cX9_init 50 = .ok (.putfield 30, 3) := by decide +kernel
theorem dX9_init_53 : decode cX9_init 53 = .ok (.aload_n 0, 1) := by decide +kernel
theorem dX9_init_54 : decode cX9_init 54 = .ok (.sipush 613, 3) := by decide +kernel
theorem dX9_init_57 : decode cX9_init 57 = .ok (.newarray .int, 2) := by decide +kernel
theorem dX9_init_59 : decode cX9_init 59 = .ok (.putfield 33, 3) := by decide +kernel
theorem dX9_init_62 : decode cX9_init 62 = .ok (.aload_n 0, 1) := by decide +kernel
theorem dX9_init_63 : decode cX9_init 63 = .ok (.bipush 10, 2) := by decide +kernel
theorem dX9_init_65 : decode cX9_init 65 = .ok (.newarray .int, 2) := by decide +kernel
theorem dX9_init_67 : decode cX9_init 67 = .ok (.putfield 36, 3) := by decide +kernel
theorem dX9_init_70 : decode cX9_init 70 = .ok (.aload_n 0, 1) := by decide +kernel
theorem dX9_init_71 : decode cX9_init 71 = .ok (.bipush 10, 2) := by decide +kernel
theorem dX9_init_73 : decode cX9_init 73 = .ok (.newarray .int, 2) := by decide +kernel
theorem dX9_init_75 : decode cX9_init 75 = .ok (.putfield 39, 3) := by decide +kernel
theorem dX9_init_78 : decode cX9_init 78 = .ok (.aload_n 0, 1) := by decide +kernel
theorem dX9_init_79 : decode cX9_init 79 = .ok (.bipush 10, 2) := by decide +kernel
theorem dX9_init_81 : decode cX9_init 81 = .ok (.newarray .int, 2) := by decide +kernel
theorem dX9_init_83 : decode cX9_init 83 = .ok (.putfield 42, 3) := by decide +kernel
theorem dX9_init_86 : decode cX9_init 86 = .ok (.aload_n 0, 1) := by decide +kernel
theorem dX9_init_87 : decode cX9_init 87 = .ok (.sipush 10240, 3) := by decide +kernel
theorem dX9_init_90 : decode cX9_init 90 = .ok (.newarray .int, 2) := by decide +kernel
theorem dX9_init_92 : decode cX9_init 92 = .ok (.putfield 45, 3) := by decide +kernel
theorem dX9_init_95 : decode cX9_init 95 = .ok (.aload_n 0, 1) := by decide +kernel
theorem dX9_init_96 : decode cX9_init 96 = .ok (.getfield 7, 3) := by decide +kernel
theorem dX9_init_99 : decode cX9_init 99 = .ok (.bipush 19, 2) := by decide +kernel
theorem dX9_init_101 : decode cX9_init 101 = .ok (.iconst 4, 1) := by decide +kernel
theorem dX9_init_102 : decode cX9_init 102 = .ok (.iastore, 1) := by decide +kernel
theorem dX9_init_103 : decode cX9_init 103 = .ok (.aload_n 0, 1) := by decide +kernel
theorem dX9_init_104 : decode cX9_init 104 = .ok (.getfield 7, 3) := by decide +kernel
theorem dX9_init_107 : decode cX9_init 107 = .ok (.bipush 20, 2) := by decide +kernel
theorem dX9_init_109 : decode cX9_init 109 = .ok (.iconst 1, 1) := by decide +kernel
theorem dX9_init_110 : decode cX9_init 110 = .ok (.iastore, 1) := by decide +kernel
theorem dX9_init_111 : decode cX9_init 111 = .ok (.return_, 1) := by decide +kernel
theorem dX9_thrown_0 : decode cX9_thrown 0 = .ok (.aload_n 0, 1) := by decide +kernel
theorem dX9_thrown_1 : decode cX9_thrown 1 = .ok (.getfield 48, 3) := by decide +kernel
theorem dX9_thrown_4 : decode cX9_thrown 4 = .ok (.ireturn, 1) := by decide +kernel
theorem dX9_in_0 : decode cX9_in 0 = .ok (.iload_n 0, 1) := by decide +kernel
theorem dX9_in_1 : decode cX9_in 1 = .ok (.iload_n 1, 1) := by decide +kernel
theorem dX9_in_2 : decode cX9_in 2 = .ok (.if_icmp .lt 12, 3) := by decide +kernel
theorem dX9_in_5 : decode cX9_in 5 = .ok (.iload_n 0, 1) := by decide +kernel
theorem dX9_in_6 : decode cX9_in 6 = .ok (.iload_n 2, 1) := by decide +kernel
theorem dX9_in_7 : decode cX9_in 7 = .ok (.if_icmp .gt 7, 3) := by decide +kernel
theorem dX9_in_10 : decode cX9_in 10 = .ok (.iconst 1, 1) := by decide +kernel
theorem dX9_in_11 : decode cX9_in 11 = .ok (.goto 4, 3) := by decide +kernel
theorem dX9_in_14 : decode cX9_in 14 = .ok (.iconst 0, 1) := by decide +kernel
theorem dX9_in_15 : decode cX9_in 15 = .ok (.ireturn, 1) := by decide +kernel
theorem dX9_begins_0 : decode cX9_begins 0 = .ok (.iconst 0, 1) := by decide +kernel
theorem dX9_begins_1 : decode cX9_begins 1 = .ok (.istore_n 1, 1) := by decide +kernel
theorem dX9_begins_2 : decode cX9_begins 2 = .ok (.iload_n 1, 1) := by decide +kernel
theorem dX9_begins_3 : decode cX9_begins 3 = .ok (.sipush 613, 3) := by decide +kernel
theorem dX9_begins_6 : decode cX9_begins 6 = .ok (.if_icmp .ge 21, 3) := by decide +kernel
theorem dX9_begins_9 : decode cX9_begins 9 = .ok (.aload_n 0, 1) := by decide +kernel
theorem dX9_begins_10 : decode cX9_begins 10 = .ok (.getfield 33, 3) := by decide +kernel
theorem dX9_begins_13 : decode cX9_begins 13 = .ok (.iload_n 1, 1) := by decide +kernel
theorem dX9_begins_14 : decode cX9_begins 14 = .ok (.aload_n 0, 1) := by decide +kernel
theorem dX9_begins_15 : decode cX9_begins 15 = .ok (.getfield 7, 3) := by decide +kernel
theorem dX9_begins_18 : decode cX9_begins 18 = .ok (.iload_n 1, 1) := by decide +kernel
theorem dX9_begins_19 : decode cX9_begins 19 = .ok (.iaload, 1) := by decide +kernel
theorem dX9_begins_20 : decode cX9_begins 20 = .ok (.iastore, 1) := by decide +kernel
theorem dX9_begins_21 : decode cX9_begins 21 = .ok (.iinc 1 1, 3) := by decide +kernel
theorem dX9_begins_24 : decode cX9_begins 24 = .ok (.goto (-22), 3) := by decide +kernel
theorem dX9_begins_27 : decode cX9_begins 27 = .ok (.return_, 1) := by decide +kernel
theorem dX9_records_0 : decode cX9_records 0 = .ok (.aload_n 0, 1) := by decide +kernel
theorem dX9_records_1 : decode cX9_records 1 = .ok (.getfield 51, 3) := by decide +kernel
theorem dX9_records_4 : decode cX9_records 4 = .ok (.iconst 5, 1) := by decide +kernel
theorem dX9_records_5 : decode cX9_records 5 = .ok (.if_icmp .ne 44, 3) := by decide +kernel
theorem dX9_records_8 : decode cX9_records 8 = .ok (.iconst 0, 1) := by decide +kernel
theorem dX9_records_9 : decode cX9_records 9 = .ok (.istore_n 1, 1) := by decide +kernel
theorem dX9_records_10 : decode cX9_records 10 = .ok (.iload_n 1, 1) := by decide +kernel
theorem dX9_records_11 : decode cX9_records 11 = .ok (.sipush 2452, 3) := by decide +kernel
theorem dX9_records_14 : decode cX9_records 14 = .ok (.if_icmp .ge 25, 3) := by decide +kernel
theorem dX9_records_17 : decode cX9_records 17 = .ok (.aload_n 0, 1) := by decide +kernel
theorem dX9_records_18 : decode cX9_records 18 = .ok (.getfield 13, 3) := by decide +kernel
theorem dX9_records_21 : decode cX9_records 21 = .ok (.iload_n 1, 1) := by decide +kernel
theorem dX9_records_22 : decode cX9_records 22 = .ok (.aload_n 0, 1) := by decide +kernel
theorem dX9_records_23 : decode cX9_records 23 = .ok (.getfield 13, 3) := by decide +kernel
theorem dX9_records_26 : decode cX9_records 26 = .ok (.iload_n 1, 1) := by decide +kernel
theorem dX9_records_27 : decode cX9_records 27 = .ok (.sipush 613, 3) := by decide +kernel
theorem dX9_records_30 : decode cX9_records 30 = .ok (.iadd, 1) := by decide +kernel
theorem dX9_records_31 : decode cX9_records 31 = .ok (.iaload, 1) := by decide +kernel
theorem dX9_records_32 : decode cX9_records 32 = .ok (.iastore, 1) := by decide +kernel
theorem dX9_records_33 : decode cX9_records 33 = .ok (.iinc 1 1, 3) := by decide +kernel
theorem dX9_records_36 : decode cX9_records 36 = .ok (.goto (-26), 3) := by decide +kernel
theorem dX9_records_39 : decode cX9_records 39 = .ok (.aload_n 0, 1) := by decide +kernel
theorem dX9_records_40 : decode cX9_records 40 = .ok (.dup, 1) := by decide +kernel
theorem dX9_records_41 : decode cX9_records 41 = .ok (.getfield 51, 3) := by decide +kernel
theorem dX9_records_44 : decode cX9_records 44 = .ok (.iconst 1, 1) := by decide +kernel
theorem dX9_records_45 : decode cX9_records 45 = .ok (.isub, 1) := by decide +kernel
theorem dX9_records_46 : decode cX9_records 46 = .ok (.putfield 51, 3) := by decide +kernel
theorem dX9_records_49 : decode cX9_records 49 = .ok (.iconst 0, 1) := by decide +kernel
theorem dX9_records_50 : decode cX9_records 50 = .ok (.istore_n 1, 1) := by decide +kernel
theorem dX9_records_51 : decode cX9_records 51 = .ok (.iload_n 1, 1) := by decide +kernel
theorem dX9_records_52 : decode cX9_records 52 = .ok (.sipush 613, 3) := by decide +kernel
theorem dX9_records_55 : decode cX9_records 55 = .ok (.if_icmp .ge 30, 3) := by decide +kernel
theorem dX9_records_58 : decode cX9_records 58 = .ok (.aload_n 0, 1) := by decide +kernel
theorem dX9_records_59 : decode cX9_records 59 = .ok (.getfield 13, 3) := by decide +kernel
theorem dX9_records_62 : decode cX9_records 62 = .ok (.sipush 613, 3) := by decide +kernel
theorem dX9_records_65 : decode cX9_records 65 = .ok (.aload_n 0, 1) := by decide +kernel
theorem dX9_records_66 : decode cX9_records 66 = .ok (.getfield 51, 3) := by decide +kernel
theorem dX9_records_69 : decode cX9_records 69 = .ok (.imul, 1) := by decide +kernel
theorem dX9_records_70 : decode cX9_records 70 = .ok (.iload_n 1, 1) := by decide +kernel
theorem dX9_records_71 : decode cX9_records 71 = .ok (.iadd, 1) := by decide +kernel
theorem dX9_records_72 : decode cX9_records 72 = .ok (.aload_n 0, 1) := by decide +kernel
theorem dX9_records_73 : decode cX9_records 73 = .ok (.getfield 33, 3) := by decide +kernel
theorem dX9_records_76 : decode cX9_records 76 = .ok (.iload_n 1, 1) := by decide +kernel
theorem dX9_records_77 : decode cX9_records 77 = .ok (.iaload, 1) := by decide +kernel
theorem dX9_records_78 : decode cX9_records 78 = .ok (.iastore, 1) := by decide +kernel
theorem dX9_records_79 : decode cX9_records 79 = .ok (.iinc 1 1, 3) := by decide +kernel
theorem dX9_records_82 : decode cX9_records 82 = .ok (.goto (-31), 3) := by decide +kernel
theorem dX9_records_85 : decode cX9_records 85 = .ok (.aload_n 0, 1) := by decide +kernel
theorem dX9_records_86 : decode cX9_records 86 = .ok (.dup, 1) := by decide +kernel
theorem dX9_records_87 : decode cX9_records 87 = .ok (.getfield 51, 3) := by decide +kernel
theorem dX9_records_90 : decode cX9_records 90 = .ok (.iconst 1, 1) := by decide +kernel
theorem dX9_records_91 : decode cX9_records 91 = .ok (.iadd, 1) := by decide +kernel
theorem dX9_records_92 : decode cX9_records 92 = .ok (.putfield 51, 3) := by decide +kernel
theorem dX9_records_95 : decode cX9_records 95 = .ok (.return_, 1) := by decide +kernel
theorem dX9_undo_0 : decode cX9_undo 0 = .ok (.aload_n 0, 1) := by decide +kernel
theorem dX9_undo_1 : decode cX9_undo 1 = .ok (.aload_n 0, 1) := by decide +kernel
theorem dX9_undo_2 : decode cX9_undo 2 = .ok (.getfield 51, 3) := by decide +kernel
theorem dX9_undo_5 : decode cX9_undo 5 = .ok (.ifCond .ne 7, 3) := by decide +kernel
theorem dX9_undo_8 : decode cX9_undo 8 = .ok (.iconst 1, 1) := by decide +kernel
theorem dX9_undo_9 : decode cX9_undo 9 = .ok (.goto 4, 3) := by decide +kernel
theorem dX9_undo_12 : decode cX9_undo 12 = .ok (.iconst 0, 1) := by decide +kernel
theorem dX9_undo_13 : decode cX9_undo 13 = .ok (.putfield 48, 3) := by decide +kernel
theorem dX9_undo_16 : decode cX9_undo 16 = .ok (.aload_n 0, 1) := by decide +kernel
theorem dX9_undo_17 : decode cX9_undo 17 = .ok (.getfield 48, 3) := by decide +kernel
theorem dX9_undo_20 : decode cX9_undo 20 = .ok (.ifCond .le 5, 3) := by decide +kernel
theorem dX9_undo_23 : decode cX9_undo 23 = .ok (.iconst 0, 1) := by decide +kernel
theorem dX9_undo_24 : decode cX9_undo 24 = .ok (.ireturn, 1) := by decide +kernel
theorem dX9_undo_25 : decode cX9_undo 25 = .ok (.aload_n 0, 1) := by decide +kernel
theorem dX9_undo_26 : decode cX9_undo 26 = .ok (.dup, 1) := by decide +kernel
theorem dX9_undo_27 : decode cX9_undo 27 = .ok (.getfield 51, 3) := by decide +kernel
theorem dX9_undo_30 : decode cX9_undo 30 = .ok (.iconst 1, 1) := by decide +kernel
theorem dX9_undo_31 : decode cX9_undo 31 = .ok (.isub, 1) := by decide +kernel
theorem dX9_undo_32 : decode cX9_undo 32 = .ok (.putfield 51, 3) := by decide +kernel
theorem dX9_undo_35 : decode cX9_undo 35 = .ok (.iconst 0, 1) := by decide +kernel
theorem dX9_undo_36 : decode cX9_undo 36 = .ok (.istore_n 1, 1) := by decide +kernel
theorem dX9_undo_37 : decode cX9_undo 37 = .ok (.iload_n 1, 1) := by decide +kernel
theorem dX9_undo_38 : decode cX9_undo 38 = .ok (.sipush 613, 3) := by decide +kernel
theorem dX9_undo_41 : decode cX9_undo 41 = .ok (.if_icmp .ge 30, 3) := by decide +kernel
theorem dX9_undo_44 : decode cX9_undo 44 = .ok (.aload_n 0, 1) := by decide +kernel
theorem dX9_undo_45 : decode cX9_undo 45 = .ok (.getfield 7, 3) := by decide +kernel
theorem dX9_undo_48 : decode cX9_undo 48 = .ok (.iload_n 1, 1) := by decide +kernel
theorem dX9_undo_49 : decode cX9_undo 49 = .ok (.aload_n 0, 1) := by decide +kernel
theorem dX9_undo_50 : decode cX9_undo 50 = .ok (.getfield 13, 3) := by decide +kernel
theorem dX9_undo_53 : decode cX9_undo 53 = .ok (.sipush 613, 3) := by decide +kernel
theorem dX9_undo_56 : decode cX9_undo 56 = .ok (.aload_n 0, 1) := by decide +kernel
theorem dX9_undo_57 : decode cX9_undo 57 = .ok (.getfield 51, 3) := by decide +kernel
theorem dX9_undo_60 : decode cX9_undo 60 = .ok (.imul, 1) := by decide +kernel
theorem dX9_undo_61 : decode cX9_undo 61 = .ok (.iload_n 1, 1) := by decide +kernel
theorem dX9_undo_62 : decode cX9_undo 62 = .ok (.iadd, 1) := by decide +kernel
theorem dX9_undo_63 : decode cX9_undo 63 = .ok (.iaload, 1) := by decide +kernel
theorem dX9_undo_64 : decode cX9_undo 64 = .ok (.iastore, 1) := by decide +kernel
theorem dX9_undo_65 : decode cX9_undo 65 = .ok (.iinc 1 1, 3) := by decide +kernel
theorem dX9_undo_68 : decode cX9_undo 68 = .ok (.goto (-31), 3) := by decide +kernel
theorem dX9_undo_71 : decode cX9_undo 71 = .ok (.aload_n 0, 1) := by decide +kernel
theorem dX9_undo_72 : decode cX9_undo 72 = .ok (.getfield 51, 3) := by decide +kernel
theorem dX9_undo_75 : decode cX9_undo 75 = .ok (.ireturn, 1) := by decide +kernel
theorem dX9_isResource_0 : decode cX9_isResource 0 = .ok (.iload_n 1, 1) := by decide +kernel
theorem dX9_isResource_1 : decode cX9_isResource 1 = .ok (.iconst 0, 1) := by decide +kernel
theorem dX9_isResource_2 : decode cX9_isResource 2 = .ok (.aload_n 0, 1) := by decide +kernel
theorem dX9_isResource_3 : decode cX9_isResource 3 = .ok (.getfield 7, 3) := by decide +kernel
theorem dX9_isResource_6 : decode cX9_isResource 6 = .ok (.iconst 0, 1) := by decide +kernel
theorem dX9_isResource_7 : decode cX9_isResource 7 = .ok (.iaload, 1) := by decide +kernel
theorem dX9_isResource_8 : decode cX9_isResource 8 = .ok (.iconst 1, 1) := by decide +kernel
theorem dX9_isResource_9 : decode cX9_isResource 9 = .ok (.isub, 1) := by decide +kernel
theorem dX9_isResource_10 : decode cX9_isResource 10 = .ok (.invokestatic 54, 3) := by decide +kernel
theorem dX9_isResource_13 : decode cX9_isResource 13 = .ok (.ireturn, 1) := by decide +kernel
theorem dX9_isBelow_0 : decode cX9_isBelow 0 = .ok (.iload_n 1, 1) := by decide +kernel
theorem dX9_isBelow_1 : decode cX9_isBelow 1 = .ok (.istore_n 3, 1) := by decide +kernel
theorem dX9_isBelow_2 : decode cX9_isBelow 2 = .ok (.iload_n 3, 1) := by decide +kernel
theorem dX9_isBelow_3 : decode cX9_isBelow 3 = .ok (.iconst (-1), 1) := by decide +kernel
theorem dX9_isBelow_4 : decode cX9_isBelow 4 = .ok (.if_icmp .eq 20, 3) := by decide +kernel
theorem dX9_isBelow_7 : decode cX9_isBelow 7 = .ok (.iload_n 3, 1) := by decide +kernel
theorem dX9_isBelow_8 : decode cX9_isBelow 8 = .ok (.iload_n 2, 1) := by decide +kernel
theorem dX9_isBelow_9 : decode cX9_isBelow 9 = .ok (.if_icmp .eq 15, 3) := by decide +kernel
theorem dX9_isBelow_12 : decode cX9_isBelow 12 = .ok (.aload_n 0, 1) := by decide +kernel
theorem dX9_isBelow_13 : decode cX9_isBelow 13 = .ok (.getfield 7, 3) := by decide +kernel
theorem dX9_isBelow_16 : decode cX9_isBelow 16 = .ok (.iconst 1, 1) := by decide +kernel
theorem dX9_isBelow_17 : decode cX9_isBelow 17 = .ok (.iload_n 3, 1) := by decide +kernel
theorem dX9_isBelow_18 : decode cX9_isBelow 18 = .ok (.iadd, 1) := by decide +kernel
theorem dX9_isBelow_19 : decode cX9_isBelow 19 = .ok (.iaload, 1) := by decide +kernel
theorem dX9_isBelow_20 : decode cX9_isBelow 20 = .ok (.istore_n 3, 1) := by decide +kernel
theorem dX9_isBelow_21 : decode cX9_isBelow 21 = .ok (.goto (-19), 3) := by decide +kernel
theorem dX9_isBelow_24 : decode cX9_isBelow 24 = .ok (.iload_n 3, 1) := by decide +kernel
theorem dX9_isBelow_25 : decode cX9_isBelow 25 = .ok (.iload_n 2, 1) := by decide +kernel
theorem dX9_isBelow_26 : decode cX9_isBelow 26 = .ok (.if_icmp .ne 7, 3) := by decide +kernel
theorem dX9_isBelow_29 : decode cX9_isBelow 29 = .ok (.iconst 1, 1) := by decide +kernel
theorem dX9_isBelow_30 : decode cX9_isBelow 30 = .ok (.goto 4, 3) := by decide +kernel
theorem dX9_isBelow_33 : decode cX9_isBelow 33 = .ok (.iconst 0, 1) := by decide +kernel
theorem dX9_isBelow_34 : decode cX9_isBelow 34 = .ok (.ireturn, 1) := by decide +kernel
theorem dX9_overlaps_0 : decode cX9_overlaps 0 = .ok (.aload_n 0, 1) := by decide +kernel
theorem dX9_overlaps_1 : decode cX9_overlaps 1 = .ok (.iload_n 1, 1) := by decide +kernel
theorem dX9_overlaps_2 : decode cX9_overlaps 2 = .ok (.iload_n 2, 1) := by decide +kernel
theorem dX9_overlaps_3 : decode cX9_overlaps 3 = .ok (.invokevirtual 58, 3) := by decide +kernel
theorem dX9_overlaps_6 : decode cX9_overlaps 6 = .ok (.ifCond .ne 12, 3) := by decide +kernel
theorem dX9_overlaps_9 : decode cX9_overlaps 9 = .ok (.aload_n 0, 1) := by decide +kernel
theorem dX9_overlaps_10 : decode cX9_overlaps 10 = .ok (.iload_n 2, 1) := by decide +kernel
theorem dX9_overlaps_11 : decode cX9_overlaps 11 = .ok (.iload_n 1, 1) := by decide +kernel
theorem dX9_overlaps_12 : decode cX9_overlaps 12 = .ok (.invokevirtual 58, 3) := by decide +kernel
theorem dX9_overlaps_15 : decode cX9_overlaps 15 = .ok (.ifCond .eq 7, 3) := by decide +kernel
theorem dX9_overlaps_18 : decode cX9_overlaps 18 = .ok (.iconst 1, 1) := by decide +kernel
theorem dX9_overlaps_19 : decode cX9_overlaps 19 = .ok (.goto 4, 3) := by decide +kernel
theorem dX9_overlaps_22 : decode cX9_overlaps 22 = .ok (.iconst 0, 1) := by decide +kernel
theorem dX9_overlaps_23 : decode cX9_overlaps 23 = .ok (.ireturn, 1) := by decide +kernel
theorem dX9_addResource_0 : decode cX9_addResource 0 = .ok (.aload_n 0, 1) := by decide +kernel
theorem dX9_addResource_1 : decode cX9_addResource 1 = .ok (.iload_n 1, 1) := by decide +kernel
theorem dX9_addResource_2 : decode cX9_addResource 2 = .ok (.iconst (-1), 1) := by decide +kernel
theorem dX9_addResource_3 : decode cX9_addResource 3 = .ok (.if_icmp .eq 15, 3) := by decide +kernel
theorem dX9_addResource_6 : decode cX9_addResource 6 = .ok (.aload_n 0, 1) := by decide +kernel
theorem dX9_addResource_7 : decode cX9_addResource 7 = .ok (.iload_n 1, 1) := by decide +kernel
theorem dX9_addResource_8 : decode cX9_addResource 8 = .ok (.invokevirtual 62, 3) := by decide +kernel
theorem dX9_addResource_11 : decode cX9_addResource 11 = .ok (.ifCond .ne 7, 3) := by decide +kernel
theorem dX9_addResource_14 : decode cX9_addResource 14 = .ok (.iconst 1, 1) := by decide +kernel
theorem dX9_addResource_15 : decode cX9_addResource 15 = .ok (.goto 19, 3) := by decide +kernel
theorem dX9_addResource_18 : decode cX9_addResource 18 = .ok (.aload_n 0, 1) := by decide +kernel
theorem dX9_addResource_19 : decode cX9_addResource 19 = .ok (.getfield 7, 3) := by decide +kernel
theorem dX9_addResource_22 : decode cX9_addResource 22 = .ok (.iconst 0, 1) := by decide +kernel
theorem dX9_addResource_23 : decode cX9_addResource 23 = .ok (.iaload, 1) := by decide +kernel
theorem dX9_addResource_24 : decode cX9_addResource 24 = .ok (.bipush 16, 2) := by decide +kernel
theorem dX9_addResource_26 : decode cX9_addResource 26 = .ok (.if_icmp .ne 7, 3) := by decide +kernel
theorem dX9_addResource_29 : decode cX9_addResource 29 = .ok (.iconst 2, 1) := by decide +kernel
theorem dX9_addResource_30 : decode cX9_addResource 30 = .ok (.goto 4, 3) := by decide +kernel
theorem dX9_addResource_33 : decode cX9_addResource 33 = .ok (.iconst 0, 1) := by decide +kernel
theorem dX9_addResource_34 : decode cX9_addResource 34 = .ok (.putfield 48, 3) := by decide +kernel
theorem dX9_addResource_37 : decode cX9_addResource 37 = .ok (.aload_n 0, 1) := by decide +kernel
theorem dX9_addResource_38 : decode cX9_addResource 38 = .ok (.getfield 48, 3) := by decide +kernel
theorem dX9_addResource_41 : decode cX9_addResource 41 = .ok (.ifCond .le 5, 3) := by decide +kernel
theorem dX9_addResource_44 : decode cX9_addResource 44 = .ok (.iconst 0, 1) := by decide +kernel
theorem dX9_addResource_45 : decode cX9_addResource 45 = .ok (.ireturn, 1) := by decide +kernel
theorem dX9_addResource_46 : decode cX9_addResource 46 = .ok (.aload_n 0, 1) := by decide +kernel
theorem dX9_addResource_47 : decode cX9_addResource 47 = .ok (.invokevirtual 66, 3) := by decide +kernel
theorem dX9_addResource_50 : decode cX9_addResource 50 = .ok (.aload_n 0, 1) := by decide +kernel
theorem dX9_addResource_51 : decode cX9_addResource 51 = .ok (.getfield 7, 3) := by decide +kernel
theorem dX9_addResource_54 : decode cX9_addResource 54 = .ok (.iconst 1, 1) := by decide +kernel
theorem dX9_addResource_55 : decode cX9_addResource 55 = .ok (.aload_n 0, 1) := by decide +kernel
theorem dX9_addResource_56 : decode cX9_addResource 56 = .ok (.getfield 7, 3) := by decide +kernel
theorem dX9_addResource_59 : decode cX9_addResource 59 = .ok (.iconst 0, 1) := by decide +kernel
theorem dX9_addResource_60 : decode cX9_addResource 60 = .ok (.iaload, 1) := by decide +kernel
theorem dX9_addResource_61 : decode cX9_addResource 61 = .ok (.iadd, 1) := by decide +kernel
theorem dX9_addResource_62 : decode cX9_addResource 62 = .ok (.iload_n 1, 1) := by decide +kernel
theorem dX9_addResource_63 : decode cX9_addResource 63 = .ok (.iastore, 1) := by decide +kernel
theorem dX9_addResource_64 : decode cX9_addResource 64 = .ok (.aload_n 0, 1) := by decide +kernel
theorem dX9_addResource_65 : decode cX9_addResource 65 = .ok (.getfield 7, 3) := by decide +kernel
theorem dX9_addResource_68 : decode cX9_addResource 68 = .ok (.iconst 0, 1) := by decide +kernel
theorem dX9_addResource_69 : decode cX9_addResource 69 = .ok (.dup2, 1) := by decide +kernel
theorem dX9_addResource_70 : decode cX9_addResource 70 = .ok (.iaload, 1) := by decide +kernel
theorem dX9_addResource_71 : decode cX9_addResource 71 = .ok (.iconst 1, 1) := by decide +kernel
theorem dX9_addResource_72 : decode cX9_addResource 72 = .ok (.iadd, 1) := by decide +kernel
theorem dX9_addResource_73 : decode cX9_addResource 73 = .ok (.iastore, 1) := by decide +kernel
theorem dX9_addResource_74 : decode cX9_addResource 74 = .ok (.aload_n 0, 1) := by decide +kernel
theorem dX9_addResource_75 : decode cX9_addResource 75 = .ok (.invokevirtual 69, 3) := by decide +kernel
theorem dX9_addResource_78 : decode cX9_addResource 78 = .ok (.aload_n 0, 1) := by decide +kernel
theorem dX9_addResource_79 : decode cX9_addResource 79 = .ok (.getfield 7, 3) := by decide +kernel
theorem dX9_addResource_82 : decode cX9_addResource 82 = .ok (.iconst 0, 1) := by decide +kernel
theorem dX9_addResource_83 : decode cX9_addResource 83 = .ok (.iaload, 1) := by decide +kernel
theorem dX9_addResource_84 : decode cX9_addResource 84 = .ok (.iconst 1, 1) := by decide +kernel
theorem dX9_addResource_85 : decode cX9_addResource 85 = .ok (.isub, 1) := by decide +kernel
theorem dX9_addResource_86 : decode cX9_addResource 86 = .ok (.ireturn, 1) := by decide +kernel
theorem dX9_resources_0 : decode cX9_resources 0 = .ok (.aload_n 0, 1) := by decide +kernel
theorem dX9_resources_1 : decode cX9_resources 1 = .ok (.iconst 0, 1) := by decide +kernel
theorem dX9_resources_2 : decode cX9_resources 2 = .ok (.putfield 48, 3) := by decide +kernel
theorem dX9_resources_5 : decode cX9_resources 5 = .ok (.aload_n 0, 1) := by decide +kernel
theorem dX9_resources_6 : decode cX9_resources 6 = .ok (.getfield 7, 3) := by decide +kernel
theorem dX9_resources_9 : decode cX9_resources 9 = .ok (.iconst 0, 1) := by decide +kernel
theorem dX9_resources_10 : decode cX9_resources 10 = .ok (.iaload, 1) := by decide +kernel
theorem dX9_resources_11 : decode cX9_resources 11 = .ok (.ireturn, 1) := by decide +kernel
theorem dX9_resource_0 : decode cX9_resource 0 = .ok (.aload_n 0, 1) := by decide +kernel
theorem dX9_resource_1 : decode cX9_resource 1 = .ok (.aload_n 0, 1) := by decide +kernel
theorem dX9_resource_2 : decode cX9_resource 2 = .ok (.iload_n 1, 1) := by decide +kernel
theorem dX9_resource_3 : decode cX9_resource 3 = .ok (.invokevirtual 62, 3) := by decide +kernel
theorem dX9_resource_6 : decode cX9_resource 6 = .ok (.ifCond .ne 7, 3) := by decide +kernel
theorem dX9_resource_9 : decode cX9_resource 9 = .ok (.iconst 1, 1) := by decide +kernel
theorem dX9_resource_10 : decode cX9_resource 10 = .ok (.goto 17, 3) := by decide +kernel
theorem dX9_resource_13 : decode cX9_resource 13 = .ok (.iload_n 2, 1) := by decide +kernel
theorem dX9_resource_14 : decode cX9_resource 14 = .ok (.iconst 0, 1) := by decide +kernel
theorem dX9_resource_15 : decode cX9_resource 15 = .ok (.iconst 4, 1) := by decide +kernel
theorem dX9_resource_16 : decode cX9_resource 16 = .ok (.invokestatic 54, 3) := by decide +kernel
theorem dX9_resource_19 : decode cX9_resource 19 = .ok (.ifCond .ne 7, 3) := by decide +kernel
theorem dX9_resource_22 : decode cX9_resource 22 = .ok (.iconst 2, 1) := by decide +kernel
theorem dX9_resource_23 : decode cX9_resource 23 = .ok (.goto 4, 3) := by decide +kernel
theorem dX9_resource_26 : decode cX9_resource 26 = .ok (.iconst 0, 1) := by decide +kernel
theorem dX9_resource_27 : decode cX9_resource 27 = .ok (.putfield 48, 3) := by decide +kernel
theorem dX9_resource_30 : decode cX9_resource 30 = .ok (.aload_n 0, 1) := by decide +kernel
theorem dX9_resource_31 : decode cX9_resource 31 = .ok (.getfield 48, 3) := by decide +kernel
theorem dX9_resource_34 : decode cX9_resource 34 = .ok (.ifCond .le 5, 3) := by decide +kernel
theorem dX9_resource_37 : decode cX9_resource 37 = .ok (.iconst 0, 1) := by decide +kernel
theorem dX9_resource_38 : decode cX9_resource 38 = .ok (.ireturn, 1) := by decide +kernel
theorem dX9_resource_39 : decode cX9_resource 39 = .ok (.iconst 0, 1) := by decide +kernel
theorem dX9_resource_40 : decode cX9_resource 40 = .ok (.istore_n 3, 1) := by decide +kernel
theorem dX9_resource_41 : decode cX9_resource 41 = .ok (.iconst 0, 1) := by decide +kernel
theorem dX9_resource_42 : decode cX9_resource 42 = .ok (.istore 4, 2) := by decide +kernel
theorem dX9_resource_44 : decode cX9_resource 44 = .ok (.iconst (-1), 1) := by decide +kernel
theorem dX9_resource_45 : decode cX9_resource 45 = .ok (.istore 5, 2) := by decide +kernel
theorem dX9_resource_47 : decode cX9_resource 47 = .ok (.iconst 0, 1) := by decide +kernel
theorem dX9_resource_48 : decode cX9_resource 48 = .ok (.istore 6, 2) := by decide +kernel
theorem dX9_resource_50 : decode cX9_resource 50 = .ok (.iconst 0, 1) := by decide +kernel
theorem dX9_resource_51 : decode cX9_resource 51 = .ok (.istore 7, 2) := by decide +kernel
theorem dX9_resource_53 : decode cX9_resource 53 = .ok (.iload 7, 2) := by decide +kernel
theorem dX9_resource_55 : decode cX9_resource 55 = .ok (.aload_n 0, 1) := by decide +kernel
theorem dX9_resource_56 : decode cX9_resource 56 = .ok (.getfield 7, 3) := by decide +kernel
theorem dX9_resource_59 : decode cX9_resource 59 = .ok (.iconst 0, 1) := by decide +kernel
theorem dX9_resource_60 : decode cX9_resource 60 = .ok (.iaload, 1) := by decide +kernel
theorem dX9_resource_61 : decode cX9_resource 61 = .ok (.if_icmp .ge 56, 3) := by decide +kernel
theorem dX9_resource_64 : decode cX9_resource 64 = .ok (.iload_n 3, 1) := by decide +kernel
theorem dX9_resource_65 : decode cX9_resource 65 = .ok (.iload 7, 2) := by decide +kernel
theorem dX9_resource_67 : decode cX9_resource 67 = .ok (.iload_n 1, 1) := by decide +kernel
theorem dX9_resource_68 : decode cX9_resource 68 = .ok (.if_icmp .eq 17, 3) := by decide +kernel
theorem dX9_resource_71 : decode cX9_resource 71 = .ok (.aload_n 0, 1) := by decide +kernel
theorem dX9_resource_72 : decode cX9_resource 72 = .ok (.iload_n 1, 1) := by decide +kernel
theorem dX9_resource_73 : decode cX9_resource 73 = .ok (.iload 7, 2) := by decide +kernel
theorem dX9_resource_75 : decode cX9_resource 75 = .ok (.invokevirtual 58, 3) := by decide +kernel
theorem dX9_resource_78 : decode cX9_resource 78 = .ok (.ifCond .eq 7, 3) := by decide +kernel
theorem dX9_resource_81 : decode cX9_resource 81 = .ok (.iconst 1, 1) := by decide +kernel
theorem dX9_resource_82 : decode cX9_resource 82 = .ok (.goto 4, 3) := by decide +kernel
theorem dX9_resource_85 : decode cX9_resource 85 = .ok (.iconst 0, 1) := by decide +kernel
theorem dX9_resource_86 : decode cX9_resource 86 = .ok (.iadd, 1) := by decide +kernel
theorem dX9_resource_87 : decode cX9_resource 87 = .ok (.istore_n 3, 1) := by decide +kernel
theorem dX9_resource_88 : decode cX9_resource 88 = .ok (.iload 4, 2) := by decide +kernel
theorem dX9_resource_90 : decode cX9_resource 90 = .ok (.aload_n 0, 1) := by decide +kernel
theorem dX9_resource_91 : decode cX9_resource 91 = .ok (.iload 7, 2) := by decide +kernel
theorem dX9_resource_93 : decode cX9_resource 93 = .ok (.iload_n 1, 1) := by decide +kernel
theorem dX9_resource_94 : decode cX9_resource 94 = .ok (.invokevirtual 58, 3) := by decide +kernel
theorem dX9_resource_97 : decode cX9_resource 97 = .ok (.ifCond .eq 10, 3) := by decide +kernel
theorem dX9_resource_100 : decode cX9_resource 100 = .ok (.iconst 1, 1) := by decide +kernel
theorem dX9_resource_101 : decode cX9_resource 101 = .ok (.iload 7, 2) := by decide +kernel
theorem dX9_resource_103 : decode cX9_resource 103 = .ok (.ishl, 1) := by decide +kernel
theorem dX9_resource_104 : decode cX9_resource 104 = .ok (.goto 4, 3) := by decide +kernel
theorem dX9_resource_107 : decode cX9_resource 107 = .ok (.iconst 0, 1) := by decide +kernel
theorem dX9_resource_108 : decode cX9_resource 108 = .ok (.ior, 1) := by decide +kernel
theorem dX9_resource_109 : decode cX9_resource 109 = .ok (.istore 4, 2) := by decide +kernel
theorem dX9_resource_111 : decode cX9_resource 111 = .ok (.iinc 7 1, 3) := by decide +kernel
theorem dX9_resource_114 : decode cX9_resource 114 = .ok (.goto (-61), 3) := by decide +kernel
theorem dX9_resource_117 : decode cX9_resource 117 = .ok (.bipush 9, 2) := by decide +kernel
theorem dX9_resource_119 : decode cX9_resource 119 = .ok (.istore 7, 2) := by decide +kernel
theorem dX9_resource_121 : decode cX9_resource 121 = .ok (.iload 7, 2) := by decide +kernel
theorem dX9_resource_123 : decode cX9_resource 123 = .ok (.ifCond .lt 113, 3) := by decide +kernel
theorem dX9_resource_126 : decode cX9_resource 126 = .ok (.iconst 0, 1) := by decide +kernel
theorem dX9_resource_127 : decode cX9_resource 127 = .ok (.istore 8, 2) := by decide +kernel
theorem dX9_resource_129 : decode cX9_resource 129 = .ok (.iload 8, 2) := by decide +kernel
theorem dX9_resource_131 : decode cX9_resource 131 = .ok (.aload_n 0, 1) := by decide +kernel
theorem dX9_resource_132 : decode cX9_resource 132 = .ok (.getfield 7, 3) := by decide +kernel
theorem dX9_resource_135 : decode cX9_resource 135 = .ok (.iconst 0, 1) := by decide +kernel
theorem dX9_resource_136 : decode cX9_resource 136 = .ok (.iaload, 1) := by decide +kernel
theorem dX9_resource_137 : decode cX9_resource 137 = .ok (.if_icmp .ge 93, 3) := by decide +kernel
theorem dX9_resource_140 : decode cX9_resource 140 = .ok (.aload_n 0, 1) := by decide +kernel
theorem dX9_resource_141 : decode cX9_resource 141 = .ok (.iload 7, 2) := by decide +kernel
theorem dX9_resource_143 : decode cX9_resource 143 = .ok (.invokevirtual 72, 3) := by decide +kernel
theorem dX9_resource_146 : decode cX9_resource 146 = .ok (.ifCond .eq 23, 3) := by decide +kernel
theorem dX9_resource_149 : decode cX9_resource 149 = .ok (.aload_n 0, 1) := by decide +kernel
theorem dX9_resource_150 : decode cX9_resource 150 = .ok (.iload 7, 2) := by decide +kernel
theorem dX9_resource_152 : decode cX9_resource 152 = .ok (.iconst 3, 1) := by decide +kernel
theorem dX9_resource_153 : decode cX9_resource 153 = .ok (.invokevirtual 75, 3) := by decide +kernel
theorem dX9_resource_156 : decode cX9_resource 156 = .ok (.iload 8, 2) := by decide +kernel
theorem dX9_resource_158 : decode cX9_resource 158 = .ok (.ishr, 1) := by decide +kernel
theorem dX9_resource_159 : decode cX9_resource 159 = .ok (.iconst 1, 1) := by decide +kernel
theorem dX9_resource_160 : decode cX9_resource 160 = .ok (.iand, 1) := by decide +kernel
theorem dX9_resource_161 : decode cX9_resource 161 = .ok (.iconst 1, 1) := by decide +kernel
theorem dX9_resource_162 : decode cX9_resource 162 = .ok (.if_icmp .ne 7, 3) := by decide +kernel
theorem dX9_resource_165 : decode cX9_resource 165 = .ok (.iconst 1, 1) := by decide +kernel
theorem dX9_resource_166 : decode cX9_resource 166 = .ok (.goto 4, 3) := by decide +kernel
theorem dX9_resource_169 : decode cX9_resource 169 = .ok (.iconst 0, 1) := by decide +kernel
theorem dX9_resource_170 : decode cX9_resource 170 = .ok (.istore 9, 2) := by decide +kernel
theorem dX9_resource_172 : decode cX9_resource 172 = .ok (.iload 9, 2) := by decide +kernel
theorem dX9_resource_174 : decode cX9_resource 174 = .ok (.ifCond .eq 18, 3) := by decide +kernel
theorem dX9_resource_177 : decode cX9_resource 177 = .ok (.aload_n 0, 1) := by decide +kernel
theorem dX9_resource_178 : decode cX9_resource 178 = .ok (.iload_n 1, 1) := by decide +kernel
theorem dX9_resource_179 : decode cX9_resource 179 = .ok (.iload 8, 2) := by decide +kernel
theorem dX9_resource_181 : decode cX9_resource 181 = .ok (.invokevirtual 58, 3) := by decide +kernel
theorem dX9_resource_184 : decode cX9_resource 184 = .ok (.ifCond .eq 8, 3) := by decide +kernel
theorem dX9_resource_187 : decode cX9_resource 187 = .ok (.iload 7, 2) := by decide +kernel
theorem dX9_resource_189 : decode cX9_resource 189 = .ok (.goto 5, 3) := by decide +kernel
theorem dX9_resource_192 : decode cX9_resource 192 = .ok (.iload 5, 2) := by decide +kernel
theorem dX9_resource_194 : decode cX9_resource 194 = .ok (.istore 5, 2) := by decide +kernel
theorem dX9_resource_196 : decode cX9_resource 196 = .ok (.iload 6, 2) := by decide +kernel
theorem dX9_resource_198 : decode cX9_resource 198 = .ok (.iload 9, 2) := by decide +kernel
theorem dX9_resource_200 : decode cX9_resource 200 = .ok (.ifCond .eq 20, 3) := by decide +kernel
theorem dX9_resource_203 : decode cX9_resource 203 = .ok (.aload_n 0, 1) := by decide +kernel
theorem dX9_resource_204 : decode cX9_resource 204 = .ok (.iload_n 1, 1) := by decide +kernel
theorem dX9_resource_205 : decode cX9_resource 205 = .ok (.iload 8, 2) := by decide +kernel
theorem dX9_resource_207 : decode cX9_resource 207 = .ok (.invokevirtual 79, 3) := by decide +kernel
theorem dX9_resource_210 : decode cX9_resource 210 = .ok (.ifCond .eq 10, 3) := by decide +kernel
theorem dX9_resource_213 : decode cX9_resource 213 = .ok (.iconst 1, 1) := by decide +kernel
theorem dX9_resource_214 : decode cX9_resource 214 = .ok (.iload 7, 2) := by decide +kernel
theorem dX9_resource_216 : decode cX9_resource 216 = .ok (.ishl, 1) := by decide +kernel
theorem dX9_resource_217 : decode cX9_resource 217 = .ok (.goto 4, 3) := by decide +kernel
theorem dX9_resource_220 : decode cX9_resource 220 = .ok (.iconst 0, 1) := by decide +kernel
theorem dX9_resource_221 : decode cX9_resource 221 = .ok (.ior, 1) := by decide +kernel
theorem dX9_resource_222 : decode cX9_resource 222 = .ok (.istore 6, 2) := by decide +kernel
theorem dX9_resource_224 : decode cX9_resource 224 = .ok (.iinc 8 1, 3) := by decide +kernel
theorem dX9_resource_227 : decode cX9_resource 227 = .ok (.goto (-98), 3) := by decide +kernel
theorem dX9_resource_230 : decode cX9_resource 230 = .ok (.iinc 7 (-1), 3) := by decide +kernel
theorem dX9_resource_233 : decode cX9_resource 233 = .ok (.goto (-112), 3) := by decide +kernel
theorem dX9_resource_236 : decode cX9_resource 236 = .ok (.iload_n 2, 1) := by decide +kernel
theorem dX9_resource_237 : decode cX9_resource 237 = .ok (.ifCond .ne 14, 3) := by decide +kernel
theorem dX9_resource_240 : decode cX9_resource 240 = .ok (.aload_n 0, 1) := by decide +kernel
theorem dX9_resource_241 : decode cX9_resource 241 = .ok (.getfield 7, 3) := by decide +kernel
theorem dX9_resource_244 : decode cX9_resource 244 = .ok (.iconst 1, 1) := by decide +kernel
theorem dX9_resource_245 : decode cX9_resource 245 = .ok (.iload_n 1, 1) := by decide +kernel
theorem dX9_resource_246 : decode cX9_resource 246 = .ok (.iadd, 1) := by decide +kernel
theorem dX9_resource_247 : decode cX9_resource 247 = .ok (.iaload, 1) := by decide +kernel
theorem dX9_resource_248 : decode cX9_resource 248 = .ok (.goto 34, 3) := by decide +kernel
theorem dX9_resource_251 : decode cX9_resource 251 = .ok (.iload_n 2, 1) := by decide +kernel
theorem dX9_resource_252 : decode cX9_resource 252 = .ok (.iconst 1, 1) := by decide +kernel
theorem dX9_resource_253 : decode cX9_resource 253 = .ok (.if_icmp .ne 7, 3) := by decide +kernel
theorem dX9_resource_256 : decode cX9_resource 256 = .ok (.iload_n 3, 1) := by decide +kernel
theorem dX9_resource_257 : decode cX9_resource 257 = .ok (.goto 25, 3) := by decide +kernel
theorem dX9_resource_260 : decode cX9_resource 260 = .ok (.iload_n 2, 1) := by decide +kernel
theorem dX9_resource_261 : decode cX9_resource 261 = .ok (.iconst 2, 1) := by decide +kernel
theorem dX9_resource_262 : decode cX9_resource 262 = .ok (.if_icmp .ne 8, 3) := by decide +kernel
theorem dX9_resource_265 : decode cX9_resource 265 = .ok (.iload 4, 2) := by decide +kernel
theorem dX9_resource_267 : decode cX9_resource 267 = .ok (.goto 15, 3) := by decide +kernel
theorem dX9_resource_270 : decode cX9_resource 270 = .ok (.iload_n 2, 1) := by decide +kernel
theorem dX9_resource_271 : decode cX9_resource 271 = .ok (.iconst 3, 1) := by decide +kernel
theorem dX9_resource_272 : decode cX9_resource 272 = .ok (.if_icmp .ne 8, 3) := by decide +kernel
theorem dX9_resource_275 : decode cX9_resource 275 = .ok (.iload 5, 2) := by decide +kernel
theorem dX9_resource_277 : decode cX9_resource 277 = .ok (.goto 5, 3) := by decide +kernel
theorem dX9_resource_280 : decode cX9_resource 280 = .ok (.iload 6, 2) := by decide +kernel
theorem dX9_resource_282 : decode cX9_resource 282 = .ok (.ireturn, 1) := by decide +kernel
theorem dX9_overlap_0 : decode cX9_overlap 0 = .ok (.aload_n 0, 1) := by decide +kernel
theorem dX9_overlap_1 : decode cX9_overlap 1 = .ok (.aload_n 0, 1) := by decide +kernel
theorem dX9_overlap_2 : decode cX9_overlap 2 = .ok (.iload_n 1, 1) := by decide +kernel
theorem dX9_overlap_3 : decode cX9_overlap 3 = .ok (.invokevirtual 62, 3) := by decide +kernel
theorem dX9_overlap_6 : decode cX9_overlap 6 = .ok (.ifCond .eq 11, 3) := by decide +kernel
theorem dX9_overlap_9 : decode cX9_overlap 9 = .ok (.aload_n 0, 1) := by decide +kernel
theorem dX9_overlap_10 : decode cX9_overlap 10 = .ok (.iload_n 2, 1) := by decide +kernel
theorem dX9_overlap_11 : decode cX9_overlap 11 = .ok (.invokevirtual 62, 3) := by decide +kernel
theorem dX9_overlap_14 : decode cX9_overlap 14 = .ok (.ifCond .ne 7, 3) := by decide +kernel
theorem dX9_overlap_17 : decode cX9_overlap 17 = .ok (.iconst 1, 1) := by decide +kernel
theorem dX9_overlap_18 : decode cX9_overlap 18 = .ok (.goto 4, 3) := by decide +kernel
theorem dX9_overlap_21 : decode cX9_overlap 21 = .ok (.iconst 0, 1) := by decide +kernel
theorem dX9_overlap_22 : decode cX9_overlap 22 = .ok (.putfield 48, 3) := by decide +kernel
theorem dX9_overlap_25 : decode cX9_overlap 25 = .ok (.aload_n 0, 1) := by decide +kernel
theorem dX9_overlap_26 : decode cX9_overlap 26 = .ok (.getfield 48, 3) := by decide +kernel
theorem dX9_overlap_29 : decode cX9_overlap 29 = .ok (.ifCond .ne 16, 3) := by decide +kernel
theorem dX9_overlap_32 : decode cX9_overlap 32 = .ok (.aload_n 0, 1) := by decide +kernel
theorem dX9_overlap_33 : decode cX9_overlap 33 = .ok (.iload_n 1, 1) := by decide +kernel
theorem dX9_overlap_34 : decode cX9_overlap 34 = .ok (.iload_n 2, 1) := by decide +kernel
theorem dX9_overlap_35 : decode cX9_overlap 35 = .ok (.invokevirtual 79, 3) := by decide +kernel
theorem dX9_overlap_38 : decode cX9_overlap 38 = .ok (.ifCond .eq 7, 3) := by decide +kernel
theorem dX9_overlap_41 : decode cX9_overlap 41 = .ok (.iconst 1, 1) := by decide +kernel
theorem dX9_overlap_42 : decode cX9_overlap 42 = .ok (.goto 4, 3) := by decide +kernel
theorem dX9_overlap_45 : decode cX9_overlap 45 = .ok (.iconst 0, 1) := by decide +kernel
theorem dX9_overlap_46 : decode cX9_overlap 46 = .ok (.ireturn, 1) := by decide +kernel
theorem dX9_of_0 : decode cX9_of 0 = .ok (.aload_n 0, 1) := by decide +kernel
theorem dX9_of_1 : decode cX9_of 1 = .ok (.getfield 7, 3) := by decide +kernel
theorem dX9_of_4 : decode cX9_of 4 = .ok (.bipush 32, 2) := by decide +kernel
theorem dX9_of_6 : decode cX9_of 6 = .ok (.bipush 6, 2) := by decide +kernel
theorem dX9_of_8 : decode cX9_of 8 = .ok (.iload_n 1, 1) := by decide +kernel
theorem dX9_of_9 : decode cX9_of 9 = .ok (.imul, 1) := by decide +kernel
theorem dX9_of_10 : decode cX9_of 10 = .ok (.iadd, 1) := by decide +kernel
theorem dX9_of_11 : decode cX9_of 11 = .ok (.iload_n 2, 1) := by decide +kernel
theorem dX9_of_12 : decode cX9_of 12 = .ok (.iadd, 1) := by decide +kernel
theorem dX9_of_13 : decode cX9_of 13 = .ok (.iaload, 1) := by decide +kernel
theorem dX9_of_14 : decode cX9_of 14 = .ok (.ireturn, 1) := by decide +kernel
theorem dX9_puts_0 : decode cX9_puts 0 = .ok (.aload_n 0, 1) := by decide +kernel
theorem dX9_puts_1 : decode cX9_puts 1 = .ok (.getfield 7, 3) := by decide +kernel
theorem dX9_puts_4 : decode cX9_puts 4 = .ok (.bipush 32, 2) := by decide +kernel
theorem dX9_puts_6 : decode cX9_puts 6 = .ok (.bipush 6, 2) := by decide +kernel
theorem dX9_puts_8 : decode cX9_puts 8 = .ok (.iload_n 1, 1) := by decide +kernel
theorem dX9_puts_9 : decode cX9_puts 9 = .ok (.imul, 1) := by decide +kernel
theorem dX9_puts_10 : decode cX9_puts 10 = .ok (.iadd, 1) := by decide +kernel
theorem dX9_puts_11 : decode cX9_puts 11 = .ok (.iload_n 2, 1) := by decide +kernel
theorem dX9_puts_12 : decode cX9_puts 12 = .ok (.iadd, 1) := by decide +kernel
theorem dX9_puts_13 : decode cX9_puts 13 = .ok (.iload_n 3, 1) := by decide +kernel
theorem dX9_puts_14 : decode cX9_puts 14 = .ok (.iastore, 1) := by decide +kernel
theorem dX9_puts_15 : decode cX9_puts 15 = .ok (.return_, 1) := by decide +kernel
theorem dX9_isTask_0 : decode cX9_isTask 0 = .ok (.iload_n 1, 1) := by decide +kernel
theorem dX9_isTask_1 : decode cX9_isTask 1 = .ok (.iconst 0, 1) := by decide +kernel
theorem dX9_isTask_2 : decode cX9_isTask 2 = .ok (.bipush 9, 2) := by decide +kernel
theorem dX9_isTask_4 : decode cX9_isTask 4 = .ok (.invokestatic 54, 3) := by decide +kernel
theorem dX9_isTask_7 : decode cX9_isTask 7 = .ok (.ifCond .eq 17, 3) := by decide +kernel
theorem dX9_isTask_10 : decode cX9_isTask 10 = .ok (.aload_n 0, 1) := by decide +kernel
theorem dX9_isTask_11 : decode cX9_isTask 11 = .ok (.iload_n 1, 1) := by decide +kernel
theorem dX9_isTask_12 : decode cX9_isTask 12 = .ok (.iconst 0, 1) := by decide +kernel
theorem dX9_isTask_13 : decode cX9_isTask 13 = .ok (.invokevirtual 75, 3) := by decide +kernel
theorem dX9_isTask_16 : decode cX9_isTask 16 = .ok (.iconst 1, 1) := by decide +kernel
theorem dX9_isTask_17 : decode cX9_isTask 17 = .ok (.if_icmp .ne 7, 3) := by decide +kernel
theorem dX9_isTask_20 : decode cX9_isTask 20 = .ok (.iconst 1, 1) := by decide +kernel
theorem dX9_isTask_21 : decode cX9_isTask 21 = .ok (.goto 4, 3) := by decide +kernel
theorem dX9_isTask_24 : decode cX9_isTask 24 = .ok (.iconst 0, 1) := by decide +kernel
theorem dX9_isTask_25 : decode cX9_isTask 25 = .ok (.ireturn, 1) := by decide +kernel
theorem dX9_isWaiting_0 : decode cX9_isWaiting 0 = .ok (.aload_n 0, 1) := by decide +kernel
theorem dX9_isWaiting_1 : decode cX9_isWaiting 1 = .ok (.iload_n 1, 1) := by decide +kernel
theorem dX9_isWaiting_2 : decode cX9_isWaiting 2 = .ok (.invokevirtual 72, 3) := by decide +kernel
theorem dX9_isWaiting_5 : decode cX9_isWaiting 5 = .ok (.ifCond .eq 17, 3) := by decide +kernel
theorem dX9_isWaiting_8 : decode cX9_isWaiting 8 = .ok (.aload_n 0, 1) := by decide +kernel
theorem dX9_isWaiting_9 : decode cX9_isWaiting 9 = .ok (.iload_n 1, 1) := by decide +kernel
theorem dX9_isWaiting_10 : decode cX9_isWaiting 10 = .ok (.iconst 4, 1) := by decide +kernel
theorem dX9_isWaiting_11 : decode cX9_isWaiting 11 = .ok (.invokevirtual 75, 3) := by decide +kernel
theorem dX9_isWaiting_14 : decode cX9_isWaiting 14 = .ok (.iconst 1, 1) := by decide +kernel
theorem dX9_isWaiting_15 : decode cX9_isWaiting 15 = .ok (.if_icmp .ne 7, 3) := by decide +kernel
theorem dX9_isWaiting_18 : decode cX9_isWaiting 18 = .ok (.iconst 1, 1) := by decide +kernel
theorem dX9_isWaiting_19 : decode cX9_isWaiting 19 = .ok (.goto 4, 3) := by decide +kernel
theorem dX9_isWaiting_22 : decode cX9_isWaiting 22 = .ok (.iconst 0, 1) := by decide +kernel
theorem dX9_isWaiting_23 : decode cX9_isWaiting 23 = .ok (.ireturn, 1) := by decide +kernel
theorem dX9_bits_0 : decode cX9_bits 0 = .ok (.iconst 0, 1) := by decide +kernel
theorem dX9_bits_1 : decode cX9_bits 1 = .ok (.istore_n 1, 1) := by decide +kernel
theorem dX9_bits_2 : decode cX9_bits 2 = .ok (.iconst 0, 1) := by decide +kernel
theorem dX9_bits_3 : decode cX9_bits 3 = .ok (.istore_n 2, 1) := by decide +kernel
theorem dX9_bits_4 : decode cX9_bits 4 = .ok (.iload_n 2, 1) := by decide +kernel
theorem dX9_bits_5 : decode cX9_bits 5 = .ok (.bipush 16, 2) := by decide +kernel
theorem dX9_bits_7 : decode cX9_bits 7 = .ok (.if_icmp .ge 17, 3) := by decide +kernel
theorem dX9_bits_10 : decode cX9_bits 10 = .ok (.iload_n 1, 1) := by decide +kernel
theorem dX9_bits_11 : decode cX9_bits 11 = .ok (.iload_n 0, 1) := by decide +kernel
theorem dX9_bits_12 : decode cX9_bits 12 = .ok (.iload_n 2, 1) := by decide +kernel
theorem dX9_bits_13 : decode cX9_bits 13 = .ok (.ishr, 1) := by decide +kernel
theorem dX9_bits_14 : decode cX9_bits 14 = .ok (.iconst 1, 1) := by decide +kernel
theorem dX9_bits_15 : decode cX9_bits 15 = .ok (.iand, 1) := by decide +kernel
theorem dX9_bits_16 : decode cX9_bits 16 = .ok (.iadd, 1) := by decide +kernel
theorem dX9_bits_17 : decode cX9_bits 17 = .ok (.istore_n 1, 1) := by decide +kernel
theorem dX9_bits_18 : decode cX9_bits 18 = .ok (.iinc 2 1, 3) := by decide +kernel
theorem dX9_bits_21 : decode cX9_bits 21 = .ok (.goto (-17), 3) := by decide +kernel
theorem dX9_bits_24 : decode cX9_bits 24 = .ok (.iload_n 1, 1) := by decide +kernel
theorem dX9_bits_25 : decode cX9_bits 25 = .ok (.ireturn, 1) := by decide +kernel
theorem dX9_inTheWay_0 : decode cX9_inTheWay 0 = .ok (.iconst 0, 1) := by decide +kernel
theorem dX9_inTheWay_1 : decode cX9_inTheWay 1 = .ok (.istore_n 3, 1) := by decide +kernel
theorem dX9_inTheWay_2 : decode cX9_inTheWay 2 = .ok (.iconst 0, 1) := by decide +kernel
theorem dX9_inTheWay_3 : decode cX9_inTheWay 3 = .ok (.istore 4, 2) := by decide +kernel
theorem dX9_inTheWay_5 : decode cX9_inTheWay 5 = .ok (.iload 4, 2) := by decide +kernel
theorem dX9_inTheWay_7 : decode cX9_inTheWay 7 = .ok (.bipush 10, 2) := by decide +kernel
theorem dX9_inTheWay_9 : decode cX9_inTheWay 9 = .ok (.if_icmp .ge 81, 3) := by decide +kernel
theorem dX9_inTheWay_12 : decode cX9_inTheWay 12 = .ok (.iconst 0, 1) := by decide +kernel
theorem dX9_inTheWay_13 : decode cX9_inTheWay 13 = .ok (.istore 5, 2) := by decide +kernel
theorem dX9_inTheWay_15 : decode cX9_inTheWay 15 = .ok (.iload 5, 2) := by decide +kernel
theorem dX9_inTheWay_17 : decode cX9_inTheWay 17 = .ok (.aload_n 0, 1) := by decide +kernel
theorem dX9_inTheWay_18 : decode cX9_inTheWay 18 = .ok (.getfield 7, 3) := by decide +kernel
theorem dX9_inTheWay_21 : decode cX9_inTheWay 21 = .ok (.iconst 0, 1) := by decide +kernel
theorem dX9_inTheWay_22 : decode cX9_inTheWay 22 = .ok (.iaload, 1) := by decide +kernel
theorem dX9_inTheWay_23 : decode cX9_inTheWay 23 = .ok (.if_icmp .ge 61, 3) := by decide +kernel
theorem dX9_inTheWay_26 : decode cX9_inTheWay 26 = .ok (.iload 4, 2) := by decide +kernel
theorem dX9_inTheWay_28 : decode cX9_inTheWay 28 = .ok (.iload_n 1, 1) := by decide +kernel
theorem dX9_inTheWay_29 : decode cX9_inTheWay 29 = .ok (.if_icmp .eq 55, 3) := by decide +kernel
theorem dX9_inTheWay_32 : decode cX9_inTheWay 32 = .ok (.aload_n 0, 1) := by decide +kernel
theorem dX9_inTheWay_33 : decode cX9_inTheWay 33 = .ok (.iload 4, 2) := by decide +kernel
theorem dX9_inTheWay_35 : decode cX9_inTheWay 35 = .ok (.invokevirtual 72, 3) := by decide +kernel
theorem dX9_inTheWay_38 : decode cX9_inTheWay 38 = .ok (.ifCond .eq 46, 3) := by decide +kernel
theorem dX9_inTheWay_41 : decode cX9_inTheWay 41 = .ok (.iload_n 3, 1) := by decide +kernel
theorem dX9_inTheWay_42 : decode cX9_inTheWay 42 = .ok (.aload_n 0, 1) := by decide +kernel
theorem dX9_inTheWay_43 : decode cX9_inTheWay 43 = .ok (.iload 4, 2) := by decide +kernel
theorem dX9_inTheWay_45 : decode cX9_inTheWay 45 = .ok (.iconst 3, 1) := by decide +kernel
theorem dX9_inTheWay_46 : decode cX9_inTheWay 46 = .ok (.invokevirtual 75, 3) := by decide +kernel
theorem dX9_inTheWay_49 : decode cX9_inTheWay 49 = .ok (.iload 5, 2) := by decide +kernel
theorem dX9_inTheWay_51 : decode cX9_inTheWay 51 = .ok (.ishr, 1) := by decide +kernel
theorem dX9_inTheWay_52 : decode cX9_inTheWay 52 = .ok (.iconst 1, 1) := by decide +kernel
theorem dX9_inTheWay_53 : decode cX9_inTheWay 53 = .ok (.iand, 1) := by decide +kernel
theorem dX9_inTheWay_54 : decode cX9_inTheWay 54 = .ok (.iconst 1, 1) := by decide +kernel
theorem dX9_inTheWay_55 : decode cX9_inTheWay 55 = .ok (.if_icmp .ne 20, 3) := by decide +kernel
theorem dX9_inTheWay_58 : decode cX9_inTheWay 58 = .ok (.aload_n 0, 1) := by decide +kernel
theorem dX9_inTheWay_59 : decode cX9_inTheWay 59 = .ok (.iload_n 2, 1) := by decide +kernel
theorem dX9_inTheWay_60 : decode cX9_inTheWay 60 = .ok (.iload 5, 2) := by decide +kernel
theorem dX9_inTheWay_62 : decode cX9_inTheWay 62 = .ok (.invokevirtual 79, 3) := by decide +kernel
theorem dX9_inTheWay_65 : decode cX9_inTheWay 65 = .ok (.ifCond .eq 10, 3) := by decide +kernel
theorem dX9_inTheWay_68 : decode cX9_inTheWay 68 = .ok (.iconst 1, 1) := by decide +kernel
theorem dX9_inTheWay_69 : decode cX9_inTheWay 69 = .ok (.iload 4, 2) := by decide +kernel
theorem dX9_inTheWay_71 : decode cX9_inTheWay 71 = .ok (.ishl, 1) := by decide +kernel
theorem dX9_inTheWay_72 : decode cX9_inTheWay 72 = .ok (.goto 4, 3) := by decide +kernel
theorem dX9_inTheWay_75 : decode cX9_inTheWay 75 = .ok (.iconst 0, 1) := by decide +kernel
theorem dX9_inTheWay_76 : decode cX9_inTheWay 76 = .ok (.ior, 1) := by decide +kernel
theorem dX9_inTheWay_77 : decode cX9_inTheWay 77 = .ok (.istore_n 3, 1) := by decide +kernel
theorem dX9_inTheWay_78 : decode cX9_inTheWay 78 = .ok (.iinc 5 1, 3) := by decide +kernel
theorem dX9_inTheWay_81 : decode cX9_inTheWay 81 = .ok (.goto (-66), 3) := by decide +kernel
theorem dX9_inTheWay_84 : decode cX9_inTheWay 84 = .ok (.iinc 4 1, 3) := by decide +kernel
theorem dX9_inTheWay_87 : decode cX9_inTheWay 87 = .ok (.goto (-82), 3) := by decide +kernel
theorem dX9_inTheWay_90 : decode cX9_inTheWay 90 = .ok (.iload_n 3, 1) := by decide +kernel
theorem dX9_inTheWay_91 : decode cX9_inTheWay 91 = .ok (.ireturn, 1) := by decide +kernel
theorem dX9_waitsFor_0 : decode cX9_waitsFor 0 = .ok (.aload_n 0, 1) := by decide +kernel
theorem dX9_waitsFor_1 : decode cX9_waitsFor 1 = .ok (.iload_n 1, 1) := by decide +kernel
theorem dX9_waitsFor_2 : decode cX9_waitsFor 2 = .ok (.invokevirtual 82, 3) := by decide +kernel
theorem dX9_waitsFor_5 : decode cX9_waitsFor 5 = .ok (.ifCond .eq 17, 3) := by decide +kernel
theorem dX9_waitsFor_8 : decode cX9_waitsFor 8 = .ok (.aload_n 0, 1) := by decide +kernel
theorem dX9_waitsFor_9 : decode cX9_waitsFor 9 = .ok (.iload_n 1, 1) := by decide +kernel
theorem dX9_waitsFor_10 : decode cX9_waitsFor 10 = .ok (.aload_n 0, 1) := by decide +kernel
theorem dX9_waitsFor_11 : decode cX9_waitsFor 11 = .ok (.iload_n 1, 1) := by decide +kernel
theorem dX9_waitsFor_12 : decode cX9_waitsFor 12 = .ok (.iconst 5, 1) := by decide +kernel
theorem dX9_waitsFor_13 : decode cX9_waitsFor 13 = .ok (.invokevirtual 75, 3) := by decide +kernel
theorem dX9_waitsFor_16 : decode cX9_waitsFor 16 = .ok (.invokevirtual 85, 3) := by decide +kernel
theorem dX9_waitsFor_19 : decode cX9_waitsFor 19 = .ok (.goto 4, 3) := by decide +kernel
theorem dX9_waitsFor_22 : decode cX9_waitsFor 22 = .ok (.iconst 0, 1) := by decide +kernel
theorem dX9_waitsFor_23 : decode cX9_waitsFor 23 = .ok (.ireturn, 1) := by decide +kernel
theorem dX9_grants_0 : decode cX9_grants 0 = .ok (.aload_n 0, 1) := by decide +kernel
theorem dX9_grants_1 : decode cX9_grants 1 = .ok (.iload_n 1, 1) := by decide +kernel
theorem dX9_grants_2 : decode cX9_grants 2 = .ok (.iconst 3, 1) := by decide +kernel
theorem dX9_grants_3 : decode cX9_grants 3 = .ok (.aload_n 0, 1) := by decide +kernel
theorem dX9_grants_4 : decode cX9_grants 4 = .ok (.iload_n 1, 1) := by decide +kernel
theorem dX9_grants_5 : decode cX9_grants 5 = .ok (.iconst 3, 1) := by decide +kernel
theorem dX9_grants_6 : decode cX9_grants 6 = .ok (.invokevirtual 75, 3) := by decide +kernel
theorem dX9_grants_9 : decode cX9_grants 9 = .ok (.iconst 1, 1) := by decide +kernel
theorem dX9_grants_10 : decode cX9_grants 10 = .ok (.iload_n 2, 1) := by decide +kernel
theorem dX9_grants_11 : decode cX9_grants 11 = .ok (.ishl, 1) := by decide +kernel
theorem dX9_grants_12 : decode cX9_grants 12 = .ok (.ior, 1) := by decide +kernel
theorem dX9_grants_13 : decode cX9_grants 13 = .ok (.invokevirtual 88, 3) := by decide +kernel
theorem dX9_grants_16 : decode cX9_grants 16 = .ok (.aload_n 0, 1) := by decide +kernel
theorem dX9_grants_17 : decode cX9_grants 17 = .ok (.iload_n 1, 1) := by decide +kernel
theorem dX9_grants_18 : decode cX9_grants 18 = .ok (.iconst 4, 1) := by decide +kernel
theorem dX9_grants_19 : decode cX9_grants 19 = .ok (.iconst 0, 1) := by decide +kernel
theorem dX9_grants_20 : decode cX9_grants 20 = .ok (.invokevirtual 88, 3) := by decide +kernel
theorem dX9_grants_23 : decode cX9_grants 23 = .ok (.aload_n 0, 1) := by decide +kernel
theorem dX9_grants_24 : decode cX9_grants 24 = .ok (.getfield 16, 3) := by decide +kernel
theorem dX9_grants_27 : decode cX9_grants 27 = .ok (.bipush 7, 2) := by decide +kernel
theorem dX9_grants_29 : decode cX9_grants 29 = .ok (.dup2, 1) := by decide +kernel
theorem dX9_grants_30 : decode cX9_grants 30 = .ok (.iaload, 1) := by decide +kernel
theorem dX9_grants_31 : decode cX9_grants 31 = .ok (.iconst 1, 1) := by decide +kernel
theorem dX9_grants_32 : decode cX9_grants 32 = .ok (.iadd, 1) := by decide +kernel
theorem dX9_grants_33 : decode cX9_grants 33 = .ok (.iastore, 1) := by decide +kernel
theorem dX9_grants_34 : decode cX9_grants 34 = .ok (.return_, 1) := by decide +kernel
theorem dX9_waits_0 : decode cX9_waits 0 = .ok (.aload_n 0, 1) := by decide +kernel
theorem dX9_waits_1 : decode cX9_waits 1 = .ok (.iload_n 1, 1) := by decide +kernel
theorem dX9_waits_2 : decode cX9_waits 2 = .ok (.iconst 4, 1) := by decide +kernel
theorem dX9_waits_3 : decode cX9_waits 3 = .ok (.iconst 1, 1) := by decide +kernel
theorem dX9_waits_4 : decode cX9_waits 4 = .ok (.invokevirtual 88, 3) := by decide +kernel
theorem dX9_waits_7 : decode cX9_waits 7 = .ok (.aload_n 0, 1) := by decide +kernel
theorem dX9_waits_8 : decode cX9_waits 8 = .ok (.iload_n 1, 1) := by decide +kernel
theorem dX9_waits_9 : decode cX9_waits 9 = .ok (.iconst 5, 1) := by decide +kernel
theorem dX9_waits_10 : decode cX9_waits 10 = .ok (.iload_n 2, 1) := by decide +kernel
theorem dX9_waits_11 : decode cX9_waits 11 = .ok (.invokevirtual 88, 3) := by decide +kernel
theorem dX9_waits_14 : decode cX9_waits 14 = .ok (.aload_n 0, 1) := by decide +kernel
theorem dX9_waits_15 : decode cX9_waits 15 = .ok (.getfield 7, 3) := by decide +kernel
theorem dX9_waits_18 : decode cX9_waits 18 = .ok (.bipush 22, 2) := by decide +kernel
theorem dX9_waits_20 : decode cX9_waits 20 = .ok (.aload_n 0, 1) := by decide +kernel
theorem dX9_waits_21 : decode cX9_waits 21 = .ok (.getfield 7, 3) := by decide +kernel
theorem dX9_waits_24 : decode cX9_waits 24 = .ok (.bipush 21, 2) := by decide +kernel
theorem dX9_waits_26 : decode cX9_waits 26 = .ok (.iaload, 1) := by decide +kernel
theorem dX9_waits_27 : decode cX9_waits 27 = .ok (.iadd, 1) := by decide +kernel
theorem dX9_waits_28 : decode cX9_waits 28 = .ok (.iload_n 1, 1) := by decide +kernel
theorem dX9_waits_29 : decode cX9_waits 29 = .ok (.iastore, 1) := by decide +kernel
theorem dX9_waits_30 : decode cX9_waits 30 = .ok (.aload_n 0, 1) := by decide +kernel
theorem dX9_waits_31 : decode cX9_waits 31 = .ok (.getfield 7, 3) := by decide +kernel
theorem dX9_waits_34 : decode cX9_waits 34 = .ok (.bipush 21, 2) := by decide +kernel
theorem dX9_waits_36 : decode cX9_waits 36 = .ok (.dup2, 1) := by decide +kernel
theorem dX9_waits_37 : decode cX9_waits 37 = .ok (.iaload, 1) := by decide +kernel
theorem dX9_waits_38 : decode cX9_waits 38 = .ok (.iconst 1, 1) := by decide +kernel
theorem dX9_waits_39 : decode cX9_waits 39 = .ok (.iadd, 1) := by decide +kernel
theorem dX9_waits_40 : decode cX9_waits 40 = .ok (.iastore, 1) := by decide +kernel
theorem dX9_waits_41 : decode cX9_waits 41 = .ok (.return_, 1) := by decide +kernel
theorem dX9_placeOf_0 : decode cX9_placeOf 0 = .ok (.iconst (-1), 1) := by decide +kernel
theorem dX9_placeOf_1 : decode cX9_placeOf 1 = .ok (.istore_n 2, 1) := by decide +kernel
theorem dX9_placeOf_2 : decode cX9_placeOf 2 = .ok (.iconst 0, 1) := by decide +kernel
theorem dX9_placeOf_3 : decode cX9_placeOf 3 = .ok (.istore_n 3, 1) := by decide +kernel
theorem dX9_placeOf_4 : decode cX9_placeOf 4 = .ok (.iload_n 3, 1) := by decide +kernel
theorem dX9_placeOf_5 : decode cX9_placeOf 5 = .ok (.aload_n 0, 1) := by decide +kernel
theorem dX9_placeOf_6 : decode cX9_placeOf 6 = .ok (.getfield 7, 3) := by decide +kernel
theorem dX9_placeOf_9 : decode cX9_placeOf 9 = .ok (.bipush 21, 2) := by decide +kernel
theorem dX9_placeOf_11 : decode cX9_placeOf 11 = .ok (.iaload, 1) := by decide +kernel
theorem dX9_placeOf_12 : decode cX9_placeOf 12 = .ok (.if_icmp .ge 28, 3) := by decide +kernel
theorem dX9_placeOf_15 : decode cX9_placeOf 15 = .ok (.aload_n 0, 1) := by decide +kernel
theorem dX9_placeOf_16 : decode cX9_placeOf 16 = .ok (.getfield 7, 3) := by decide +kernel
theorem dX9_placeOf_19 : decode cX9_placeOf 19 = .ok (.bipush 22, 2) := by decide +kernel
theorem dX9_placeOf_21 : decode cX9_placeOf 21 = .ok (.iload_n 3, 1) := by decide +kernel
theorem dX9_placeOf_22 : decode cX9_placeOf 22 = .ok (.iadd, 1) := by decide +kernel
theorem dX9_placeOf_23 : decode cX9_placeOf 23 = .ok (.iaload, 1) := by decide +kernel
theorem dX9_placeOf_24 : decode cX9_placeOf 24 = .ok (.iload_n 1, 1) := by decide +kernel
theorem dX9_placeOf_25 : decode cX9_placeOf 25 = .ok (.if_icmp .ne 7, 3) := by decide +kernel
theorem dX9_placeOf_28 : decode cX9_placeOf 28 = .ok (.iload_n 3, 1) := by decide +kernel
theorem dX9_placeOf_29 : decode cX9_placeOf 29 = .ok (.goto 4, 3) := by decide +kernel
theorem dX9_placeOf_32 : decode cX9_placeOf 32 = .ok (.iload_n 2, 1) := by decide +kernel
theorem dX9_placeOf_33 : decode cX9_placeOf 33 = .ok (.istore_n 2, 1) := by decide +kernel
theorem dX9_placeOf_34 : decode cX9_placeOf 34 = .ok (.iinc 3 1, 3) := by decide +kernel
theorem dX9_placeOf_37 : decode cX9_placeOf 37 = .ok (.goto (-33), 3) := by decide +kernel
theorem dX9_placeOf_40 : decode cX9_placeOf 40 = .ok (.iload_n 2, 1) := by decide +kernel
theorem dX9_placeOf_41 : decode cX9_placeOf 41 = .ok (.ireturn, 1) := by decide +kernel
theorem dX9_leaves_0 : decode cX9_leaves 0 = .ok (.aload_n 0, 1) := by decide +kernel
theorem dX9_leaves_1 : decode cX9_leaves 1 = .ok (.iload_n 1, 1) := by decide +kernel
theorem dX9_leaves_2 : decode cX9_leaves 2 = .ok (.invokevirtual 92, 3) := by decide +kernel
theorem dX9_leaves_5 : decode cX9_leaves 5 = .ok (.istore_n 2, 1) := by decide +kernel
theorem dX9_leaves_6 : decode cX9_leaves 6 = .ok (.iload_n 2, 1) := by decide +kernel
theorem dX9_leaves_7 : decode cX9_leaves 7 = .ok (.iconst (-1), 1) := by decide +kernel
theorem dX9_leaves_8 : decode cX9_leaves 8 = .ok (.if_icmp .eq 53, 3) := by decide +kernel
theorem dX9_leaves_11 : decode cX9_leaves 11 = .ok (.aload_n 0, 1) := by decide +kernel
theorem dX9_leaves_12 : decode cX9_leaves 12 = .ok (.getfield 7, 3) := by decide +kernel
theorem dX9_leaves_15 : decode cX9_leaves 15 = .ok (.bipush 21, 2) := by decide +kernel
theorem dX9_leaves_17 : decode cX9_leaves 17 = .ok (.dup2, 1) := by decide +kernel
theorem dX9_leaves_18 : decode cX9_leaves 18 = .ok (.iaload, 1) := by decide +kernel
theorem dX9_leaves_19 : decode cX9_leaves 19 = .ok (.iconst 1, 1) := by decide +kernel
theorem dX9_leaves_20 : decode cX9_leaves 20 = .ok (.isub, 1) := by decide +kernel
theorem dX9_leaves_21 : decode cX9_leaves 21 = .ok (.iastore, 1) := by decide +kernel
theorem dX9_leaves_22 : decode cX9_leaves 22 = .ok (.iload_n 2, 1) := by decide +kernel
theorem dX9_leaves_23 : decode cX9_leaves 23 = .ok (.istore_n 3, 1) := by decide +kernel
theorem dX9_leaves_24 : decode cX9_leaves 24 = .ok (.iload_n 3, 1) := by decide +kernel
theorem dX9_leaves_25 : decode cX9_leaves 25 = .ok (.aload_n 0, 1) := by decide +kernel
theorem dX9_leaves_26 : decode cX9_leaves 26 = .ok (.getfield 7, 3) := by decide +kernel
theorem dX9_leaves_29 : decode cX9_leaves 29 = .ok (.bipush 21, 2) := by decide +kernel
theorem dX9_leaves_31 : decode cX9_leaves 31 = .ok (.iaload, 1) := by decide +kernel
theorem dX9_leaves_32 : decode cX9_leaves 32 = .ok (.if_icmp .ge 29, 3) := by decide +kernel
theorem dX9_leaves_35 : decode cX9_leaves 35 = .ok (.aload_n 0, 1) := by decide +kernel
theorem dX9_leaves_36 : decode cX9_leaves 36 = .ok (.getfield 7, 3) := by decide +kernel
theorem dX9_leaves_39 : decode cX9_leaves 39 = .ok (.bipush 22, 2) := by decide +kernel
theorem dX9_leaves_41 : decode cX9_leaves 41 = .ok (.iload_n 3, 1) := by decide +kernel
theorem dX9_leaves_42 : decode cX9_leaves 42 = .ok (.iadd, 1) := by decide +kernel
theorem dX9_leaves_43 : decode cX9_leaves 43 = .ok (.aload_n 0, 1) := by decide +kernel
theorem dX9_leaves_44 : decode cX9_leaves 44 = .ok (.getfield 7, 3) := by decide +kernel
theorem dX9_leaves_47 : decode cX9_leaves 47 = .ok (.bipush 22, 2) := by decide +kernel
theorem dX9_leaves_49 : decode cX9_leaves 49 = .ok (.iload_n 3, 1) := by decide +kernel
theorem dX9_leaves_50 : decode cX9_leaves 50 = .ok (.iadd, 1) := by decide +kernel
theorem dX9_leaves_51 : decode cX9_leaves 51 = .ok (.iconst 1, 1) := by decide +kernel
theorem dX9_leaves_52 : decode cX9_leaves 52 = .ok (.iadd, 1) := by decide +kernel
theorem dX9_leaves_53 : decode cX9_leaves 53 = .ok (.iaload, 1) := by decide +kernel
theorem dX9_leaves_54 : decode cX9_leaves 54 = .ok (.iastore, 1) := by decide +kernel
theorem dX9_leaves_55 : decode cX9_leaves 55 = .ok (.iinc 3 1, 3) := by decide +kernel
theorem dX9_leaves_58 : decode cX9_leaves 58 = .ok (.goto (-34), 3) := by decide +kernel
theorem dX9_leaves_61 : decode cX9_leaves 61 = .ok (.return_, 1) := by decide +kernel
theorem dX9_settles_0 : decode cX9_settles 0 = .ok (.iconst 0, 1) := by decide +kernel
theorem dX9_settles_1 : decode cX9_settles 1 = .ok (.istore_n 1, 1) := by decide +kernel
theorem dX9_settles_2 : decode cX9_settles 2 = .ok (.iload_n 1, 1) := by decide +kernel
theorem dX9_settles_3 : decode cX9_settles 3 = .ok (.aload_n 0, 1) := by decide +kernel
theorem dX9_settles_4 : decode cX9_settles 4 = .ok (.getfield 7, 3) := by decide +kernel
theorem dX9_settles_7 : decode cX9_settles 7 = .ok (.bipush 21, 2) := by decide +kernel
theorem dX9_settles_9 : decode cX9_settles 9 = .ok (.iaload, 1) := by decide +kernel
theorem dX9_settles_10 : decode cX9_settles 10 = .ok (.if_icmp .ge 62, 3) := by decide +kernel
theorem dX9_settles_13 : decode cX9_settles 13 = .ok (.aload_n 0, 1) := by decide +kernel
theorem dX9_settles_14 : decode cX9_settles 14 = .ok (.getfield 7, 3) := by decide +kernel
theorem dX9_settles_17 : decode cX9_settles 17 = .ok (.bipush 22, 2) := by decide +kernel
theorem dX9_settles_19 : decode cX9_settles 19 = .ok (.iload_n 1, 1) := by decide +kernel
theorem dX9_settles_20 : decode cX9_settles 20 = .ok (.iadd, 1) := by decide +kernel
theorem dX9_settles_21 : decode cX9_settles 21 = .ok (.iaload, 1) := by decide +kernel
theorem dX9_settles_22 : decode cX9_settles 22 = .ok (.istore_n 2, 1) := by decide +kernel
theorem dX9_settles_23 : decode cX9_settles 23 = .ok (.aload_n 0, 1) := by decide +kernel
theorem dX9_settles_24 : decode cX9_settles 24 = .ok (.iload_n 2, 1) := by decide +kernel
theorem dX9_settles_25 : decode cX9_settles 25 = .ok (.invokevirtual 96, 3) := by decide +kernel
theorem dX9_settles_28 : decode cX9_settles 28 = .ok (.ifCond .ne 7, 3) := by decide +kernel
theorem dX9_settles_31 : decode cX9_settles 31 = .ok (.iconst 1, 1) := by decide +kernel
theorem dX9_settles_32 : decode cX9_settles 32 = .ok (.goto 4, 3) := by decide +kernel
theorem dX9_settles_35 : decode cX9_settles 35 = .ok (.iconst 0, 1) := by decide +kernel
theorem dX9_settles_36 : decode cX9_settles 36 = .ok (.istore_n 3, 1) := by decide +kernel
theorem dX9_settles_37 : decode cX9_settles 37 = .ok (.iload_n 3, 1) := by decide +kernel
theorem dX9_settles_38 : decode cX9_settles 38 = .ok (.ifCond .eq 19, 3) := by decide +kernel
theorem dX9_settles_41 : decode cX9_settles 41 = .ok (.aload_n 0, 1) := by decide +kernel
theorem dX9_settles_42 : decode cX9_settles 42 = .ok (.iload_n 2, 1) := by decide +kernel
theorem dX9_settles_43 : decode cX9_settles 43 = .ok (.invokevirtual 99, 3) := by decide +kernel
theorem dX9_settles_46 : decode cX9_settles 46 = .ok (.aload_n 0, 1) := by decide +kernel
theorem dX9_settles_47 : decode cX9_settles 47 = .ok (.iload_n 2, 1) := by decide +kernel
theorem dX9_settles_48 : decode cX9_settles 48 = .ok (.aload_n 0, 1) := by decide +kernel
theorem dX9_settles_49 : decode cX9_settles 49 = .ok (.iload_n 2, 1) := by decide +kernel
theorem dX9_settles_50 : decode cX9_settles 50 = .ok (.iconst 5, 1) := by decide +kernel
theorem dX9_settles_51 : decode cX9_settles 51 = .ok (.invokevirtual 75, 3) := by decide +kernel
theorem dX9_settles_54 : decode cX9_settles 54 = .ok (.invokevirtual 103, 3) := by decide +kernel
theorem dX9_settles_57 : decode cX9_settles 57 = .ok (.iload_n 3, 1) := by decide +kernel
theorem dX9_settles_58 : decode cX9_settles 58 = .ok (.ifCond .eq 7, 3) := by decide +kernel
theorem dX9_settles_61 : decode cX9_settles 61 = .ok (.iconst 0, 1) := by decide +kernel
theorem dX9_settles_62 : decode cX9_settles 62 = .ok (.goto 6, 3) := by decide +kernel
theorem dX9_settles_65 : decode cX9_settles 65 = .ok (.iload_n 1, 1) := by decide +kernel
theorem dX9_settles_66 : decode cX9_settles 66 = .ok (.iconst 1, 1) := by decide +kernel
theorem dX9_settles_67 : decode cX9_settles 67 = .ok (.iadd, 1) := by decide +kernel
theorem dX9_settles_68 : decode cX9_settles 68 = .ok (.istore_n 1, 1) := by decide +kernel
theorem dX9_settles_69 : decode cX9_settles 69 = .ok (.goto (-67), 3) := by decide +kernel
theorem dX9_settles_72 : decode cX9_settles 72 = .ok (.return_, 1) := by decide +kernel
theorem dX9_ends_0 : decode cX9_ends 0 = .ok (.aload_n 0, 1) := by decide +kernel
theorem dX9_ends_1 : decode cX9_ends 1 = .ok (.iload_n 1, 1) := by decide +kernel
theorem dX9_ends_2 : decode cX9_ends 2 = .ok (.invokevirtual 99, 3) := by decide +kernel
theorem dX9_ends_5 : decode cX9_ends 5 = .ok (.aload_n 0, 1) := by decide +kernel
theorem dX9_ends_6 : decode cX9_ends 6 = .ok (.iload_n 1, 1) := by decide +kernel
theorem dX9_ends_7 : decode cX9_ends 7 = .ok (.iconst 3, 1) := by decide +kernel
theorem dX9_ends_8 : decode cX9_ends 8 = .ok (.iconst 0, 1) := by decide +kernel
theorem dX9_ends_9 : decode cX9_ends 9 = .ok (.invokevirtual 88, 3) := by decide +kernel
theorem dX9_ends_12 : decode cX9_ends 12 = .ok (.aload_n 0, 1) := by decide +kernel
theorem dX9_ends_13 : decode cX9_ends 13 = .ok (.iload_n 1, 1) := by decide +kernel
theorem dX9_ends_14 : decode cX9_ends 14 = .ok (.iconst 4, 1) := by decide +kernel
theorem dX9_ends_15 : decode cX9_ends 15 = .ok (.iconst 2, 1) := by decide +kernel
theorem dX9_ends_16 : decode cX9_ends 16 = .ok (.invokevirtual 88, 3) := by decide +kernel
theorem dX9_ends_19 : decode cX9_ends 19 = .ok (.aload_n 0, 1) := by decide +kernel
theorem dX9_ends_20 : decode cX9_ends 20 = .ok (.getfield 16, 3) := by decide +kernel
theorem dX9_ends_23 : decode cX9_ends 23 = .ok (.bipush 6, 2) := by decide +kernel
theorem dX9_ends_25 : decode cX9_ends 25 = .ok (.dup2, 1) := by decide +kernel
theorem dX9_ends_26 : decode cX9_ends 26 = .ok (.iaload, 1) := by decide +kernel
theorem dX9_ends_27 : decode cX9_ends 27 = .ok (.iconst 1, 1) := by decide +kernel
theorem dX9_ends_28 : decode cX9_ends 28 = .ok (.iadd, 1) := by decide +kernel
theorem dX9_ends_29 : decode cX9_ends 29 = .ok (.iastore, 1) := by decide +kernel
theorem dX9_ends_30 : decode cX9_ends 30 = .ok (.return_, 1) := by decide +kernel
theorem dX9_create_0 : decode cX9_create 0 = .ok (.iconst 0, 1) := by decide +kernel
theorem dX9_create_1 : decode cX9_create 1 = .ok (.istore_n 2, 1) := by decide +kernel
theorem dX9_create_2 : decode cX9_create 2 = .ok (.iload_n 2, 1) := by decide +kernel
theorem dX9_create_3 : decode cX9_create 3 = .ok (.bipush 10, 2) := by decide +kernel
theorem dX9_create_5 : decode cX9_create 5 = .ok (.if_icmp .ge 17, 3) := by decide +kernel
theorem dX9_create_8 : decode cX9_create 8 = .ok (.aload_n 0, 1) := by decide +kernel
theorem dX9_create_9 : decode cX9_create 9 = .ok (.iload_n 2, 1) := by decide +kernel
theorem dX9_create_10 : decode cX9_create 10 = .ok (.invokevirtual 72, 3) := by decide +kernel
theorem dX9_create_13 : decode cX9_create 13 = .ok (.ifCond .eq 9, 3) := by decide +kernel
theorem dX9_create_16 : decode cX9_create 16 = .ok (.iinc 2 1, 3) := by decide +kernel
theorem dX9_create_19 : decode cX9_create 19 = .ok (.goto (-17), 3) := by decide +kernel
theorem dX9_create_22 : decode cX9_create 22 = .ok (.aload_n 0, 1) := by decide +kernel
theorem dX9_create_23 : decode cX9_create 23 = .ok (.iload_n 1, 1) := by decide +kernel
theorem dX9_create_24 : decode cX9_create 24 = .ok (.iconst 1, 1) := by decide +kernel
theorem dX9_create_25 : decode cX9_create 25 = .ok (.bipush 99, 2) := by decide +kernel
theorem dX9_create_27 : decode cX9_create 27 = .ok (.invokestatic 54, 3) := by decide +kernel
theorem dX9_create_30 : decode cX9_create 30 = .ok (.ifCond .ne 7, 3) := by decide +kernel
theorem dX9_create_33 : decode cX9_create 33 = .ok (.iconst 1, 1) := by decide +kernel
theorem dX9_create_34 : decode cX9_create 34 = .ok (.goto 14, 3) := by decide +kernel
theorem dX9_create_37 : decode cX9_create 37 = .ok (.iload_n 2, 1) := by decide +kernel
theorem dX9_create_38 : decode cX9_create 38 = .ok (.bipush 10, 2) := by decide +kernel
theorem dX9_create_40 : decode cX9_create 40 = .ok (.if_icmp .ne 7, 3) := by decide +kernel
theorem dX9_create_43 : decode cX9_create 43 = .ok (.iconst 2, 1) := by decide +kernel
theorem dX9_create_44 : decode cX9_create 44 = .ok (.goto 4, 3) := by decide +kernel
theorem dX9_create_47 : decode cX9_create 47 = .ok (.iconst 0, 1) := by decide +kernel
theorem dX9_create_48 : decode cX9_create 48 = .ok (.putfield 48, 3) := by decide +kernel
theorem dX9_create_51 : decode cX9_create 51 = .ok (.aload_n 0, 1) := by decide +kernel
theorem dX9_create_52 : decode cX9_create 52 = .ok (.getfield 48, 3) := by decide +kernel
theorem dX9_create_55 : decode cX9_create 55 = .ok (.ifCond .le 5, 3) := by decide +kernel
theorem dX9_create_58 : decode cX9_create 58 = .ok (.iconst 0, 1) := by decide +kernel
theorem dX9_create_59 : decode cX9_create 59 = .ok (.ireturn, 1) := by decide +kernel
theorem dX9_create_60 : decode cX9_create 60 = .ok (.aload_n 0, 1) := by decide +kernel
theorem dX9_create_61 : decode cX9_create 61 = .ok (.invokevirtual 66, 3) := by decide +kernel
theorem dX9_create_64 : decode cX9_create 64 = .ok (.aload_n 0, 1) := by decide +kernel
theorem dX9_create_65 : decode cX9_create 65 = .ok (.iload_n 2, 1) := by decide +kernel
theorem dX9_create_66 : decode cX9_create 66 = .ok (.iconst 0, 1) := by decide +kernel
theorem dX9_create_67 : decode cX9_create 67 = .ok (.iconst 1, 1) := by decide +kernel
theorem dX9_create_68 : decode cX9_create 68 = .ok (.invokevirtual 88, 3) := by decide +kernel
theorem dX9_create_71 : decode cX9_create 71 = .ok (.aload_n 0, 1) := by decide +kernel
theorem dX9_create_72 : decode cX9_create 72 = .ok (.iload_n 2, 1) := by decide +kernel
theorem dX9_create_73 : decode cX9_create 73 = .ok (.iconst 1, 1) := by decide +kernel
theorem dX9_create_74 : decode cX9_create 74 = .ok (.iload_n 1, 1) := by decide +kernel
theorem dX9_create_75 : decode cX9_create 75 = .ok (.invokevirtual 88, 3) := by decide +kernel
theorem dX9_create_78 : decode cX9_create 78 = .ok (.aload_n 0, 1) := by decide +kernel
theorem dX9_create_79 : decode cX9_create 79 = .ok (.iload_n 2, 1) := by decide +kernel
theorem dX9_create_80 : decode cX9_create 80 = .ok (.iconst 2, 1) := by decide +kernel
theorem dX9_create_81 : decode cX9_create 81 = .ok (.aload_n 0, 1) := by decide +kernel
theorem dX9_create_82 : decode cX9_create 82 = .ok (.getfield 7, 3) := by decide +kernel
theorem dX9_create_85 : decode cX9_create 85 = .ok (.bipush 20, 2) := by decide +kernel
theorem dX9_create_87 : decode cX9_create 87 = .ok (.iaload, 1) := by decide +kernel
theorem dX9_create_88 : decode cX9_create 88 = .ok (.invokevirtual 88, 3) := by decide +kernel
theorem dX9_create_91 : decode cX9_create 91 = .ok (.aload_n 0, 1) := by decide +kernel
theorem dX9_create_92 : decode cX9_create 92 = .ok (.iload_n 2, 1) := by decide +kernel
theorem dX9_create_93 : decode cX9_create 93 = .ok (.iconst 3, 1) := by decide +kernel
theorem dX9_create_94 : decode cX9_create 94 = .ok (.iconst 0, 1) := by decide +kernel
theorem dX9_create_95 : decode cX9_create 95 = .ok (.invokevirtual 88, 3) := by decide +kernel
theorem dX9_create_98 : decode cX9_create 98 = .ok (.aload_n 0, 1) := by decide +kernel
theorem dX9_create_99 : decode cX9_create 99 = .ok (.iload_n 2, 1) := by decide +kernel
theorem dX9_create_100 : decode cX9_create 100 = .ok (.iconst 4, 1) := by decide +kernel
theorem dX9_create_101 : decode cX9_create 101 = .ok (.iconst 0, 1) := by decide +kernel
theorem dX9_create_102 : decode cX9_create 102 = .ok (.invokevirtual 88, 3) := by decide +kernel
theorem dX9_create_105 : decode cX9_create 105 = .ok (.aload_n 0, 1) := by decide +kernel
theorem dX9_create_106 : decode cX9_create 106 = .ok (.getfield 7, 3) := by decide +kernel
theorem dX9_create_109 : decode cX9_create 109 = .ok (.bipush 20, 2) := by decide +kernel
theorem dX9_create_111 : decode cX9_create 111 = .ok (.dup2, 1) := by decide +kernel
theorem dX9_create_112 : decode cX9_create 112 = .ok (.iaload, 1) := by decide +kernel
theorem dX9_create_113 : decode cX9_create 113 = .ok (.iconst 1, 1) := by decide +kernel
theorem dX9_create_114 : decode cX9_create 114 = .ok (.iadd, 1) := by decide +kernel
theorem dX9_create_115 : decode cX9_create 115 = .ok (.iastore, 1) := by decide +kernel
theorem dX9_create_116 : decode cX9_create 116 = .ok (.aload_n 0, 1) := by decide +kernel
theorem dX9_create_117 : decode cX9_create 117 = .ok (.invokevirtual 69, 3) := by decide +kernel
theorem dX9_create_120 : decode cX9_create 120 = .ok (.iload_n 2, 1) := by decide +kernel
theorem dX9_create_121 : decode cX9_create 121 = .ok (.ireturn, 1) := by decide +kernel
theorem dX9_isOver_0 : decode cX9_isOver 0 = .ok (.iconst 0, 1) := by decide +kernel
theorem dX9_isOver_1 : decode cX9_isOver 1 = .ok (.istore_n 3, 1) := by decide +kernel
theorem dX9_isOver_2 : decode cX9_isOver 2 = .ok (.iconst 0, 1) := by decide +kernel
theorem dX9_isOver_3 : decode cX9_isOver 3 = .ok (.istore 4, 2) := by decide +kernel
theorem dX9_isOver_5 : decode cX9_isOver 5 = .ok (.iload 4, 2) := by decide +kernel
theorem dX9_isOver_7 : decode cX9_isOver 7 = .ok (.aload_n 0, 1) := by decide +kernel
theorem dX9_isOver_8 : decode cX9_isOver 8 = .ok (.getfield 7, 3) := by decide +kernel
theorem dX9_isOver_11 : decode cX9_isOver 11 = .ok (.iconst 0, 1) := by decide +kernel
theorem dX9_isOver_12 : decode cX9_isOver 12 = .ok (.iaload, 1) := by decide +kernel
theorem dX9_isOver_13 : decode cX9_isOver 13 = .ok (.if_icmp .ge 44, 3) := by decide +kernel
theorem dX9_isOver_16 : decode cX9_isOver 16 = .ok (.iload_n 3, 1) := by decide +kernel
theorem dX9_isOver_17 : decode cX9_isOver 17 = .ok (.ifCond .ne 28, 3) := by decide +kernel
theorem dX9_isOver_20 : decode cX9_isOver 20 = .ok (.aload_n 0, 1) := by decide +kernel
theorem dX9_isOver_21 : decode cX9_isOver 21 = .ok (.iload_n 1, 1) := by decide +kernel
theorem dX9_isOver_22 : decode cX9_isOver 22 = .ok (.iconst 3, 1) := by decide +kernel
theorem dX9_isOver_23 : decode cX9_isOver 23 = .ok (.invokevirtual 75, 3) := by decide +kernel
theorem dX9_isOver_26 : decode cX9_isOver 26 = .ok (.iload 4, 2) := by decide +kernel
theorem dX9_isOver_28 : decode cX9_isOver 28 = .ok (.ishr, 1) := by decide +kernel
theorem dX9_isOver_29 : decode cX9_isOver 29 = .ok (.iconst 1, 1) := by decide +kernel
theorem dX9_isOver_30 : decode cX9_isOver 30 = .ok (.iand, 1) := by decide +kernel
theorem dX9_isOver_31 : decode cX9_isOver 31 = .ok (.iconst 1, 1) := by decide +kernel
theorem dX9_isOver_32 : decode cX9_isOver 32 = .ok (.if_icmp .ne 17, 3) := by decide +kernel
theorem dX9_isOver_35 : decode cX9_isOver 35 = .ok (.aload_n 0, 1) := by decide +kernel
theorem dX9_isOver_36 : decode cX9_isOver 36 = .ok (.iload_n 2, 1) := by decide +kernel
theorem dX9_isOver_37 : decode cX9_isOver 37 = .ok (.iload 4, 2) := by decide +kernel
theorem dX9_isOver_39 : decode cX9_isOver 39 = .ok (.invokevirtual 58, 3) := by decide +kernel
theorem dX9_isOver_42 : decode cX9_isOver 42 = .ok (.ifCond .eq 7, 3) := by decide +kernel
theorem dX9_isOver_45 : decode cX9_isOver 45 = .ok (.iconst 1, 1) := by decide +kernel
theorem dX9_isOver_46 : decode cX9_isOver 46 = .ok (.goto 4, 3) := by decide +kernel
theorem dX9_isOver_49 : decode cX9_isOver 49 = .ok (.iconst 0, 1) := by decide +kernel
theorem dX9_isOver_50 : decode cX9_isOver 50 = .ok (.istore_n 3, 1) := by decide +kernel
theorem dX9_isOver_51 : decode cX9_isOver 51 = .ok (.iinc 4 1, 3) := by decide +kernel
theorem dX9_isOver_54 : decode cX9_isOver 54 = .ok (.goto (-49), 3) := by decide +kernel
theorem dX9_isOver_57 : decode cX9_isOver 57 = .ok (.iload_n 3, 1) := by decide +kernel
theorem dX9_isOver_58 : decode cX9_isOver 58 = .ok (.ireturn, 1) := by decide +kernel
theorem dX9_younger_0 : decode cX9_younger 0 = .ok (.iconst 0, 1) := by decide +kernel
theorem dX9_younger_1 : decode cX9_younger 1 = .ok (.istore_n 3, 1) := by decide +kernel
theorem dX9_younger_2 : decode cX9_younger 2 = .ok (.iconst 0, 1) := by decide +kernel
theorem dX9_younger_3 : decode cX9_younger 3 = .ok (.istore 4, 2) := by decide +kernel
theorem dX9_younger_5 : decode cX9_younger 5 = .ok (.iload 4, 2) := by decide +kernel
theorem dX9_younger_7 : decode cX9_younger 7 = .ok (.bipush 10, 2) := by decide +kernel
theorem dX9_younger_9 : decode cX9_younger 9 = .ok (.if_icmp .ge 46, 3) := by decide +kernel
theorem dX9_younger_12 : decode cX9_younger 12 = .ok (.iload_n 3, 1) := by decide +kernel
theorem dX9_younger_13 : decode cX9_younger 13 = .ok (.iload_n 2, 1) := by decide +kernel
theorem dX9_younger_14 : decode cX9_younger 14 = .ok (.iload 4, 2) := by decide +kernel
theorem dX9_younger_16 : decode cX9_younger 16 = .ok (.ishr, 1) := by decide +kernel
theorem dX9_younger_17 : decode cX9_younger 17 = .ok (.iconst 1, 1) := by decide +kernel
theorem dX9_younger_18 : decode cX9_younger 18 = .ok (.iand, 1) := by decide +kernel
theorem dX9_younger_19 : decode cX9_younger 19 = .ok (.iconst 1, 1) := by decide +kernel
theorem dX9_younger_20 : decode cX9_younger 20 = .ok (.if_icmp .ne 26, 3) := by decide +kernel
theorem dX9_younger_23 : decode cX9_younger 23 = .ok (.aload_n 0, 1) := by decide +kernel
theorem dX9_younger_24 : decode cX9_younger 24 = .ok (.iload 4, 2) := by decide +kernel
theorem dX9_younger_26 : decode cX9_younger 26 = .ok (.iconst 2, 1) := by decide +kernel
theorem dX9_younger_27 : decode cX9_younger 27 = .ok (.invokevirtual 75, 3) := by decide +kernel
theorem dX9_younger_30 : decode cX9_younger 30 = .ok (.aload_n 0, 1) := by decide +kernel
theorem dX9_younger_31 : decode cX9_younger 31 = .ok (.iload_n 1, 1) := by decide +kernel
theorem dX9_younger_32 : decode cX9_younger 32 = .ok (.iconst 2, 1) := by decide +kernel
theorem dX9_younger_33 : decode cX9_younger 33 = .ok (.invokevirtual 75, 3) := by decide +kernel
theorem dX9_younger_36 : decode cX9_younger 36 = .ok (.if_icmp .le 10, 3) := by decide +kernel
theorem dX9_younger_39 : decode cX9_younger 39 = .ok (.iconst 1, 1) := by decide +kernel
theorem dX9_younger_40 : decode cX9_younger 40 = .ok (.iload 4, 2) := by decide +kernel
theorem dX9_younger_42 : decode cX9_younger 42 = .ok (.ishl, 1) := by decide +kernel
theorem dX9_younger_43 : decode cX9_younger 43 = .ok (.goto 4, 3) := by decide +kernel
theorem dX9_younger_46 : decode cX9_younger 46 = .ok (.iconst 0, 1) := by decide +kernel
theorem dX9_younger_47 : decode cX9_younger 47 = .ok (.ior, 1) := by decide +kernel
theorem dX9_younger_48 : decode cX9_younger 48 = .ok (.istore_n 3, 1) := by decide +kernel
theorem dX9_younger_49 : decode cX9_younger 49 = .ok (.iinc 4 1, 3) := by decide +kernel
theorem dX9_younger_52 : decode cX9_younger 52 = .ok (.goto (-47), 3) := by decide +kernel
theorem dX9_younger_55 : decode cX9_younger 55 = .ok (.iload_n 3, 1) := by decide +kernel
theorem dX9_younger_56 : decode cX9_younger 56 = .ok (.ireturn, 1) := by decide +kernel
theorem dX9_happens_0 : decode cX9_happens 0 = .ok (.aload_n 0, 1) := by decide +kernel
theorem dX9_happens_1 : decode cX9_happens 1 = .ok (.iload_n 1, 1) := by decide +kernel
theorem dX9_happens_2 : decode cX9_happens 2 = .ok (.iload_n 2, 1) := by decide +kernel
theorem dX9_happens_3 : decode cX9_happens 3 = .ok (.invokevirtual 107, 3) := by decide +kernel
theorem dX9_happens_6 : decode cX9_happens 6 = .ok (.ifCond .eq 7, 3) := by decide +kernel
theorem dX9_happens_9 : decode cX9_happens 9 = .ok (.iconst 0, 1) := by decide +kernel
theorem dX9_happens_10 : decode cX9_happens 10 = .ok (.goto 9, 3) := by decide +kernel
theorem dX9_happens_13 : decode cX9_happens 13 = .ok (.aload_n 0, 1) := by decide +kernel
theorem dX9_happens_14 : decode cX9_happens 14 = .ok (.iload_n 1, 1) := by decide +kernel
theorem dX9_happens_15 : decode cX9_happens 15 = .ok (.iload_n 2, 1) := by decide +kernel
theorem dX9_happens_16 : decode cX9_happens 16 = .ok (.invokevirtual 85, 3) := by decide +kernel
theorem dX9_happens_19 : decode cX9_happens 19 = .ok (.istore_n 3, 1) := by decide +kernel
theorem dX9_happens_20 : decode cX9_happens 20 = .ok (.aload_n 0, 1) := by decide +kernel
theorem dX9_happens_21 : decode cX9_happens 21 = .ok (.iload_n 1, 1) := by decide +kernel
theorem dX9_happens_22 : decode cX9_happens 22 = .ok (.iload_n 3, 1) := by decide +kernel
theorem dX9_happens_23 : decode cX9_happens 23 = .ok (.invokevirtual 110, 3) := by decide +kernel
theorem dX9_happens_26 : decode cX9_happens 26 = .ok (.istore 4, 2) := by decide +kernel
theorem dX9_happens_28 : decode cX9_happens 28 = .ok (.iload_n 3, 1) := by decide +kernel
theorem dX9_happens_29 : decode cX9_happens 29 = .ok (.ifCond .ne 5, 3) := by decide +kernel
theorem dX9_happens_32 : decode cX9_happens 32 = .ok (.iconst 0, 1) := by decide +kernel
theorem dX9_happens_33 : decode cX9_happens 33 = .ok (.ireturn, 1) := by decide +kernel
theorem dX9_happens_34 : decode cX9_happens 34 = .ok (.aload_n 0, 1) := by decide +kernel
theorem dX9_happens_35 : decode cX9_happens 35 = .ok (.getfield 7, 3) := by decide +kernel
theorem dX9_happens_38 : decode cX9_happens 38 = .ok (.bipush 17, 2) := by decide +kernel
theorem dX9_happens_40 : decode cX9_happens 40 = .ok (.iaload, 1) := by decide +kernel
theorem dX9_happens_41 : decode cX9_happens 41 = .ok (.ifCond .ne 5, 3) := by decide +kernel
theorem dX9_happens_44 : decode cX9_happens 44 = .ok (.iconst 1, 1) := by decide +kernel
theorem dX9_happens_45 : decode cX9_happens 45 = .ok (.ireturn, 1) := by decide +kernel
theorem dX9_happens_46 : decode cX9_happens 46 = .ok (.aload_n 0, 1) := by decide +kernel
theorem dX9_happens_47 : decode cX9_happens 47 = .ok (.getfield 7, 3) := by decide +kernel
theorem dX9_happens_50 : decode cX9_happens 50 = .ok (.bipush 17, 2) := by decide +kernel
theorem dX9_happens_52 : decode cX9_happens 52 = .ok (.iaload, 1) := by decide +kernel
theorem dX9_happens_53 : decode cX9_happens 53 = .ok (.iconst 1, 1) := by decide +kernel
theorem dX9_happens_54 : decode cX9_happens 54 = .ok (.if_icmp .ne 15, 3) := by decide +kernel
theorem dX9_happens_57 : decode cX9_happens 57 = .ok (.iload 4, 2) := by decide +kernel
theorem dX9_happens_59 : decode cX9_happens 59 = .ok (.iload_n 3, 1) := by decide +kernel
theorem dX9_happens_60 : decode cX9_happens 60 = .ok (.if_icmp .ne 7, 3) := by decide +kernel
theorem dX9_happens_63 : decode cX9_happens 63 = .ok (.iconst 1, 1) := by decide +kernel
theorem dX9_happens_64 : decode cX9_happens 64 = .ok (.goto 4, 3) := by decide +kernel
theorem dX9_happens_67 : decode cX9_happens 67 = .ok (.iconst 2, 1) := by decide +kernel
theorem dX9_happens_68 : decode cX9_happens 68 = .ok (.ireturn, 1) := by decide +kernel
theorem dX9_happens_69 : decode cX9_happens 69 = .ok (.iload 4, 2) := by decide +kernel
theorem dX9_happens_71 : decode cX9_happens 71 = .ok (.ifCond .ne 7, 3) := by decide +kernel
theorem dX9_happens_74 : decode cX9_happens 74 = .ok (.iconst 1, 1) := by decide +kernel
theorem dX9_happens_75 : decode cX9_happens 75 = .ok (.goto 14, 3) := by decide +kernel
theorem dX9_happens_78 : decode cX9_happens 78 = .ok (.iload 4, 2) := by decide +kernel
theorem dX9_happens_80 : decode cX9_happens 80 = .ok (.iload_n 3, 1) := by decide +kernel
theorem dX9_happens_81 : decode cX9_happens 81 = .ok (.if_icmp .ne 7, 3) := by decide +kernel
theorem dX9_happens_84 : decode cX9_happens 84 = .ok (.iconst 3, 1) := by decide +kernel
theorem dX9_happens_85 : decode cX9_happens 85 = .ok (.goto 4, 3) := by decide +kernel
theorem dX9_happens_88 : decode cX9_happens 88 = .ok (.iconst 4, 1) := by decide +kernel
theorem dX9_happens_89 : decode cX9_happens 89 = .ok (.ireturn, 1) := by decide +kernel
theorem dX9_isRunning_0 : decode cX9_isRunning 0 = .ok (.aload_n 0, 1) := by decide +kernel
theorem dX9_isRunning_1 : decode cX9_isRunning 1 = .ok (.iload_n 1, 1) := by decide +kernel
theorem dX9_isRunning_2 : decode cX9_isRunning 2 = .ok (.invokevirtual 72, 3) := by decide +kernel
theorem dX9_isRunning_5 : decode cX9_isRunning 5 = .ok (.ifCond .eq 16, 3) := by decide +kernel
theorem dX9_isRunning_8 : decode cX9_isRunning 8 = .ok (.aload_n 0, 1) := by decide +kernel
theorem dX9_isRunning_9 : decode cX9_isRunning 9 = .ok (.iload_n 1, 1) := by decide +kernel
theorem dX9_isRunning_10 : decode cX9_isRunning 10 = .ok (.iconst 4, 1) := by decide +kernel
theorem dX9_isRunning_11 : decode cX9_isRunning 11 = .ok (.invokevirtual 75, 3) := by decide +kernel
theorem dX9_isRunning_14 : decode cX9_isRunning 14 = .ok (.ifCond .ne 7, 3) := by decide +kernel
theorem dX9_isRunning_17 : decode cX9_isRunning 17 = .ok (.iconst 1, 1) := by decide +kernel
theorem dX9_isRunning_18 : decode cX9_isRunning 18 = .ok (.goto 4, 3) := by decide +kernel
theorem dX9_isRunning_21 : decode cX9_isRunning 21 = .ok (.iconst 0, 1) := by decide +kernel
theorem dX9_isRunning_22 : decode cX9_isRunning 22 = .ok (.ireturn, 1) := by decide +kernel
theorem dX9_requestFault_0 : decode cX9_requestFault 0 = .ok (.aload_n 0, 1) := by decide +kernel
theorem dX9_requestFault_1 : decode cX9_requestFault 1 = .ok (.iload_n 1, 1) := by decide +kernel
theorem dX9_requestFault_2 : decode cX9_requestFault 2 = .ok (.invokevirtual 72, 3) := by decide +kernel
theorem dX9_requestFault_5 : decode cX9_requestFault 5 = .ok (.ifCond .eq 11, 3) := by decide +kernel
theorem dX9_requestFault_8 : decode cX9_requestFault 8 = .ok (.aload_n 0, 1) := by decide +kernel
theorem dX9_requestFault_9 : decode cX9_requestFault 9 = .ok (.iload_n 2, 1) := by decide +kernel
theorem dX9_requestFault_10 : decode cX9_requestFault 10 = .ok (.invokevirtual 62, 3) := by decide +kernel
theorem dX9_requestFault_13 : decode cX9_requestFault 13 = .ok (.ifCond .ne 7, 3) := by decide +kernel
theorem dX9_requestFault_16 : decode cX9_requestFault 16 = .ok (.iconst 1, 1) := by decide +kernel
theorem dX9_requestFault_17 : decode cX9_requestFault 17 = .ok (.goto 16, 3) := by decide +kernel
theorem dX9_requestFault_20 : decode cX9_requestFault 20 = .ok (.aload_n 0, 1) := by decide +kernel
theorem dX9_requestFault_21 : decode cX9_requestFault 21 = .ok (.iload_n 1, 1) := by decide +kernel
theorem dX9_requestFault_22 : decode cX9_requestFault 22 = .ok (.invokevirtual 113, 3) := by decide +kernel
theorem dX9_requestFault_25 : decode cX9_requestFault 25 = .ok (.ifCond .ne 7, 3) := by decide +kernel
theorem dX9_requestFault_28 : decode cX9_requestFault 28 = .ok (.iconst 2, 1) := by decide +kernel
theorem dX9_requestFault_29 : decode cX9_requestFault 29 = .ok (.goto 4, 3) := by decide +kernel
theorem dX9_requestFault_32 : decode cX9_requestFault 32 = .ok (.iconst 0, 1) := by decide +kernel
theorem dX9_requestFault_33 : decode cX9_requestFault 33 = .ok (.ireturn, 1) := by decide +kernel
theorem dX9_asks_0 : decode cX9_asks 0 = .ok (.aload_n 0, 1) := by decide +kernel
theorem dX9_asks_1 : decode cX9_asks 1 = .ok (.iload_n 1, 1) := by decide +kernel
theorem dX9_asks_2 : decode cX9_asks 2 = .ok (.iload_n 2, 1) := by decide +kernel
theorem dX9_asks_3 : decode cX9_asks 3 = .ok (.invokevirtual 116, 3) := by decide +kernel
theorem dX9_asks_6 : decode cX9_asks 6 = .ok (.istore_n 3, 1) := by decide +kernel
theorem dX9_asks_7 : decode cX9_asks 7 = .ok (.aload_n 0, 1) := by decide +kernel
theorem dX9_asks_8 : decode cX9_asks 8 = .ok (.iload_n 1, 1) := by decide +kernel
theorem dX9_asks_9 : decode cX9_asks 9 = .ok (.iload_n 2, 1) := by decide +kernel
theorem dX9_asks_10 : decode cX9_asks 10 = .ok (.invokevirtual 85, 3) := by decide +kernel
theorem dX9_asks_13 : decode cX9_asks 13 = .ok (.istore 4, 2) := by decide +kernel
theorem dX9_asks_15 : decode cX9_asks 15 = .ok (.iload_n 3, 1) := by decide +kernel
theorem dX9_asks_16 : decode cX9_asks 16 = .ok (.iconst 2, 1) := by decide +kernel
theorem dX9_asks_17 : decode cX9_asks 17 = .ok (.if_icmp .le 13, 3) := by decide +kernel
theorem dX9_asks_20 : decode cX9_asks 20 = .ok (.aload_n 0, 1) := by decide +kernel
theorem dX9_asks_21 : decode cX9_asks 21 = .ok (.iload_n 1, 1) := by decide +kernel
theorem dX9_asks_22 : decode cX9_asks 22 = .ok (.iload 4, 2) := by decide +kernel
theorem dX9_asks_24 : decode cX9_asks 24 = .ok (.invokevirtual 110, 3) := by decide +kernel
theorem dX9_asks_27 : decode cX9_asks 27 = .ok (.goto 4, 3) := by decide +kernel
theorem dX9_asks_30 : decode cX9_asks 30 = .ok (.iconst 0, 1) := by decide +kernel
theorem dX9_asks_31 : decode cX9_asks 31 = .ok (.istore 5, 2) := by decide +kernel
theorem dX9_asks_33 : decode cX9_asks 33 = .ok (.iconst 0, 1) := by decide +kernel
theorem dX9_asks_34 : decode cX9_asks 34 = .ok (.istore 6, 2) := by decide +kernel
theorem dX9_asks_36 : decode cX9_asks 36 = .ok (.iload 6, 2) := by decide +kernel
theorem dX9_asks_38 : decode cX9_asks 38 = .ok (.bipush 10, 2) := by decide +kernel
theorem dX9_asks_40 : decode cX9_asks 40 = .ok (.if_icmp .ge 26, 3) := by decide +kernel
theorem dX9_asks_43 : decode cX9_asks 43 = .ok (.iload 5, 2) := by decide +kernel
theorem dX9_asks_45 : decode cX9_asks 45 = .ok (.iload 6, 2) := by decide +kernel
theorem dX9_asks_47 : decode cX9_asks 47 = .ok (.ishr, 1) := by decide +kernel
theorem dX9_asks_48 : decode cX9_asks 48 = .ok (.iconst 1, 1) := by decide +kernel
theorem dX9_asks_49 : decode cX9_asks 49 = .ok (.iand, 1) := by decide +kernel
theorem dX9_asks_50 : decode cX9_asks 50 = .ok (.iconst 1, 1) := by decide +kernel
theorem dX9_asks_51 : decode cX9_asks 51 = .ok (.if_icmp .ne 9, 3) := by decide +kernel
theorem dX9_asks_54 : decode cX9_asks 54 = .ok (.aload_n 0, 1) := by decide +kernel
theorem dX9_asks_55 : decode cX9_asks 55 = .ok (.iload 6, 2) := by decide +kernel
theorem dX9_asks_57 : decode cX9_asks 57 = .ok (.invokevirtual 119, 3) := by decide +kernel
theorem dX9_asks_60 : decode cX9_asks 60 = .ok (.iinc 6 1, 3) := by decide +kernel
theorem dX9_asks_63 : decode cX9_asks 63 = .ok (.goto (-27), 3) := by decide +kernel
theorem dX9_asks_66 : decode cX9_asks 66 = .ok (.iload_n 3, 1) := by decide +kernel
theorem dX9_asks_67 : decode cX9_asks 67 = .ok (.iconst 2, 1) := by decide +kernel
theorem dX9_asks_68 : decode cX9_asks 68 = .ok (.if_icmp .ne 11, 3) := by decide +kernel
theorem dX9_asks_71 : decode cX9_asks 71 = .ok (.aload_n 0, 1) := by decide +kernel
theorem dX9_asks_72 : decode cX9_asks 72 = .ok (.iload_n 1, 1) := by decide +kernel
theorem dX9_asks_73 : decode cX9_asks 73 = .ok (.invokevirtual 119, 3) := by decide +kernel
theorem dX9_asks_76 : decode cX9_asks 76 = .ok (.goto 37, 3) := by decide +kernel
theorem dX9_asks_79 : decode cX9_asks 79 = .ok (.iload_n 3, 1) := by decide +kernel
theorem dX9_asks_80 : decode cX9_asks 80 = .ok (.iconst 1, 1) := by decide +kernel
theorem dX9_asks_81 : decode cX9_asks 81 = .ok (.if_icmp .eq 8, 3) := by decide +kernel
theorem dX9_asks_84 : decode cX9_asks 84 = .ok (.iload_n 3, 1) := by decide +kernel
theorem dX9_asks_85 : decode cX9_asks 85 = .ok (.iconst 4, 1) := by decide +kernel
theorem dX9_asks_86 : decode cX9_asks 86 = .ok (.if_icmp .ne 12, 3) := by decide +kernel
theorem dX9_asks_89 : decode cX9_asks 89 = .ok (.aload_n 0, 1) := by decide +kernel
theorem dX9_asks_90 : decode cX9_asks 90 = .ok (.iload_n 1, 1) := by decide +kernel
theorem dX9_asks_91 : decode cX9_asks 91 = .ok (.iload_n 2, 1) := by decide +kernel
theorem dX9_asks_92 : decode cX9_asks 92 = .ok (.invokevirtual 122, 3) := by decide +kernel
theorem dX9_asks_95 : decode cX9_asks 95 = .ok (.goto 18, 3) := by decide +kernel
theorem dX9_asks_98 : decode cX9_asks 98 = .ok (.aload_n 0, 1) := by decide +kernel
theorem dX9_asks_99 : decode cX9_asks 99 = .ok (.iload_n 1, 1) := by decide +kernel
theorem dX9_asks_100 : decode cX9_asks 100 = .ok (.iload_n 2, 1) := by decide +kernel
theorem dX9_asks_101 : decode cX9_asks 101 = .ok (.invokevirtual 107, 3) := by decide +kernel
theorem dX9_asks_104 : decode cX9_asks 104 = .ok (.ifCond .ne 9, 3) := by decide +kernel
theorem dX9_asks_107 : decode cX9_asks 107 = .ok (.aload_n 0, 1) := by decide +kernel
theorem dX9_asks_108 : decode cX9_asks 108 = .ok (.iload_n 1, 1) := by decide +kernel
theorem dX9_asks_109 : decode cX9_asks 109 = .ok (.iload_n 2, 1) := by decide +kernel
theorem dX9_asks_110 : decode cX9_asks 110 = .ok (.invokevirtual 103, 3) := by decide +kernel
theorem dX9_asks_113 : decode cX9_asks 113 = .ok (.iload_n 3, 1) := by decide +kernel
theorem dX9_asks_114 : decode cX9_asks 114 = .ok (.iconst 1, 1) := by decide +kernel
theorem dX9_asks_115 : decode cX9_asks 115 = .ok (.if_icmp .le 7, 3) := by decide +kernel
theorem dX9_asks_118 : decode cX9_asks 118 = .ok (.aload_n 0, 1) := by decide +kernel
theorem dX9_asks_119 : decode cX9_asks 119 = .ok (.invokevirtual 125, 3) := by decide +kernel
theorem dX9_asks_122 : decode cX9_asks 122 = .ok (.return_, 1) := by decide +kernel
theorem dX9_request_0 : decode cX9_request 0 = .ok (.aload_n 0, 1) := by decide +kernel
theorem dX9_request_1 : decode cX9_request 1 = .ok (.aload_n 0, 1) := by decide +kernel
theorem dX9_request_2 : decode cX9_request 2 = .ok (.iload_n 1, 1) := by decide +kernel
theorem dX9_request_3 : decode cX9_request 3 = .ok (.iload_n 2, 1) := by decide +kernel
theorem dX9_request_4 : decode cX9_request 4 = .ok (.invokevirtual 128, 3) := by decide +kernel
theorem dX9_request_7 : decode cX9_request 7 = .ok (.putfield 48, 3) := by decide +kernel
theorem dX9_request_10 : decode cX9_request 10 = .ok (.aload_n 0, 1) := by decide +kernel
theorem dX9_request_11 : decode cX9_request 11 = .ok (.getfield 48, 3) := by decide +kernel
theorem dX9_request_14 : decode cX9_request 14 = .ok (.ifCond .le 5, 3) := by decide +kernel
theorem dX9_request_17 : decode cX9_request 17 = .ok (.iconst 0, 1) := by decide +kernel
theorem dX9_request_18 : decode cX9_request 18 = .ok (.ireturn, 1) := by decide +kernel
theorem dX9_request_19 : decode cX9_request 19 = .ok (.aload_n 0, 1) := by decide +kernel
theorem dX9_request_20 : decode cX9_request 20 = .ok (.invokevirtual 66, 3) := by decide +kernel
theorem dX9_request_23 : decode cX9_request 23 = .ok (.aload_n 0, 1) := by decide +kernel
theorem dX9_request_24 : decode cX9_request 24 = .ok (.iload_n 1, 1) := by decide +kernel
theorem dX9_request_25 : decode cX9_request 25 = .ok (.iload_n 2, 1) := by decide +kernel
theorem dX9_request_26 : decode cX9_request 26 = .ok (.invokevirtual 131, 3) := by decide +kernel
theorem dX9_request_29 : decode cX9_request 29 = .ok (.aload_n 0, 1) := by decide +kernel
theorem dX9_request_30 : decode cX9_request 30 = .ok (.invokevirtual 69, 3) := by decide +kernel
theorem dX9_request_33 : decode cX9_request 33 = .ok (.aload_n 0, 1) := by decide +kernel
theorem dX9_request_34 : decode cX9_request 34 = .ok (.iload_n 1, 1) := by decide +kernel
theorem dX9_request_35 : decode cX9_request 35 = .ok (.iconst 4, 1) := by decide +kernel
theorem dX9_request_36 : decode cX9_request 36 = .ok (.invokevirtual 75, 3) := by decide +kernel
theorem dX9_request_39 : decode cX9_request 39 = .ok (.ireturn, 1) := by decide +kernel
theorem dX9_wouldHappen_0 : decode cX9_wouldHappen 0 = .ok (.aload_n 0, 1) := by decide +kernel
theorem dX9_wouldHappen_1 : decode cX9_wouldHappen 1 = .ok (.aload_n 0, 1) := by decide +kernel
theorem dX9_wouldHappen_2 : decode cX9_wouldHappen 2 = .ok (.iload_n 1, 1) := by decide +kernel
theorem dX9_wouldHappen_3 : decode cX9_wouldHappen 3 = .ok (.iload_n 2, 1) := by decide +kernel
theorem dX9_wouldHappen_4 : decode cX9_wouldHappen 4 = .ok (.invokevirtual 128, 3) := by decide +kernel
theorem dX9_wouldHappen_7 : decode cX9_wouldHappen 7 = .ok (.putfield 48, 3) := by decide +kernel
theorem dX9_wouldHappen_10 : decode cX9_wouldHappen 10 = .ok (.aload_n 0, 1) := by decide +kernel
theorem dX9_wouldHappen_11 : decode cX9_wouldHappen 11 = .ok (.getfield 48, 3) := by decide +kernel
theorem dX9_wouldHappen_14 : decode cX9_wouldHappen 14 = .ok (.ifCond .le 7, 3) := by decide +kernel
theorem dX9_wouldHappen_17 : decode cX9_wouldHappen 17 = .ok (.iconst 0, 1) := by decide +kernel
theorem dX9_wouldHappen_18 : decode cX9_wouldHappen 18 = .ok (.goto 9, 3) := by decide +kernel
theorem dX9_wouldHappen_21 : decode cX9_wouldHappen 21 = .ok (.aload_n 0, 1) := by decide +kernel
theorem dX9_wouldHappen_22 : decode cX9_wouldHappen 22 = .ok (.iload_n 1, 1) := by decide +kernel
theorem dX9_wouldHappen_23 : decode cX9_wouldHappen 23 = .ok (.iload_n 2, 1) := by decide +kernel
theorem dX9_wouldHappen_24 : decode cX9_wouldHappen 24 = .ok (.invokevirtual 116, 3) := by decide +kernel
theorem dX9_wouldHappen_27 : decode cX9_wouldHappen 27 = .ok (.ireturn, 1) := by decide +kernel
theorem dX9_releaseFault_0 : decode cX9_releaseFault 0 = .ok (.aload_n 0, 1) := by decide +kernel
theorem dX9_releaseFault_1 : decode cX9_releaseFault 1 = .ok (.iload_n 1, 1) := by decide +kernel
theorem dX9_releaseFault_2 : decode cX9_releaseFault 2 = .ok (.invokevirtual 72, 3) := by decide +kernel
theorem dX9_releaseFault_5 : decode cX9_releaseFault 5 = .ok (.ifCond .eq 11, 3) := by decide +kernel
theorem dX9_releaseFault_8 : decode cX9_releaseFault 8 = .ok (.aload_n 0, 1) := by decide +kernel
theorem dX9_releaseFault_9 : decode cX9_releaseFault 9 = .ok (.iload_n 2, 1) := by decide +kernel
theorem dX9_releaseFault_10 : decode cX9_releaseFault 10 = .ok (.invokevirtual 62, 3) := by decide +kernel
theorem dX9_releaseFault_13 : decode cX9_releaseFault 13 = .ok (.ifCond .ne 7, 3) := by decide +kernel
theorem dX9_releaseFault_16 : decode cX9_releaseFault 16 = .ok (.iconst 1, 1) := by decide +kernel
theorem dX9_releaseFault_17 : decode cX9_releaseFault 17 = .ok (.goto 21, 3) := by decide +kernel
theorem dX9_releaseFault_20 : decode cX9_releaseFault 20 = .ok (.aload_n 0, 1) := by decide +kernel
theorem dX9_releaseFault_21 : decode cX9_releaseFault 21 = .ok (.iload_n 1, 1) := by decide +kernel
theorem dX9_releaseFault_22 : decode cX9_releaseFault 22 = .ok (.iconst 3, 1) := by decide +kernel
theorem dX9_releaseFault_23 : decode cX9_releaseFault 23 = .ok (.invokevirtual 75, 3) := by decide +kernel
theorem dX9_releaseFault_26 : decode cX9_releaseFault 26 = .ok (.iload_n 2, 1) := by decide +kernel
theorem dX9_releaseFault_27 : decode cX9_releaseFault 27 = .ok (.ishr, 1) := by decide +kernel
theorem dX9_releaseFault_28 : decode cX9_releaseFault 28 = .ok (.iconst 1, 1) := by decide +kernel
theorem dX9_releaseFault_29 : decode cX9_releaseFault 29 = .ok (.iand, 1) := by decide +kernel
theorem dX9_releaseFault_30 : decode cX9_releaseFault 30 = .ok (.ifCond .ne 7, 3) := by decide +kernel
theorem dX9_releaseFault_33 : decode cX9_releaseFault 33 = .ok (.iconst 2, 1) := by decide +kernel
theorem dX9_releaseFault_34 : decode cX9_releaseFault 34 = .ok (.goto 4, 3) := by decide +kernel
theorem dX9_releaseFault_37 : decode cX9_releaseFault 37 = .ok (.iconst 0, 1) := by decide +kernel
theorem dX9_releaseFault_38 : decode cX9_releaseFault 38 = .ok (.ireturn, 1) := by decide +kernel
theorem dX9_lets_0 : decode cX9_lets 0 = .ok (.aload_n 0, 1) := by decide +kernel
theorem dX9_lets_1 : decode cX9_lets 1 = .ok (.iload_n 1, 1) := by decide +kernel
theorem dX9_lets_2 : decode cX9_lets 2 = .ok (.iconst 3, 1) := by decide +kernel
theorem dX9_lets_3 : decode cX9_lets 3 = .ok (.aload_n 0, 1) := by decide +kernel
theorem dX9_lets_4 : decode cX9_lets 4 = .ok (.iload_n 1, 1) := by decide +kernel
theorem dX9_lets_5 : decode cX9_lets 5 = .ok (.iconst 3, 1) := by decide +kernel
theorem dX9_lets_6 : decode cX9_lets 6 = .ok (.invokevirtual 75, 3) := by decide +kernel
theorem dX9_lets_9 : decode cX9_lets 9 = .ok (.iconst 1, 1) := by decide +kernel
theorem dX9_lets_10 : decode cX9_lets 10 = .ok (.iload_n 2, 1) := by decide +kernel
theorem dX9_lets_11 : decode cX9_lets 11 = .ok (.ishl, 1) := by decide +kernel
theorem dX9_lets_12 : decode cX9_lets 12 = .ok (.iconst (-1), 1) := by decide +kernel
theorem dX9_lets_13 : decode cX9_lets 13 = .ok (.ixor, 1) := by decide +kernel
theorem dX9_lets_14 : decode cX9_lets 14 = .ok (.iand, 1) := by decide +kernel
theorem dX9_lets_15 : decode cX9_lets 15 = .ok (.invokevirtual 88, 3) := by decide +kernel
theorem dX9_lets_18 : decode cX9_lets 18 = .ok (.aload_n 0, 1) := by decide +kernel
theorem dX9_lets_19 : decode cX9_lets 19 = .ok (.invokevirtual 125, 3) := by decide +kernel
theorem dX9_lets_22 : decode cX9_lets 22 = .ok (.return_, 1) := by decide +kernel
theorem dX9_release_0 : decode cX9_release 0 = .ok (.aload_n 0, 1) := by decide +kernel
theorem dX9_release_1 : decode cX9_release 1 = .ok (.aload_n 0, 1) := by decide +kernel
theorem dX9_release_2 : decode cX9_release 2 = .ok (.iload_n 1, 1) := by decide +kernel
theorem dX9_release_3 : decode cX9_release 3 = .ok (.iload_n 2, 1) := by decide +kernel
theorem dX9_release_4 : decode cX9_release 4 = .ok (.invokevirtual 134, 3) := by decide +kernel
theorem dX9_release_7 : decode cX9_release 7 = .ok (.putfield 48, 3) := by decide +kernel
theorem dX9_release_10 : decode cX9_release 10 = .ok (.aload_n 0, 1) := by decide +kernel
theorem dX9_release_11 : decode cX9_release 11 = .ok (.getfield 48, 3) := by decide +kernel
theorem dX9_release_14 : decode cX9_release 14 = .ok (.ifCond .le 5, 3) := by decide +kernel
theorem dX9_release_17 : decode cX9_release 17 = .ok (.iconst 0, 1) := by decide +kernel
theorem dX9_release_18 : decode cX9_release 18 = .ok (.ireturn, 1) := by decide +kernel
theorem dX9_release_19 : decode cX9_release 19 = .ok (.aload_n 0, 1) := by decide +kernel
theorem dX9_release_20 : decode cX9_release 20 = .ok (.invokevirtual 66, 3) := by decide +kernel
theorem dX9_release_23 : decode cX9_release 23 = .ok (.aload_n 0, 1) := by decide +kernel
theorem dX9_release_24 : decode cX9_release 24 = .ok (.iload_n 1, 1) := by decide +kernel
theorem dX9_release_25 : decode cX9_release 25 = .ok (.iload_n 2, 1) := by decide +kernel
theorem dX9_release_26 : decode cX9_release 26 = .ok (.invokevirtual 137, 3) := by decide +kernel
theorem dX9_release_29 : decode cX9_release 29 = .ok (.aload_n 0, 1) := by decide +kernel
theorem dX9_release_30 : decode cX9_release 30 = .ok (.invokevirtual 69, 3) := by decide +kernel
theorem dX9_release_33 : decode cX9_release 33 = .ok (.aload_n 0, 1) := by decide +kernel
theorem dX9_release_34 : decode cX9_release 34 = .ok (.iload_n 1, 1) := by decide +kernel
theorem dX9_release_35 : decode cX9_release 35 = .ok (.iconst 3, 1) := by decide +kernel
theorem dX9_release_36 : decode cX9_release 36 = .ok (.invokevirtual 75, 3) := by decide +kernel
theorem dX9_release_39 : decode cX9_release 39 = .ok (.invokestatic 140, 3) := by decide +kernel
theorem dX9_release_42 : decode cX9_release 42 = .ok (.ireturn, 1) := by decide +kernel
theorem dX9_finishFault_0 : decode cX9_finishFault 0 = .ok (.aload_n 0, 1) := by decide +kernel
theorem dX9_finishFault_1 : decode cX9_finishFault 1 = .ok (.iload_n 1, 1) := by decide +kernel
theorem dX9_finishFault_2 : decode cX9_finishFault 2 = .ok (.invokevirtual 72, 3) := by decide +kernel
theorem dX9_finishFault_5 : decode cX9_finishFault 5 = .ok (.ifCond .ne 7, 3) := by decide +kernel
theorem dX9_finishFault_8 : decode cX9_finishFault 8 = .ok (.iconst 1, 1) := by decide +kernel
theorem dX9_finishFault_9 : decode cX9_finishFault 9 = .ok (.goto 16, 3) := by decide +kernel
theorem dX9_finishFault_12 : decode cX9_finishFault 12 = .ok (.aload_n 0, 1) := by decide +kernel
theorem dX9_finishFault_13 : decode cX9_finishFault 13 = .ok (.iload_n 1, 1) := by decide +kernel
theorem dX9_finishFault_14 : decode cX9_finishFault 14 = .ok (.invokevirtual 113, 3) := by decide +kernel
theorem dX9_finishFault_17 : decode cX9_finishFault 17 = .ok (.ifCond .ne 7, 3) := by decide +kernel
theorem dX9_finishFault_20 : decode cX9_finishFault 20 = .ok (.iconst 2, 1) := by decide +kernel
theorem dX9_finishFault_21 : decode cX9_finishFault 21 = .ok (.goto 4, 3) := by decide +kernel
theorem dX9_finishFault_24 : decode cX9_finishFault 24 = .ok (.iconst 0, 1) := by decide +kernel
theorem dX9_finishFault_25 : decode cX9_finishFault 25 = .ok (.ireturn, 1) := by decide +kernel
theorem dX9_finishes_0 : decode cX9_finishes 0 = .ok (.aload_n 0, 1) := by decide +kernel
theorem dX9_finishes_1 : decode cX9_finishes 1 = .ok (.iload_n 1, 1) := by decide +kernel
theorem dX9_finishes_2 : decode cX9_finishes 2 = .ok (.iconst 0, 1) := by decide +kernel
theorem dX9_finishes_3 : decode cX9_finishes 3 = .ok (.iconst 0, 1) := by decide +kernel
theorem dX9_finishes_4 : decode cX9_finishes 4 = .ok (.invokevirtual 88, 3) := by decide +kernel
theorem dX9_finishes_7 : decode cX9_finishes 7 = .ok (.aload_n 0, 1) := by decide +kernel
theorem dX9_finishes_8 : decode cX9_finishes 8 = .ok (.iload_n 1, 1) := by decide +kernel
theorem dX9_finishes_9 : decode cX9_finishes 9 = .ok (.iconst 3, 1) := by decide +kernel
theorem dX9_finishes_10 : decode cX9_finishes 10 = .ok (.iconst 0, 1) := by decide +kernel
theorem dX9_finishes_11 : decode cX9_finishes 11 = .ok (.invokevirtual 88, 3) := by decide +kernel
theorem dX9_finishes_14 : decode cX9_finishes 14 = .ok (.aload_n 0, 1) := by decide +kernel
theorem dX9_finishes_15 : decode cX9_finishes 15 = .ok (.invokevirtual 125, 3) := by decide +kernel
theorem dX9_finishes_18 : decode cX9_finishes 18 = .ok (.return_, 1) := by decide +kernel
theorem dX9_finish_0 : decode cX9_finish 0 = .ok (.aload_n 0, 1) := by decide +kernel
theorem dX9_finish_1 : decode cX9_finish 1 = .ok (.aload_n 0, 1) := by decide +kernel
theorem dX9_finish_2 : decode cX9_finish 2 = .ok (.iload_n 1, 1) := by decide +kernel
theorem dX9_finish_3 : decode cX9_finish 3 = .ok (.invokevirtual 143, 3) := by decide +kernel
theorem dX9_finish_6 : decode cX9_finish 6 = .ok (.putfield 48, 3) := by decide +kernel
theorem dX9_finish_9 : decode cX9_finish 9 = .ok (.aload_n 0, 1) := by decide +kernel
theorem dX9_finish_10 : decode cX9_finish 10 = .ok (.getfield 48, 3) := by decide +kernel
theorem dX9_finish_13 : decode cX9_finish 13 = .ok (.ifCond .le 5, 3) := by decide +kernel
theorem dX9_finish_16 : decode cX9_finish 16 = .ok (.iconst 0, 1) := by decide +kernel
theorem dX9_finish_17 : decode cX9_finish 17 = .ok (.ireturn, 1) := by decide +kernel
theorem dX9_finish_18 : decode cX9_finish 18 = .ok (.aload_n 0, 1) := by decide +kernel
theorem dX9_finish_19 : decode cX9_finish 19 = .ok (.invokevirtual 66, 3) := by decide +kernel
theorem dX9_finish_22 : decode cX9_finish 22 = .ok (.aload_n 0, 1) := by decide +kernel
theorem dX9_finish_23 : decode cX9_finish 23 = .ok (.iload_n 1, 1) := by decide +kernel
theorem dX9_finish_24 : decode cX9_finish 24 = .ok (.iconst 3, 1) := by decide +kernel
theorem dX9_finish_25 : decode cX9_finish 25 = .ok (.invokevirtual 75, 3) := by decide +kernel
theorem dX9_finish_28 : decode cX9_finish 28 = .ok (.invokestatic 140, 3) := by decide +kernel
theorem dX9_finish_31 : decode cX9_finish 31 = .ok (.istore_n 2, 1) := by decide +kernel
theorem dX9_finish_32 : decode cX9_finish 32 = .ok (.aload_n 0, 1) := by decide +kernel
theorem dX9_finish_33 : decode cX9_finish 33 = .ok (.iload_n 1, 1) := by decide +kernel
theorem dX9_finish_34 : decode cX9_finish 34 = .ok (.invokevirtual 146, 3) := by decide +kernel
theorem dX9_finish_37 : decode cX9_finish 37 = .ok (.aload_n 0, 1) := by decide +kernel
theorem dX9_finish_38 : decode cX9_finish 38 = .ok (.invokevirtual 69, 3) := by decide +kernel
theorem dX9_finish_41 : decode cX9_finish 41 = .ok (.iload_n 2, 1) := by decide +kernel
theorem dX9_finish_42 : decode cX9_finish 42 = .ok (.ireturn, 1) := by decide +kernel
theorem dX9_abortFault_0 : decode cX9_abortFault 0 = .ok (.aload_n 0, 1) := by decide +kernel
theorem dX9_abortFault_1 : decode cX9_abortFault 1 = .ok (.iload_n 1, 1) := by decide +kernel
theorem dX9_abortFault_2 : decode cX9_abortFault 2 = .ok (.invokevirtual 72, 3) := by decide +kernel
theorem dX9_abortFault_5 : decode cX9_abortFault 5 = .ok (.ifCond .ne 7, 3) := by decide +kernel
theorem dX9_abortFault_8 : decode cX9_abortFault 8 = .ok (.iconst 1, 1) := by decide +kernel
theorem dX9_abortFault_9 : decode cX9_abortFault 9 = .ok (.goto 18, 3) := by decide +kernel
theorem dX9_abortFault_12 : decode cX9_abortFault 12 = .ok (.aload_n 0, 1) := by decide +kernel
theorem dX9_abortFault_13 : decode cX9_abortFault 13 = .ok (.iload_n 1, 1) := by decide +kernel
theorem dX9_abortFault_14 : decode cX9_abortFault 14 = .ok (.iconst 4, 1) := by decide +kernel
theorem dX9_abortFault_15 : decode cX9_abortFault 15 = .ok (.invokevirtual 75, 3) := by decide +kernel
theorem dX9_abortFault_18 : decode cX9_abortFault 18 = .ok (.iconst 2, 1) := by decide +kernel
theorem dX9_abortFault_19 : decode cX9_abortFault 19 = .ok (.if_icmp .ne 7, 3) := by decide +kernel
theorem dX9_abortFault_22 : decode cX9_abortFault 22 = .ok (.iconst 2, 1) := by decide +kernel
theorem dX9_abortFault_23 : decode cX9_abortFault 23 = .ok (.goto 4, 3) := by decide +kernel
theorem dX9_abortFault_26 : decode cX9_abortFault 26 = .ok (.iconst 0, 1) := by decide +kernel
theorem dX9_abortFault_27 : decode cX9_abortFault 27 = .ok (.ireturn, 1) := by decide +kernel
theorem dX9_aborts_0 : decode cX9_aborts 0 = .ok (.aload_n 0, 1) := by decide +kernel
theorem dX9_aborts_1 : decode cX9_aborts 1 = .ok (.iload_n 1, 1) := by decide +kernel
theorem dX9_aborts_2 : decode cX9_aborts 2 = .ok (.invokevirtual 119, 3) := by decide +kernel
theorem dX9_aborts_5 : decode cX9_aborts 5 = .ok (.aload_n 0, 1) := by decide +kernel
theorem dX9_aborts_6 : decode cX9_aborts 6 = .ok (.invokevirtual 125, 3) := by decide +kernel
theorem dX9_aborts_9 : decode cX9_aborts 9 = .ok (.return_, 1) := by decide +kernel
theorem dX9_abort_0 : decode cX9_abort 0 = .ok (.aload_n 0, 1) := by decide +kernel
theorem dX9_abort_1 : decode cX9_abort 1 = .ok (.aload_n 0, 1) := by decide +kernel
theorem dX9_abort_2 : decode cX9_abort 2 = .ok (.iload_n 1, 1) := by decide +kernel
theorem dX9_abort_3 : decode cX9_abort 3 = .ok (.invokevirtual 149, 3) := by decide +kernel
theorem dX9_abort_6 : decode cX9_abort 6 = .ok (.putfield 48, 3) := by decide +kernel
theorem dX9_abort_9 : decode cX9_abort 9 = .ok (.aload_n 0, 1) := by decide +kernel
theorem dX9_abort_10 : decode cX9_abort 10 = .ok (.getfield 48, 3) := by decide +kernel
theorem dX9_abort_13 : decode cX9_abort 13 = .ok (.ifCond .le 5, 3) := by decide +kernel
theorem dX9_abort_16 : decode cX9_abort 16 = .ok (.iconst 0, 1) := by decide +kernel
theorem dX9_abort_17 : decode cX9_abort 17 = .ok (.ireturn, 1) := by decide +kernel
theorem dX9_abort_18 : decode cX9_abort 18 = .ok (.aload_n 0, 1) := by decide +kernel
theorem dX9_abort_19 : decode cX9_abort 19 = .ok (.invokevirtual 66, 3) := by decide +kernel
theorem dX9_abort_22 : decode cX9_abort 22 = .ok (.aload_n 0, 1) := by decide +kernel
theorem dX9_abort_23 : decode cX9_abort 23 = .ok (.iload_n 1, 1) := by decide +kernel
theorem dX9_abort_24 : decode cX9_abort 24 = .ok (.iconst 3, 1) := by decide +kernel
theorem dX9_abort_25 : decode cX9_abort 25 = .ok (.invokevirtual 75, 3) := by decide +kernel
theorem dX9_abort_28 : decode cX9_abort 28 = .ok (.invokestatic 140, 3) := by decide +kernel
theorem dX9_abort_31 : decode cX9_abort 31 = .ok (.istore_n 2, 1) := by decide +kernel
theorem dX9_abort_32 : decode cX9_abort 32 = .ok (.aload_n 0, 1) := by decide +kernel
theorem dX9_abort_33 : decode cX9_abort 33 = .ok (.iload_n 1, 1) := by decide +kernel
theorem dX9_abort_34 : decode cX9_abort 34 = .ok (.invokevirtual 152, 3) := by decide +kernel
theorem dX9_abort_37 : decode cX9_abort 37 = .ok (.aload_n 0, 1) := by decide +kernel
theorem dX9_abort_38 : decode cX9_abort 38 = .ok (.invokevirtual 69, 3) := by decide +kernel
theorem dX9_abort_41 : decode cX9_abort 41 = .ok (.iload_n 2, 1) := by decide +kernel
theorem dX9_abort_42 : decode cX9_abort 42 = .ok (.ireturn, 1) := by decide +kernel
theorem dX9_restartFault_0 : decode cX9_restartFault 0 = .ok (.aload_n 0, 1) := by decide +kernel
theorem dX9_restartFault_1 : decode cX9_restartFault 1 = .ok (.iload_n 1, 1) := by decide +kernel
theorem dX9_restartFault_2 : decode cX9_restartFault 2 = .ok (.invokevirtual 72, 3) := by decide +kernel
theorem dX9_restartFault_5 : decode cX9_restartFault 5 = .ok (.ifCond .ne 7, 3) := by decide +kernel
theorem dX9_restartFault_8 : decode cX9_restartFault 8 = .ok (.iconst 1, 1) := by decide +kernel
theorem dX9_restartFault_9 : decode cX9_restartFault 9 = .ok (.goto 18, 3) := by decide +kernel
theorem dX9_restartFault_12 : decode cX9_restartFault 12 = .ok (.aload_n 0, 1) := by decide +kernel
theorem dX9_restartFault_13 : decode cX9_restartFault 13 = .ok (.iload_n 1, 1) := by decide +kernel
theorem dX9_restartFault_14 : decode cX9_restartFault 14 = .ok (.iconst 4, 1) := by decide +kernel
theorem dX9_restartFault_15 : decode cX9_restartFault 15 = .ok (.invokevirtual 75, 3) := by decide +kernel
theorem dX9_restartFault_18 : decode cX9_restartFault 18 = .ok (.iconst 2, 1) := by decide +kernel
theorem dX9_restartFault_19 : decode cX9_restartFault 19 = .ok (.if_icmp .eq 7, 3) := by decide +kernel
theorem dX9_restartFault_22 : decode cX9_restartFault 22 = .ok (.iconst 2, 1) := by decide +kernel
theorem dX9_restartFault_23 : decode cX9_restartFault 23 = .ok (.goto 4, 3) := by decide +kernel
theorem dX9_restartFault_26 : decode cX9_restartFault 26 = .ok (.iconst 0, 1) := by decide +kernel
theorem dX9_restartFault_27 : decode cX9_restartFault 27 = .ok (.ireturn, 1) := by decide +kernel
theorem dX9_restart_0 : decode cX9_restart 0 = .ok (.aload_n 0, 1) := by decide +kernel
theorem dX9_restart_1 : decode cX9_restart 1 = .ok (.aload_n 0, 1) := by decide +kernel
theorem dX9_restart_2 : decode cX9_restart 2 = .ok (.iload_n 1, 1) := by decide +kernel
theorem dX9_restart_3 : decode cX9_restart 3 = .ok (.invokevirtual 155, 3) := by decide +kernel
theorem dX9_restart_6 : decode cX9_restart 6 = .ok (.putfield 48, 3) := by decide +kernel
theorem dX9_restart_9 : decode cX9_restart 9 = .ok (.aload_n 0, 1) := by decide +kernel
theorem dX9_restart_10 : decode cX9_restart 10 = .ok (.getfield 48, 3) := by decide +kernel
theorem dX9_restart_13 : decode cX9_restart 13 = .ok (.ifCond .le 5, 3) := by decide +kernel
theorem dX9_restart_16 : decode cX9_restart 16 = .ok (.iconst 0, 1) := by decide +kernel
theorem dX9_restart_17 : decode cX9_restart 17 = .ok (.ireturn, 1) := by decide +kernel
theorem dX9_restart_18 : decode cX9_restart 18 = .ok (.aload_n 0, 1) := by decide +kernel
theorem dX9_restart_19 : decode cX9_restart 19 = .ok (.invokevirtual 66, 3) := by decide +kernel
theorem dX9_restart_22 : decode cX9_restart 22 = .ok (.aload_n 0, 1) := by decide +kernel
theorem dX9_restart_23 : decode cX9_restart 23 = .ok (.iload_n 1, 1) := by decide +kernel
theorem dX9_restart_24 : decode cX9_restart 24 = .ok (.iconst 4, 1) := by decide +kernel
theorem dX9_restart_25 : decode cX9_restart 25 = .ok (.iconst 0, 1) := by decide +kernel
theorem dX9_restart_26 : decode cX9_restart 26 = .ok (.invokevirtual 88, 3) := by decide +kernel
theorem dX9_restart_29 : decode cX9_restart 29 = .ok (.aload_n 0, 1) := by decide +kernel
theorem dX9_restart_30 : decode cX9_restart 30 = .ok (.invokevirtual 69, 3) := by decide +kernel
theorem dX9_restart_33 : decode cX9_restart 33 = .ok (.aload_n 0, 1) := by decide +kernel
theorem dX9_restart_34 : decode cX9_restart 34 = .ok (.iload_n 1, 1) := by decide +kernel
theorem dX9_restart_35 : decode cX9_restart 35 = .ok (.iconst 2, 1) := by decide +kernel
theorem dX9_restart_36 : decode cX9_restart 36 = .ok (.invokevirtual 75, 3) := by decide +kernel
theorem dX9_restart_39 : decode cX9_restart 39 = .ok (.ireturn, 1) := by decide +kernel
theorem dX9_all_0 : decode cX9_all 0 = .ok (.iconst 0, 1) := by decide +kernel
theorem dX9_all_1 : decode cX9_all 1 = .ok (.istore_n 1, 1) := by decide +kernel
theorem dX9_all_2 : decode cX9_all 2 = .ok (.iconst 0, 1) := by decide +kernel
theorem dX9_all_3 : decode cX9_all 3 = .ok (.istore_n 2, 1) := by decide +kernel
theorem dX9_all_4 : decode cX9_all 4 = .ok (.iload_n 2, 1) := by decide +kernel
theorem dX9_all_5 : decode cX9_all 5 = .ok (.bipush 10, 2) := by decide +kernel
theorem dX9_all_7 : decode cX9_all 7 = .ok (.if_icmp .ge 27, 3) := by decide +kernel
theorem dX9_all_10 : decode cX9_all 10 = .ok (.iload_n 1, 1) := by decide +kernel
theorem dX9_all_11 : decode cX9_all 11 = .ok (.aload_n 0, 1) := by decide +kernel
theorem dX9_all_12 : decode cX9_all 12 = .ok (.iload_n 2, 1) := by decide +kernel
theorem dX9_all_13 : decode cX9_all 13 = .ok (.invokevirtual 72, 3) := by decide +kernel
theorem dX9_all_16 : decode cX9_all 16 = .ok (.ifCond .eq 9, 3) := by decide +kernel
theorem dX9_all_19 : decode cX9_all 19 = .ok (.iconst 1, 1) := by decide +kernel
theorem dX9_all_20 : decode cX9_all 20 = .ok (.iload_n 2, 1) := by decide +kernel
theorem dX9_all_21 : decode cX9_all 21 = .ok (.ishl, 1) := by decide +kernel
theorem dX9_all_22 : decode cX9_all 22 = .ok (.goto 4, 3) := by decide +kernel
theorem dX9_all_25 : decode cX9_all 25 = .ok (.iconst 0, 1) := by decide +kernel
theorem dX9_all_26 : decode cX9_all 26 = .ok (.ior, 1) := by decide +kernel
theorem dX9_all_27 : decode cX9_all 27 = .ok (.istore_n 1, 1) := by decide +kernel
theorem dX9_all_28 : decode cX9_all 28 = .ok (.iinc 2 1, 3) := by decide +kernel
theorem dX9_all_31 : decode cX9_all 31 = .ok (.goto (-27), 3) := by decide +kernel
theorem dX9_all_34 : decode cX9_all 34 = .ok (.iload_n 1, 1) := by decide +kernel
theorem dX9_all_35 : decode cX9_all 35 = .ok (.ireturn, 1) := by decide +kernel
theorem dX9_tasks_0 : decode cX9_tasks 0 = .ok (.aload_n 0, 1) := by decide +kernel
theorem dX9_tasks_1 : decode cX9_tasks 1 = .ok (.iconst 0, 1) := by decide +kernel
theorem dX9_tasks_2 : decode cX9_tasks 2 = .ok (.putfield 48, 3) := by decide +kernel
theorem dX9_tasks_5 : decode cX9_tasks 5 = .ok (.aload_n 0, 1) := by decide +kernel
theorem dX9_tasks_6 : decode cX9_tasks 6 = .ok (.invokevirtual 158, 3) := by decide +kernel
theorem dX9_tasks_9 : decode cX9_tasks 9 = .ok (.ireturn, 1) := by decide +kernel
theorem dX9_part_0 : decode cX9_part 0 = .ok (.iload_n 2, 1) := by decide +kernel
theorem dX9_part_1 : decode cX9_part 1 = .ok (.tableswitch 92 0 5 #[39, 46, 53, 60, 67, 86], 39) := by decide +kernel
theorem dX9_part_40 : decode cX9_part 40 = .ok (.aload_n 0, 1) := by decide +kernel
theorem dX9_part_41 : decode cX9_part 41 = .ok (.iload_n 1, 1) := by decide +kernel
theorem dX9_part_42 : decode cX9_part 42 = .ok (.iconst 4, 1) := by decide +kernel
theorem dX9_part_43 : decode cX9_part 43 = .ok (.invokevirtual 75, 3) := by decide +kernel
theorem dX9_part_46 : decode cX9_part 46 = .ok (.ireturn, 1) := by decide +kernel
theorem dX9_part_47 : decode cX9_part 47 = .ok (.aload_n 0, 1) := by decide +kernel
theorem dX9_part_48 : decode cX9_part 48 = .ok (.iload_n 1, 1) := by decide +kernel
theorem dX9_part_49 : decode cX9_part 49 = .ok (.iconst 1, 1) := by decide +kernel
theorem dX9_part_50 : decode cX9_part 50 = .ok (.invokevirtual 75, 3) := by decide +kernel
theorem dX9_part_53 : decode cX9_part 53 = .ok (.ireturn, 1) := by decide +kernel
theorem dX9_part_54 : decode cX9_part 54 = .ok (.aload_n 0, 1) := by decide +kernel
theorem dX9_part_55 : decode cX9_part 55 = .ok (.iload_n 1, 1) := by decide +kernel
theorem dX9_part_56 : decode cX9_part 56 = .ok (.iconst 2, 1) := by decide +kernel
theorem dX9_part_57 : decode cX9_part 57 = .ok (.invokevirtual 75, 3) := by decide +kernel
theorem dX9_part_60 : decode cX9_part 60 = .ok (.ireturn, 1) := by decide +kernel
theorem dX9_part_61 : decode cX9_part 61 = .ok (.aload_n 0, 1) := by decide +kernel
theorem dX9_part_62 : decode cX9_part 62 = .ok (.iload_n 1, 1) := by decide +kernel
theorem dX9_part_63 : decode cX9_part 63 = .ok (.iconst 3, 1) := by decide +kernel
theorem dX9_part_64 : decode cX9_part 64 = .ok (.invokevirtual 75, 3) := by decide +kernel
theorem dX9_part_67 : decode cX9_part 67 = .ok (.ireturn, 1) := by decide +kernel
theorem dX9_part_68 : decode cX9_part 68 = .ok (.aload_n 0, 1) := by decide +kernel
theorem dX9_part_69 : decode cX9_part 69 = .ok (.iload_n 1, 1) := by decide +kernel
theorem dX9_part_70 : decode cX9_part 70 = .ok (.invokevirtual 82, 3) := by decide +kernel
theorem dX9_part_73 : decode cX9_part 73 = .ok (.ifCond .eq 12, 3) := by decide +kernel
theorem dX9_part_76 : decode cX9_part 76 = .ok (.aload_n 0, 1) := by decide +kernel
theorem dX9_part_77 : decode cX9_part 77 = .ok (.iload_n 1, 1) := by decide +kernel
theorem dX9_part_78 : decode cX9_part 78 = .ok (.iconst 5, 1) := by decide +kernel
theorem dX9_part_79 : decode cX9_part 79 = .ok (.invokevirtual 75, 3) := by decide +kernel
theorem dX9_part_82 : decode cX9_part 82 = .ok (.goto 4, 3) := by decide +kernel
theorem dX9_part_85 : decode cX9_part 85 = .ok (.iconst (-1), 1) := by decide +kernel
theorem dX9_part_86 : decode cX9_part 86 = .ok (.ireturn, 1) := by decide +kernel
theorem dX9_part_87 : decode cX9_part 87 = .ok (.aload_n 0, 1) := by decide +kernel
theorem dX9_part_88 : decode cX9_part 88 = .ok (.iload_n 1, 1) := by decide +kernel
theorem dX9_part_89 : decode cX9_part 89 = .ok (.invokevirtual 96, 3) := by decide +kernel
theorem dX9_part_92 : decode cX9_part 92 = .ok (.ireturn, 1) := by decide +kernel
theorem dX9_part_93 : decode cX9_part 93 = .ok (.aload_n 0, 1) := by decide +kernel
theorem dX9_part_94 : decode cX9_part 94 = .ok (.iload_n 1, 1) := by decide +kernel
theorem dX9_part_95 : decode cX9_part 95 = .ok (.invokevirtual 92, 3) := by decide +kernel
theorem dX9_part_98 : decode cX9_part 98 = .ok (.ireturn, 1) := by decide +kernel
theorem dX9_task_0 : decode cX9_task 0 = .ok (.aload_n 0, 1) := by decide +kernel
theorem dX9_task_1 : decode cX9_task 1 = .ok (.aload_n 0, 1) := by decide +kernel
theorem dX9_task_2 : decode cX9_task 2 = .ok (.iload_n 1, 1) := by decide +kernel
theorem dX9_task_3 : decode cX9_task 3 = .ok (.invokevirtual 72, 3) := by decide +kernel
theorem dX9_task_6 : decode cX9_task 6 = .ok (.ifCond .ne 7, 3) := by decide +kernel
theorem dX9_task_9 : decode cX9_task 9 = .ok (.iconst 1, 1) := by decide +kernel
theorem dX9_task_10 : decode cX9_task 10 = .ok (.goto 18, 3) := by decide +kernel
theorem dX9_task_13 : decode cX9_task 13 = .ok (.iload_n 2, 1) := by decide +kernel
theorem dX9_task_14 : decode cX9_task 14 = .ok (.iconst 0, 1) := by decide +kernel
theorem dX9_task_15 : decode cX9_task 15 = .ok (.bipush 6, 2) := by decide +kernel
theorem dX9_task_17 : decode cX9_task 17 = .ok (.invokestatic 54, 3) := by decide +kernel
theorem dX9_task_20 : decode cX9_task 20 = .ok (.ifCond .ne 7, 3) := by decide +kernel
theorem dX9_task_23 : decode cX9_task 23 = .ok (.iconst 2, 1) := by decide +kernel
theorem dX9_task_24 : decode cX9_task 24 = .ok (.goto 4, 3) := by decide +kernel
theorem dX9_task_27 : decode cX9_task 27 = .ok (.iconst 0, 1) := by decide +kernel
theorem dX9_task_28 : decode cX9_task 28 = .ok (.putfield 48, 3) := by decide +kernel
theorem dX9_task_31 : decode cX9_task 31 = .ok (.aload_n 0, 1) := by decide +kernel
theorem dX9_task_32 : decode cX9_task 32 = .ok (.getfield 48, 3) := by decide +kernel
theorem dX9_task_35 : decode cX9_task 35 = .ok (.ifCond .le 7, 3) := by decide +kernel
theorem dX9_task_38 : decode cX9_task 38 = .ok (.iconst 0, 1) := by decide +kernel
theorem dX9_task_39 : decode cX9_task 39 = .ok (.goto 9, 3) := by decide +kernel
theorem dX9_task_42 : decode cX9_task 42 = .ok (.aload_n 0, 1) := by decide +kernel
theorem dX9_task_43 : decode cX9_task 43 = .ok (.iload_n 1, 1) := by decide +kernel
theorem dX9_task_44 : decode cX9_task 44 = .ok (.iload_n 2, 1) := by decide +kernel
theorem dX9_task_45 : decode cX9_task 45 = .ok (.invokevirtual 162, 3) := by decide +kernel
theorem dX9_task_48 : decode cX9_task 48 = .ok (.ireturn, 1) := by decide +kernel
theorem dX9_waiting_0 : decode cX9_waiting 0 = .ok (.aload_n 0, 1) := by decide +kernel
theorem dX9_waiting_1 : decode cX9_waiting 1 = .ok (.iconst 0, 1) := by decide +kernel
theorem dX9_waiting_2 : decode cX9_waiting 2 = .ok (.putfield 48, 3) := by decide +kernel
theorem dX9_waiting_5 : decode cX9_waiting 5 = .ok (.iload_n 1, 1) := by decide +kernel
theorem dX9_waiting_6 : decode cX9_waiting 6 = .ok (.iconst 0, 1) := by decide +kernel
theorem dX9_waiting_7 : decode cX9_waiting 7 = .ok (.aload_n 0, 1) := by decide +kernel
theorem dX9_waiting_8 : decode cX9_waiting 8 = .ok (.getfield 7, 3) := by decide +kernel
theorem dX9_waiting_11 : decode cX9_waiting 11 = .ok (.bipush 21, 2) := by decide +kernel
theorem dX9_waiting_13 : decode cX9_waiting 13 = .ok (.iaload, 1) := by decide +kernel
theorem dX9_waiting_14 : decode cX9_waiting 14 = .ok (.iconst 1, 1) := by decide +kernel
theorem dX9_waiting_15 : decode cX9_waiting 15 = .ok (.isub, 1) := by decide +kernel
theorem dX9_waiting_16 : decode cX9_waiting 16 = .ok (.invokestatic 54, 3) := by decide +kernel
theorem dX9_waiting_19 : decode cX9_waiting 19 = .ok (.ifCond .eq 15, 3) := by decide +kernel
theorem dX9_waiting_22 : decode cX9_waiting 22 = .ok (.aload_n 0, 1) := by decide +kernel
theorem dX9_waiting_23 : decode cX9_waiting 23 = .ok (.getfield 7, 3) := by decide +kernel
theorem dX9_waiting_26 : decode cX9_waiting 26 = .ok (.bipush 22, 2) := by decide +kernel
theorem dX9_waiting_28 : decode cX9_waiting 28 = .ok (.iload_n 1, 1) := by decide +kernel
theorem dX9_waiting_29 : decode cX9_waiting 29 = .ok (.iadd, 1) := by decide +kernel
theorem dX9_waiting_30 : decode cX9_waiting 30 = .ok (.iaload, 1) := by decide +kernel
theorem dX9_waiting_31 : decode cX9_waiting 31 = .ok (.goto 4, 3) := by decide +kernel
theorem dX9_waiting_34 : decode cX9_waiting 34 = .ok (.iconst (-1), 1) := by decide +kernel
theorem dX9_waiting_35 : decode cX9_waiting 35 = .ok (.ireturn, 1) := by decide +kernel
theorem dX9_sets_0 : decode cX9_sets 0 = .ok (.aload_n 0, 1) := by decide +kernel
theorem dX9_sets_1 : decode cX9_sets 1 = .ok (.iload_n 3, 1) := by decide +kernel
theorem dX9_sets_2 : decode cX9_sets 2 = .ok (.ifCond .eq 7, 3) := by decide +kernel
theorem dX9_sets_5 : decode cX9_sets 5 = .ok (.iconst 0, 1) := by decide +kernel
theorem dX9_sets_6 : decode cX9_sets 6 = .ok (.goto 4, 3) := by decide +kernel
theorem dX9_sets_9 : decode cX9_sets 9 = .ok (.iconst 1, 1) := by decide +kernel
theorem dX9_sets_10 : decode cX9_sets 10 = .ok (.putfield 48, 3) := by decide +kernel
theorem dX9_sets_13 : decode cX9_sets 13 = .ok (.iload_n 3, 1) := by decide +kernel
theorem dX9_sets_14 : decode cX9_sets 14 = .ok (.ifCond .ne 5, 3) := by decide +kernel
theorem dX9_sets_17 : decode cX9_sets 17 = .ok (.iconst 0, 1) := by decide +kernel
theorem dX9_sets_18 : decode cX9_sets 18 = .ok (.ireturn, 1) := by decide +kernel
theorem dX9_sets_19 : decode cX9_sets 19 = .ok (.aload_n 0, 1) := by decide +kernel
theorem dX9_sets_20 : decode cX9_sets 20 = .ok (.invokevirtual 66, 3) := by decide +kernel
theorem dX9_sets_23 : decode cX9_sets 23 = .ok (.aload_n 0, 1) := by decide +kernel
theorem dX9_sets_24 : decode cX9_sets 24 = .ok (.getfield 7, 3) := by decide +kernel
theorem dX9_sets_27 : decode cX9_sets 27 = .ok (.iload_n 1, 1) := by decide +kernel
theorem dX9_sets_28 : decode cX9_sets 28 = .ok (.iaload, 1) := by decide +kernel
theorem dX9_sets_29 : decode cX9_sets 29 = .ok (.istore 4, 2) := by decide +kernel
theorem dX9_sets_31 : decode cX9_sets 31 = .ok (.aload_n 0, 1) := by decide +kernel
theorem dX9_sets_32 : decode cX9_sets 32 = .ok (.getfield 7, 3) := by decide +kernel
theorem dX9_sets_35 : decode cX9_sets 35 = .ok (.iload_n 1, 1) := by decide +kernel
theorem dX9_sets_36 : decode cX9_sets 36 = .ok (.iload_n 2, 1) := by decide +kernel
theorem dX9_sets_37 : decode cX9_sets 37 = .ok (.iastore, 1) := by decide +kernel
theorem dX9_sets_38 : decode cX9_sets 38 = .ok (.aload_n 0, 1) := by decide +kernel
theorem dX9_sets_39 : decode cX9_sets 39 = .ok (.invokevirtual 69, 3) := by decide +kernel
theorem dX9_sets_42 : decode cX9_sets 42 = .ok (.iload 4, 2) := by decide +kernel
theorem dX9_sets_44 : decode cX9_sets 44 = .ok (.ireturn, 1) := by decide +kernel
theorem dX9_setPolicy_0 : decode cX9_setPolicy 0 = .ok (.aload_n 0, 1) := by decide +kernel
theorem dX9_setPolicy_1 : decode cX9_setPolicy 1 = .ok (.bipush 17, 2) := by decide +kernel
theorem dX9_setPolicy_3 : decode cX9_setPolicy 3 = .ok (.iload_n 1, 1) := by decide +kernel
theorem dX9_setPolicy_4 : decode cX9_setPolicy 4 = .ok (.iload_n 1, 1) := by decide +kernel
theorem dX9_setPolicy_5 : decode cX9_setPolicy 5 = .ok (.iconst 0, 1) := by decide +kernel
theorem dX9_setPolicy_6 : decode cX9_setPolicy 6 = .ok (.iconst 2, 1) := by decide +kernel
theorem dX9_setPolicy_7 : decode cX9_setPolicy 7 = .ok (.invokestatic 54, 3) := by decide +kernel
theorem dX9_setPolicy_10 : decode cX9_setPolicy 10 = .ok (.invokevirtual 165, 3) := by decide +kernel
theorem dX9_setPolicy_13 : decode cX9_setPolicy 13 = .ok (.ireturn, 1) := by decide +kernel
theorem dX9_setRule_0 : decode cX9_setRule 0 = .ok (.aload_n 0, 1) := by decide +kernel
theorem dX9_setRule_1 : decode cX9_setRule 1 = .ok (.bipush 18, 2) := by decide +kernel
theorem dX9_setRule_3 : decode cX9_setRule 3 = .ok (.iload_n 1, 1) := by decide +kernel
theorem dX9_setRule_4 : decode cX9_setRule 4 = .ok (.iload_n 1, 1) := by decide +kernel
theorem dX9_setRule_5 : decode cX9_setRule 5 = .ok (.iconst 0, 1) := by decide +kernel
theorem dX9_setRule_6 : decode cX9_setRule 6 = .ok (.iconst 2, 1) := by decide +kernel
theorem dX9_setRule_7 : decode cX9_setRule 7 = .ok (.invokestatic 54, 3) := by decide +kernel
theorem dX9_setRule_10 : decode cX9_setRule 10 = .ok (.invokevirtual 165, 3) := by decide +kernel
theorem dX9_setRule_13 : decode cX9_setRule 13 = .ok (.ireturn, 1) := by decide +kernel
theorem dX9_setBudget_0 : decode cX9_setBudget 0 = .ok (.aload_n 0, 1) := by decide +kernel
theorem dX9_setBudget_1 : decode cX9_setBudget 1 = .ok (.bipush 19, 2) := by decide +kernel
theorem dX9_setBudget_3 : decode cX9_setBudget 3 = .ok (.iload_n 1, 1) := by decide +kernel
theorem dX9_setBudget_4 : decode cX9_setBudget 4 = .ok (.iload_n 1, 1) := by decide +kernel
theorem dX9_setBudget_5 : decode cX9_setBudget 5 = .ok (.iconst 1, 1) := by decide +kernel
theorem dX9_setBudget_6 : decode cX9_setBudget 6 = .ok (.bipush 9, 2) := by decide +kernel
theorem dX9_setBudget_8 : decode cX9_setBudget 8 = .ok (.invokestatic 54, 3) := by decide +kernel
theorem dX9_setBudget_11 : decode cX9_setBudget 11 = .ok (.invokevirtual 165, 3) := by decide +kernel
theorem dX9_setBudget_14 : decode cX9_setBudget 14 = .ok (.ireturn, 1) := by decide +kernel
theorem dX9_sends_0 : decode cX9_sends 0 = .ok (.aload_n 0, 1) := by decide +kernel
theorem dX9_sends_1 : decode cX9_sends 1 = .ok (.getfield 7, 3) := by decide +kernel
theorem dX9_sends_4 : decode cX9_sends 4 = .ok (.bipush 92, 2) := by decide +kernel
theorem dX9_sends_6 : decode cX9_sends 6 = .ok (.iaload, 1) := by decide +kernel
theorem dX9_sends_7 : decode cX9_sends 7 = .ok (.bipush 40, 2) := by decide +kernel
theorem dX9_sends_9 : decode cX9_sends 9 = .ok (.if_icmp .ne 14, 3) := by decide +kernel
theorem dX9_sends_12 : decode cX9_sends 12 = .ok (.aload_n 0, 1) := by decide +kernel
theorem dX9_sends_13 : decode cX9_sends 13 = .ok (.getfield 16, 3) := by decide +kernel
theorem dX9_sends_16 : decode cX9_sends 16 = .ok (.iconst 1, 1) := by decide +kernel
theorem dX9_sends_17 : decode cX9_sends 17 = .ok (.dup2, 1) := by decide +kernel
theorem dX9_sends_18 : decode cX9_sends 18 = .ok (.iaload, 1) := by decide +kernel
theorem dX9_sends_19 : decode cX9_sends 19 = .ok (.iconst 1, 1) := by decide +kernel
theorem dX9_sends_20 : decode cX9_sends 20 = .ok (.iadd, 1) := by decide +kernel
theorem dX9_sends_21 : decode cX9_sends 21 = .ok (.iastore, 1) := by decide +kernel
theorem dX9_sends_22 : decode cX9_sends 22 = .ok (.return_, 1) := by decide +kernel
theorem dX9_sends_23 : decode cX9_sends 23 = .ok (.bipush 93, 2) := by decide +kernel
theorem dX9_sends_25 : decode cX9_sends 25 = .ok (.bipush 13, 2) := by decide +kernel
theorem dX9_sends_27 : decode cX9_sends 27 = .ok (.aload_n 0, 1) := by decide +kernel
theorem dX9_sends_28 : decode cX9_sends 28 = .ok (.getfield 7, 3) := by decide +kernel
theorem dX9_sends_31 : decode cX9_sends 31 = .ok (.bipush 92, 2) := by decide +kernel
theorem dX9_sends_33 : decode cX9_sends 33 = .ok (.iaload, 1) := by decide +kernel
theorem dX9_sends_34 : decode cX9_sends 34 = .ok (.imul, 1) := by decide +kernel
theorem dX9_sends_35 : decode cX9_sends 35 = .ok (.iadd, 1) := by decide +kernel
theorem dX9_sends_36 : decode cX9_sends 36 = .ok (.istore_n 3, 1) := by decide +kernel
theorem dX9_sends_37 : decode cX9_sends 37 = .ok (.aload_n 0, 1) := by decide +kernel
theorem dX9_sends_38 : decode cX9_sends 38 = .ok (.getfield 7, 3) := by decide +kernel
theorem dX9_sends_41 : decode cX9_sends 41 = .ok (.iload_n 3, 1) := by decide +kernel
theorem dX9_sends_42 : decode cX9_sends 42 = .ok (.iconst 0, 1) := by decide +kernel
theorem dX9_sends_43 : decode cX9_sends 43 = .ok (.iadd, 1) := by decide +kernel
theorem dX9_sends_44 : decode cX9_sends 44 = .ok (.iload_n 1, 1) := by decide +kernel
theorem dX9_sends_45 : decode cX9_sends 45 = .ok (.iastore, 1) := by decide +kernel
theorem dX9_sends_46 : decode cX9_sends 46 = .ok (.aload_n 0, 1) := by decide +kernel
theorem dX9_sends_47 : decode cX9_sends 47 = .ok (.getfield 7, 3) := by decide +kernel
theorem dX9_sends_50 : decode cX9_sends 50 = .ok (.iload_n 3, 1) := by decide +kernel
theorem dX9_sends_51 : decode cX9_sends 51 = .ok (.iconst 1, 1) := by decide +kernel
theorem dX9_sends_52 : decode cX9_sends 52 = .ok (.iadd, 1) := by decide +kernel
theorem dX9_sends_53 : decode cX9_sends 53 = .ok (.iload_n 2, 1) := by decide +kernel
theorem dX9_sends_54 : decode cX9_sends 54 = .ok (.iastore, 1) := by decide +kernel
theorem dX9_sends_55 : decode cX9_sends 55 = .ok (.aload_n 0, 1) := by decide +kernel
theorem dX9_sends_56 : decode cX9_sends 56 = .ok (.getfield 7, 3) := by decide +kernel
theorem dX9_sends_59 : decode cX9_sends 59 = .ok (.iload_n 3, 1) := by decide +kernel
theorem dX9_sends_60 : decode cX9_sends 60 = .ok (.iconst 2, 1) := by decide +kernel
theorem dX9_sends_61 : decode cX9_sends 61 = .ok (.iadd, 1) := by decide +kernel
theorem dX9_sends_62 : decode cX9_sends 62 = .ok (.aload_n 0, 1) := by decide +kernel
theorem dX9_sends_63 : decode cX9_sends 63 = .ok (.getfield 169, 3) := by decide +kernel
theorem dX9_sends_66 : decode cX9_sends 66 = .ok (.iastore, 1) := by decide +kernel
theorem dX9_sends_67 : decode cX9_sends 67 = .ok (.iconst 0, 1) := by decide +kernel
theorem dX9_sends_68 : decode cX9_sends 68 = .ok (.istore 4, 2) := by decide +kernel
theorem dX9_sends_70 : decode cX9_sends 70 = .ok (.iload 4, 2) := by decide +kernel
theorem dX9_sends_72 : decode cX9_sends 72 = .ok (.bipush 10, 2) := by decide +kernel
theorem dX9_sends_74 : decode cX9_sends 74 = .ok (.if_icmp .ge 40, 3) := by decide +kernel
theorem dX9_sends_77 : decode cX9_sends 77 = .ok (.aload_n 0, 1) := by decide +kernel
theorem dX9_sends_78 : decode cX9_sends 78 = .ok (.getfield 7, 3) := by decide +kernel
theorem dX9_sends_81 : decode cX9_sends 81 = .ok (.iload_n 3, 1) := by decide +kernel
theorem dX9_sends_82 : decode cX9_sends 82 = .ok (.iconst 3, 1) := by decide +kernel
theorem dX9_sends_83 : decode cX9_sends 83 = .ok (.iadd, 1) := by decide +kernel
theorem dX9_sends_84 : decode cX9_sends 84 = .ok (.iload 4, 2) := by decide +kernel
theorem dX9_sends_86 : decode cX9_sends 86 = .ok (.iadd, 1) := by decide +kernel
theorem dX9_sends_87 : decode cX9_sends 87 = .ok (.iload 4, 2) := by decide +kernel
theorem dX9_sends_89 : decode cX9_sends 89 = .ok (.aload_n 0, 1) := by decide +kernel
theorem dX9_sends_90 : decode cX9_sends 90 = .ok (.getfield 169, 3) := by decide +kernel
theorem dX9_sends_93 : decode cX9_sends 93 = .ok (.if_icmp .ge 13, 3) := by decide +kernel
theorem dX9_sends_96 : decode cX9_sends 96 = .ok (.aload_n 0, 1) := by decide +kernel
theorem dX9_sends_97 : decode cX9_sends 97 = .ok (.getfield 36, 3) := by decide +kernel
theorem dX9_sends_100 : decode cX9_sends 100 = .ok (.iload 4, 2) := by decide +kernel
theorem dX9_sends_102 : decode cX9_sends 102 = .ok (.iaload, 1) := by decide +kernel
theorem dX9_sends_103 : decode cX9_sends 103 = .ok (.goto 4, 3) := by decide +kernel
theorem dX9_sends_106 : decode cX9_sends 106 = .ok (.iconst 0, 1) := by decide +kernel
theorem dX9_sends_107 : decode cX9_sends 107 = .ok (.iastore, 1) := by decide +kernel
theorem dX9_sends_108 : decode cX9_sends 108 = .ok (.iinc 4 1, 3) := by decide +kernel
theorem dX9_sends_111 : decode cX9_sends 111 = .ok (.goto (-41), 3) := by decide +kernel
theorem dX9_sends_114 : decode cX9_sends 114 = .ok (.aload_n 0, 1) := by decide +kernel
theorem dX9_sends_115 : decode cX9_sends 115 = .ok (.getfield 7, 3) := by decide +kernel
theorem dX9_sends_118 : decode cX9_sends 118 = .ok (.bipush 92, 2) := by decide +kernel
theorem dX9_sends_120 : decode cX9_sends 120 = .ok (.dup2, 1) := by decide +kernel
theorem dX9_sends_121 : decode cX9_sends 121 = .ok (.iaload, 1) := by decide +kernel
theorem dX9_sends_122 : decode cX9_sends 122 = .ok (.iconst 1, 1) := by decide +kernel
theorem dX9_sends_123 : decode cX9_sends 123 = .ok (.iadd, 1) := by decide +kernel
theorem dX9_sends_124 : decode cX9_sends 124 = .ok (.iastore, 1) := by decide +kernel
theorem dX9_sends_125 : decode cX9_sends 125 = .ok (.aload_n 0, 1) := by decide +kernel
theorem dX9_sends_126 : decode cX9_sends 126 = .ok (.getfield 16, 3) := by decide +kernel
theorem dX9_sends_129 : decode cX9_sends 129 = .ok (.iconst 0, 1) := by decide +kernel
theorem dX9_sends_130 : decode cX9_sends 130 = .ok (.dup2, 1) := by decide +kernel
theorem dX9_sends_131 : decode cX9_sends 131 = .ok (.iaload, 1) := by decide +kernel
theorem dX9_sends_132 : decode cX9_sends 132 = .ok (.iconst 1, 1) := by decide +kernel
theorem dX9_sends_133 : decode cX9_sends 133 = .ok (.iadd, 1) := by decide +kernel
theorem dX9_sends_134 : decode cX9_sends 134 = .ok (.iastore, 1) := by decide +kernel
theorem dX9_sends_135 : decode cX9_sends 135 = .ok (.return_, 1) := by decide +kernel
theorem dX9_sendsAll_0 : decode cX9_sendsAll 0 = .ok (.aload_n 0, 1) := by decide +kernel
theorem dX9_sendsAll_1 : decode cX9_sendsAll 1 = .ok (.iload_n 1, 1) := by decide +kernel
theorem dX9_sendsAll_2 : decode cX9_sendsAll 2 = .ok (.invokevirtual 96, 3) := by decide +kernel
theorem dX9_sendsAll_5 : decode cX9_sendsAll 5 = .ok (.istore_n 3, 1) := by decide +kernel
theorem dX9_sendsAll_6 : decode cX9_sendsAll 6 = .ok (.iconst 0, 1) := by decide +kernel
theorem dX9_sendsAll_7 : decode cX9_sendsAll 7 = .ok (.istore 4, 2) := by decide +kernel
theorem dX9_sendsAll_9 : decode cX9_sendsAll 9 = .ok (.iload 4, 2) := by decide +kernel
theorem dX9_sendsAll_11 : decode cX9_sendsAll 11 = .ok (.bipush 10, 2) := by decide +kernel
theorem dX9_sendsAll_13 : decode cX9_sendsAll 13 = .ok (.if_icmp .ge 26, 3) := by decide +kernel
theorem dX9_sendsAll_16 : decode cX9_sendsAll 16 = .ok (.iload_n 3, 1) := by decide +kernel
theorem dX9_sendsAll_17 : decode cX9_sendsAll 17 = .ok (.iload 4, 2) := by decide +kernel
theorem dX9_sendsAll_19 : decode cX9_sendsAll 19 = .ok (.ishr, 1) := by decide +kernel
theorem dX9_sendsAll_20 : decode cX9_sendsAll 20 = .ok (.iconst 1, 1) := by decide +kernel
theorem dX9_sendsAll_21 : decode cX9_sendsAll 21 = .ok (.iand, 1) := by decide +kernel
theorem dX9_sendsAll_22 : decode cX9_sendsAll 22 = .ok (.iconst 1, 1) := by decide +kernel
theorem dX9_sendsAll_23 : decode cX9_sendsAll 23 = .ok (.if_icmp .ne 10, 3) := by decide +kernel
theorem dX9_sendsAll_26 : decode cX9_sendsAll 26 = .ok (.aload_n 0, 1) := by decide +kernel
theorem dX9_sendsAll_27 : decode cX9_sendsAll 27 = .ok (.iload 4, 2) := by decide +kernel
theorem dX9_sendsAll_29 : decode cX9_sendsAll 29 = .ok (.iload_n 2, 1) := by decide +kernel
theorem dX9_sendsAll_30 : decode cX9_sendsAll 30 = .ok (.invokevirtual 172, 3) := by decide +kernel
theorem dX9_sendsAll_33 : decode cX9_sendsAll 33 = .ok (.iinc 4 1, 3) := by decide +kernel
theorem dX9_sendsAll_36 : decode cX9_sendsAll 36 = .ok (.goto (-27), 3) := by decide +kernel
theorem dX9_sendsAll_39 : decode cX9_sendsAll 39 = .ok (.return_, 1) := by decide +kernel
theorem dX9_probeFault_0 : decode cX9_probeFault 0 = .ok (.aload_n 0, 1) := by decide +kernel
theorem dX9_probeFault_1 : decode cX9_probeFault 1 = .ok (.iload_n 1, 1) := by decide +kernel
theorem dX9_probeFault_2 : decode cX9_probeFault 2 = .ok (.invokevirtual 72, 3) := by decide +kernel
theorem dX9_probeFault_5 : decode cX9_probeFault 5 = .ok (.ifCond .ne 7, 3) := by decide +kernel
theorem dX9_probeFault_8 : decode cX9_probeFault 8 = .ok (.iconst 1, 1) := by decide +kernel
theorem dX9_probeFault_9 : decode cX9_probeFault 9 = .ok (.goto 16, 3) := by decide +kernel
theorem dX9_probeFault_12 : decode cX9_probeFault 12 = .ok (.aload_n 0, 1) := by decide +kernel
theorem dX9_probeFault_13 : decode cX9_probeFault 13 = .ok (.iload_n 1, 1) := by decide +kernel
theorem dX9_probeFault_14 : decode cX9_probeFault 14 = .ok (.invokevirtual 82, 3) := by decide +kernel
theorem dX9_probeFault_17 : decode cX9_probeFault 17 = .ok (.ifCond .ne 7, 3) := by decide +kernel
theorem dX9_probeFault_20 : decode cX9_probeFault 20 = .ok (.iconst 2, 1) := by decide +kernel
theorem dX9_probeFault_21 : decode cX9_probeFault 21 = .ok (.goto 4, 3) := by decide +kernel
theorem dX9_probeFault_24 : decode cX9_probeFault 24 = .ok (.iconst 0, 1) := by decide +kernel
theorem dX9_probeFault_25 : decode cX9_probeFault 25 = .ok (.ireturn, 1) := by decide +kernel
theorem dX9_starts_0 : decode cX9_starts 0 = .ok (.aload_n 0, 1) := by decide +kernel
theorem dX9_starts_1 : decode cX9_starts 1 = .ok (.getfield 36, 3) := by decide +kernel
theorem dX9_starts_4 : decode cX9_starts 4 = .ok (.iconst 0, 1) := by decide +kernel
theorem dX9_starts_5 : decode cX9_starts 5 = .ok (.iload_n 1, 1) := by decide +kernel
theorem dX9_starts_6 : decode cX9_starts 6 = .ok (.iastore, 1) := by decide +kernel
theorem dX9_starts_7 : decode cX9_starts 7 = .ok (.aload_n 0, 1) := by decide +kernel
theorem dX9_starts_8 : decode cX9_starts 8 = .ok (.iconst 1, 1) := by decide +kernel
theorem dX9_starts_9 : decode cX9_starts 9 = .ok (.putfield 169, 3) := by decide +kernel
theorem dX9_starts_12 : decode cX9_starts 12 = .ok (.aload_n 0, 1) := by decide +kernel
theorem dX9_starts_13 : decode cX9_starts 13 = .ok (.iload_n 1, 1) := by decide +kernel
theorem dX9_starts_14 : decode cX9_starts 14 = .ok (.aload_n 0, 1) := by decide +kernel
theorem dX9_starts_15 : decode cX9_starts 15 = .ok (.getfield 7, 3) := by decide +kernel
theorem dX9_starts_18 : decode cX9_starts 18 = .ok (.bipush 19, 2) := by decide +kernel
theorem dX9_starts_20 : decode cX9_starts 20 = .ok (.iaload, 1) := by decide +kernel
theorem dX9_starts_21 : decode cX9_starts 21 = .ok (.iconst 1, 1) := by decide +kernel
theorem dX9_starts_22 : decode cX9_starts 22 = .ok (.isub, 1) := by decide +kernel
theorem dX9_starts_23 : decode cX9_starts 23 = .ok (.invokevirtual 175, 3) := by decide +kernel
theorem dX9_starts_26 : decode cX9_starts 26 = .ok (.return_, 1) := by decide +kernel
theorem dX9_probe_0 : decode cX9_probe 0 = .ok (.aload_n 0, 1) := by decide +kernel
theorem dX9_probe_1 : decode cX9_probe 1 = .ok (.aload_n 0, 1) := by decide +kernel
theorem dX9_probe_2 : decode cX9_probe 2 = .ok (.iload_n 1, 1) := by decide +kernel
theorem dX9_probe_3 : decode cX9_probe 3 = .ok (.invokevirtual 178, 3) := by decide +kernel
theorem dX9_probe_6 : decode cX9_probe 6 = .ok (.putfield 48, 3) := by decide +kernel
theorem dX9_probe_9 : decode cX9_probe 9 = .ok (.aload_n 0, 1) := by decide +kernel
theorem dX9_probe_10 : decode cX9_probe 10 = .ok (.getfield 48, 3) := by decide +kernel
theorem dX9_probe_13 : decode cX9_probe 13 = .ok (.ifCond .le 5, 3) := by decide +kernel
theorem dX9_probe_16 : decode cX9_probe 16 = .ok (.iconst 0, 1) := by decide +kernel
theorem dX9_probe_17 : decode cX9_probe 17 = .ok (.ireturn, 1) := by decide +kernel
theorem dX9_probe_18 : decode cX9_probe 18 = .ok (.aload_n 0, 1) := by decide +kernel
theorem dX9_probe_19 : decode cX9_probe 19 = .ok (.invokevirtual 66, 3) := by decide +kernel
theorem dX9_probe_22 : decode cX9_probe 22 = .ok (.aload_n 0, 1) := by decide +kernel
theorem dX9_probe_23 : decode cX9_probe 23 = .ok (.iload_n 1, 1) := by decide +kernel
theorem dX9_probe_24 : decode cX9_probe 24 = .ok (.invokevirtual 181, 3) := by decide +kernel
theorem dX9_probe_27 : decode cX9_probe 27 = .ok (.aload_n 0, 1) := by decide +kernel
theorem dX9_probe_28 : decode cX9_probe 28 = .ok (.invokevirtual 69, 3) := by decide +kernel
theorem dX9_probe_31 : decode cX9_probe 31 = .ok (.aload_n 0, 1) := by decide +kernel
theorem dX9_probe_32 : decode cX9_probe 32 = .ok (.getfield 7, 3) := by decide +kernel
theorem dX9_probe_35 : decode cX9_probe 35 = .ok (.bipush 92, 2) := by decide +kernel
theorem dX9_probe_37 : decode cX9_probe 37 = .ok (.iaload, 1) := by decide +kernel
theorem dX9_probe_38 : decode cX9_probe 38 = .ok (.ireturn, 1) := by decide +kernel
theorem dX9_isStale_0 : decode cX9_isStale 0 = .ok (.iconst 0, 1) := by decide +kernel
theorem dX9_isStale_1 : decode cX9_isStale 1 = .ok (.istore_n 2, 1) := by decide +kernel
theorem dX9_isStale_2 : decode cX9_isStale 2 = .ok (.iconst 0, 1) := by decide +kernel
theorem dX9_isStale_3 : decode cX9_isStale 3 = .ok (.istore_n 3, 1) := by decide +kernel
theorem dX9_isStale_4 : decode cX9_isStale 4 = .ok (.iload_n 3, 1) := by decide +kernel
theorem dX9_isStale_5 : decode cX9_isStale 5 = .ok (.aload_n 0, 1) := by decide +kernel
theorem dX9_isStale_6 : decode cX9_isStale 6 = .ok (.getfield 169, 3) := by decide +kernel
theorem dX9_isStale_9 : decode cX9_isStale 9 = .ok (.if_icmp .ge 74, 3) := by decide +kernel
theorem dX9_isStale_12 : decode cX9_isStale 12 = .ok (.iload_n 3, 1) := by decide +kernel
theorem dX9_isStale_13 : decode cX9_isStale 13 = .ok (.iconst 1, 1) := by decide +kernel
theorem dX9_isStale_14 : decode cX9_isStale 14 = .ok (.iadd, 1) := by decide +kernel
theorem dX9_isStale_15 : decode cX9_isStale 15 = .ok (.aload_n 0, 1) := by decide +kernel
theorem dX9_isStale_16 : decode cX9_isStale 16 = .ok (.getfield 169, 3) := by decide +kernel
theorem dX9_isStale_19 : decode cX9_isStale 19 = .ok (.if_icmp .ge 14, 3) := by decide +kernel
theorem dX9_isStale_22 : decode cX9_isStale 22 = .ok (.aload_n 0, 1) := by decide +kernel
theorem dX9_isStale_23 : decode cX9_isStale 23 = .ok (.getfield 36, 3) := by decide +kernel
theorem dX9_isStale_26 : decode cX9_isStale 26 = .ok (.iload_n 3, 1) := by decide +kernel
theorem dX9_isStale_27 : decode cX9_isStale 27 = .ok (.iconst 1, 1) := by decide +kernel
theorem dX9_isStale_28 : decode cX9_isStale 28 = .ok (.iadd, 1) := by decide +kernel
theorem dX9_isStale_29 : decode cX9_isStale 29 = .ok (.iaload, 1) := by decide +kernel
theorem dX9_isStale_30 : decode cX9_isStale 30 = .ok (.goto 4, 3) := by decide +kernel
theorem dX9_isStale_33 : decode cX9_isStale 33 = .ok (.iload_n 1, 1) := by decide +kernel
theorem dX9_isStale_34 : decode cX9_isStale 34 = .ok (.istore 4, 2) := by decide +kernel
theorem dX9_isStale_36 : decode cX9_isStale 36 = .ok (.iload_n 2, 1) := by decide +kernel
theorem dX9_isStale_37 : decode cX9_isStale 37 = .ok (.ifCond .ne 34, 3) := by decide +kernel
theorem dX9_isStale_40 : decode cX9_isStale 40 = .ok (.aload_n 0, 1) := by decide +kernel
theorem dX9_isStale_41 : decode cX9_isStale 41 = .ok (.aload_n 0, 1) := by decide +kernel
theorem dX9_isStale_42 : decode cX9_isStale 42 = .ok (.getfield 36, 3) := by decide +kernel
theorem dX9_isStale_45 : decode cX9_isStale 45 = .ok (.iload_n 3, 1) := by decide +kernel
theorem dX9_isStale_46 : decode cX9_isStale 46 = .ok (.iaload, 1) := by decide +kernel
