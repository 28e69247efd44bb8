theorem dX9_isStale_47 : decode cX9_isStale 47 = .ok (.invokevirtual 82, 3) := by decide +kernel
theorem dX9_isStale_50 : decode cX9_isStale 50 = .ok (.ifCond .eq 21, 3) := by decide +kernel
theorem dX9_isStale_53 : decode cX9_isStale 53 = .ok (.aload_n 0, 1) := by decide +kernel
theorem dX9_isStale_54 : decode cX9_isStale 54 = .ok (.aload_n 0, 1) := by decide +kernel
theorem dX9_isStale_55 : decode cX9_isStale 55 = .ok (.getfield 36, 3) := by decide +kernel
theorem dX9_isStale_58 : decode cX9_isStale 58 = .ok (.iload_n 3, 1) := by decide +kernel
theorem dX9_isStale_59 : decode cX9_isStale 59 = .ok (.iaload, 1) := by decide +kernel
theorem dX9_isStale_60 : decode cX9_isStale 60 = .ok (.invokevirtual 96, 3) := by decide +kernel
theorem dX9_isStale_63 : decode cX9_isStale 63 = .ok (.iload 4, 2) := by decide +kernel
theorem dX9_isStale_65 : decode cX9_isStale 65 = .ok (.ishr, 1) := by decide +kernel
theorem dX9_isStale_66 : decode cX9_isStale 66 = .ok (.iconst 1, 1) := by decide +kernel
theorem dX9_isStale_67 : decode cX9_isStale 67 = .ok (.iand, 1) := by decide +kernel
theorem dX9_isStale_68 : decode cX9_isStale 68 = .ok (.ifCond .ne 7, 3) := by decide +kernel
theorem dX9_isStale_71 : decode cX9_isStale 71 = .ok (.iconst 1, 1) := by decide +kernel
theorem dX9_isStale_72 : decode cX9_isStale 72 = .ok (.goto 4, 3) := by decide +kernel
theorem dX9_isStale_75 : decode cX9_isStale 75 = .ok (.iconst 0, 1) := by decide +kernel
theorem dX9_isStale_76 : decode cX9_isStale 76 = .ok (.istore_n 2, 1) := by decide +kernel
theorem dX9_isStale_77 : decode cX9_isStale 77 = .ok (.iinc 3 1, 3) := by decide +kernel
theorem dX9_isStale_80 : decode cX9_isStale 80 = .ok (.goto (-76), 3) := by decide +kernel
theorem dX9_isStale_83 : decode cX9_isStale 83 = .ok (.iload_n 2, 1) := by decide +kernel
theorem dX9_isStale_84 : decode cX9_isStale 84 = .ok (.ireturn, 1) := by decide +kernel
theorem dX9_isBefore_0 : decode cX9_isBefore 0 = .ok (.aload_n 0, 1) := by decide +kernel
theorem dX9_isBefore_1 : decode cX9_isBefore 1 = .ok (.getfield 7, 3) := by decide +kernel
theorem dX9_isBefore_4 : decode cX9_isBefore 4 = .ok (.bipush 18, 2) := by decide +kernel
theorem dX9_isBefore_6 : decode cX9_isBefore 6 = .ok (.iaload, 1) := by decide +kernel
theorem dX9_isBefore_7 : decode cX9_isBefore 7 = .ok (.ifCond .ne 12, 3) := by decide +kernel
theorem dX9_isBefore_10 : decode cX9_isBefore 10 = .ok (.aload_n 0, 1) := by decide +kernel
theorem dX9_isBefore_11 : decode cX9_isBefore 11 = .ok (.iload_n 1, 1) := by decide +kernel
theorem dX9_isBefore_12 : decode cX9_isBefore 12 = .ok (.iconst 1, 1) := by decide +kernel
theorem dX9_isBefore_13 : decode cX9_isBefore 13 = .ok (.invokevirtual 75, 3) := by decide +kernel
theorem dX9_isBefore_16 : decode cX9_isBefore 16 = .ok (.goto 27, 3) := by decide +kernel
theorem dX9_isBefore_19 : decode cX9_isBefore 19 = .ok (.aload_n 0, 1) := by decide +kernel
theorem dX9_isBefore_20 : decode cX9_isBefore 20 = .ok (.getfield 7, 3) := by decide +kernel
theorem dX9_isBefore_23 : decode cX9_isBefore 23 = .ok (.bipush 18, 2) := by decide +kernel
theorem dX9_isBefore_25 : decode cX9_isBefore 25 = .ok (.iaload, 1) := by decide +kernel
theorem dX9_isBefore_26 : decode cX9_isBefore 26 = .ok (.iconst 1, 1) := by decide +kernel
theorem dX9_isBefore_27 : decode cX9_isBefore 27 = .ok (.if_icmp .ne 7, 3) := by decide +kernel
theorem dX9_isBefore_30 : decode cX9_isBefore 30 = .ok (.iconst 0, 1) := by decide +kernel
theorem dX9_isBefore_31 : decode cX9_isBefore 31 = .ok (.goto 12, 3) := by decide +kernel
theorem dX9_isBefore_34 : decode cX9_isBefore 34 = .ok (.aload_n 0, 1) := by decide +kernel
theorem dX9_isBefore_35 : decode cX9_isBefore 35 = .ok (.iload_n 1, 1) := by decide +kernel
theorem dX9_isBefore_36 : decode cX9_isBefore 36 = .ok (.iconst 3, 1) := by decide +kernel
theorem dX9_isBefore_37 : decode cX9_isBefore 37 = .ok (.invokevirtual 75, 3) := by decide +kernel
theorem dX9_isBefore_40 : decode cX9_isBefore 40 = .ok (.invokestatic 140, 3) := by decide +kernel
theorem dX9_isBefore_43 : decode cX9_isBefore 43 = .ok (.istore_n 3, 1) := by decide +kernel
theorem dX9_isBefore_44 : decode cX9_isBefore 44 = .ok (.aload_n 0, 1) := by decide +kernel
theorem dX9_isBefore_45 : decode cX9_isBefore 45 = .ok (.getfield 7, 3) := by decide +kernel
theorem dX9_isBefore_48 : decode cX9_isBefore 48 = .ok (.bipush 18, 2) := by decide +kernel
theorem dX9_isBefore_50 : decode cX9_isBefore 50 = .ok (.iaload, 1) := by decide +kernel
theorem dX9_isBefore_51 : decode cX9_isBefore 51 = .ok (.ifCond .ne 12, 3) := by decide +kernel
theorem dX9_isBefore_54 : decode cX9_isBefore 54 = .ok (.aload_n 0, 1) := by decide +kernel
theorem dX9_isBefore_55 : decode cX9_isBefore 55 = .ok (.iload_n 2, 1) := by decide +kernel
theorem dX9_isBefore_56 : decode cX9_isBefore 56 = .ok (.iconst 1, 1) := by decide +kernel
theorem dX9_isBefore_57 : decode cX9_isBefore 57 = .ok (.invokevirtual 75, 3) := by decide +kernel
theorem dX9_isBefore_60 : decode cX9_isBefore 60 = .ok (.goto 27, 3) := by decide +kernel
theorem dX9_isBefore_63 : decode cX9_isBefore 63 = .ok (.aload_n 0, 1) := by decide +kernel
theorem dX9_isBefore_64 : decode cX9_isBefore 64 = .ok (.getfield 7, 3) := by decide +kernel
theorem dX9_isBefore_67 : decode cX9_isBefore 67 = .ok (.bipush 18, 2) := by decide +kernel
theorem dX9_isBefore_69 : decode cX9_isBefore 69 = .ok (.iaload, 1) := by decide +kernel
theorem dX9_isBefore_70 : decode cX9_isBefore 70 = .ok (.iconst 1, 1) := by decide +kernel
theorem dX9_isBefore_71 : decode cX9_isBefore 71 = .ok (.if_icmp .ne 7, 3) := by decide +kernel
theorem dX9_isBefore_74 : decode cX9_isBefore 74 = .ok (.iconst 0, 1) := by decide +kernel
theorem dX9_isBefore_75 : decode cX9_isBefore 75 = .ok (.goto 12, 3) := by decide +kernel
theorem dX9_isBefore_78 : decode cX9_isBefore 78 = .ok (.aload_n 0, 1) := by decide +kernel
theorem dX9_isBefore_79 : decode cX9_isBefore 79 = .ok (.iload_n 2, 1) := by decide +kernel
theorem dX9_isBefore_80 : decode cX9_isBefore 80 = .ok (.iconst 3, 1) := by decide +kernel
theorem dX9_isBefore_81 : decode cX9_isBefore 81 = .ok (.invokevirtual 75, 3) := by decide +kernel
theorem dX9_isBefore_84 : decode cX9_isBefore 84 = .ok (.invokestatic 140, 3) := by decide +kernel
theorem dX9_isBefore_87 : decode cX9_isBefore 87 = .ok (.istore 4, 2) := by decide +kernel
theorem dX9_isBefore_89 : decode cX9_isBefore 89 = .ok (.iload_n 3, 1) := by decide +kernel
theorem dX9_isBefore_90 : decode cX9_isBefore 90 = .ok (.iload 4, 2) := by decide +kernel
theorem dX9_isBefore_92 : decode cX9_isBefore 92 = .ok (.if_icmp .lt 24, 3) := by decide +kernel
theorem dX9_isBefore_95 : decode cX9_isBefore 95 = .ok (.iload_n 3, 1) := by decide +kernel
theorem dX9_isBefore_96 : decode cX9_isBefore 96 = .ok (.iload 4, 2) := by decide +kernel
theorem dX9_isBefore_98 : decode cX9_isBefore 98 = .ok (.if_icmp .ne 22, 3) := by decide +kernel
theorem dX9_isBefore_101 : decode cX9_isBefore 101 = .ok (.aload_n 0, 1) := by decide +kernel
theorem dX9_isBefore_102 : decode cX9_isBefore 102 = .ok (.iload_n 1, 1) := by decide +kernel
theorem dX9_isBefore_103 : decode cX9_isBefore 103 = .ok (.iconst 2, 1) := by decide +kernel
theorem dX9_isBefore_104 : decode cX9_isBefore 104 = .ok (.invokevirtual 75, 3) := by decide +kernel
theorem dX9_isBefore_107 : decode cX9_isBefore 107 = .ok (.aload_n 0, 1) := by decide +kernel
theorem dX9_isBefore_108 : decode cX9_isBefore 108 = .ok (.iload_n 2, 1) := by decide +kernel
theorem dX9_isBefore_109 : decode cX9_isBefore 109 = .ok (.iconst 2, 1) := by decide +kernel
theorem dX9_isBefore_110 : decode cX9_isBefore 110 = .ok (.invokevirtual 75, 3) := by decide +kernel
theorem dX9_isBefore_113 : decode cX9_isBefore 113 = .ok (.if_icmp .le 7, 3) := by decide +kernel
theorem dX9_isBefore_116 : decode cX9_isBefore 116 = .ok (.iconst 1, 1) := by decide +kernel
theorem dX9_isBefore_117 : decode cX9_isBefore 117 = .ok (.goto 4, 3) := by decide +kernel
theorem dX9_isBefore_120 : decode cX9_isBefore 120 = .ok (.iconst 0, 1) := by decide +kernel
theorem dX9_isBefore_121 : decode cX9_isBefore 121 = .ok (.ireturn, 1) := by decide +kernel
theorem dX9_finds_0 : decode cX9_finds 0 = .ok (.aload_n 0, 1) := by decide +kernel
theorem dX9_finds_1 : decode cX9_finds 1 = .ok (.getfield 16, 3) := by decide +kernel
theorem dX9_finds_4 : decode cX9_finds 4 = .ok (.iconst 4, 1) := by decide +kernel
theorem dX9_finds_5 : decode cX9_finds 5 = .ok (.dup2, 1) := by decide +kernel
theorem dX9_finds_6 : decode cX9_finds 6 = .ok (.iaload, 1) := by decide +kernel
theorem dX9_finds_7 : decode cX9_finds 7 = .ok (.iconst 1, 1) := by decide +kernel
theorem dX9_finds_8 : decode cX9_finds 8 = .ok (.iadd, 1) := by decide +kernel
theorem dX9_finds_9 : decode cX9_finds 9 = .ok (.iastore, 1) := by decide +kernel
theorem dX9_finds_10 : decode cX9_finds 10 = .ok (.aload_n 0, 1) := by decide +kernel
theorem dX9_finds_11 : decode cX9_finds 11 = .ok (.iconst 0, 1) := by decide +kernel
theorem dX9_finds_12 : decode cX9_finds 12 = .ok (.putfield 23, 3) := by decide +kernel
theorem dX9_finds_15 : decode cX9_finds 15 = .ok (.aload_n 0, 1) := by decide +kernel
theorem dX9_finds_16 : decode cX9_finds 16 = .ok (.aload_n 0, 1) := by decide +kernel
theorem dX9_finds_17 : decode cX9_finds 17 = .ok (.getfield 36, 3) := by decide +kernel
theorem dX9_finds_20 : decode cX9_finds 20 = .ok (.iconst 0, 1) := by decide +kernel
theorem dX9_finds_21 : decode cX9_finds 21 = .ok (.iaload, 1) := by decide +kernel
theorem dX9_finds_22 : decode cX9_finds 22 = .ok (.putfield 30, 3) := by decide +kernel
theorem dX9_finds_25 : decode cX9_finds 25 = .ok (.aload_n 0, 1) := by decide +kernel
theorem dX9_finds_26 : decode cX9_finds 26 = .ok (.aload_n 0, 1) := by decide +kernel
theorem dX9_finds_27 : decode cX9_finds 27 = .ok (.getfield 36, 3) := by decide +kernel
theorem dX9_finds_30 : decode cX9_finds 30 = .ok (.iconst 0, 1) := by decide +kernel
theorem dX9_finds_31 : decode cX9_finds 31 = .ok (.iaload, 1) := by decide +kernel
theorem dX9_finds_32 : decode cX9_finds 32 = .ok (.putfield 27, 3) := by decide +kernel
theorem dX9_finds_35 : decode cX9_finds 35 = .ok (.iconst 0, 1) := by decide +kernel
theorem dX9_finds_36 : decode cX9_finds 36 = .ok (.istore_n 1, 1) := by decide +kernel
theorem dX9_finds_37 : decode cX9_finds 37 = .ok (.iload_n 1, 1) := by decide +kernel
theorem dX9_finds_38 : decode cX9_finds 38 = .ok (.aload_n 0, 1) := by decide +kernel
theorem dX9_finds_39 : decode cX9_finds 39 = .ok (.getfield 169, 3) := by decide +kernel
theorem dX9_finds_42 : decode cX9_finds 42 = .ok (.if_icmp .ge 60, 3) := by decide +kernel
theorem dX9_finds_45 : decode cX9_finds 45 = .ok (.aload_n 0, 1) := by decide +kernel
theorem dX9_finds_46 : decode cX9_finds 46 = .ok (.dup, 1) := by decide +kernel
theorem dX9_finds_47 : decode cX9_finds 47 = .ok (.getfield 23, 3) := by decide +kernel
theorem dX9_finds_50 : decode cX9_finds 50 = .ok (.iconst 1, 1) := by decide +kernel
theorem dX9_finds_51 : decode cX9_finds 51 = .ok (.aload_n 0, 1) := by decide +kernel
theorem dX9_finds_52 : decode cX9_finds 52 = .ok (.getfield 36, 3) := by decide +kernel
theorem dX9_finds_55 : decode cX9_finds 55 = .ok (.iload_n 1, 1) := by decide +kernel
theorem dX9_finds_56 : decode cX9_finds 56 = .ok (.iaload, 1) := by decide +kernel
theorem dX9_finds_57 : decode cX9_finds 57 = .ok (.ishl, 1) := by decide +kernel
theorem dX9_finds_58 : decode cX9_finds 58 = .ok (.ior, 1) := by decide +kernel
theorem dX9_finds_59 : decode cX9_finds 59 = .ok (.putfield 23, 3) := by decide +kernel
theorem dX9_finds_62 : decode cX9_finds 62 = .ok (.aload_n 0, 1) := by decide +kernel
theorem dX9_finds_63 : decode cX9_finds 63 = .ok (.aload_n 0, 1) := by decide +kernel
theorem dX9_finds_64 : decode cX9_finds 64 = .ok (.aload_n 0, 1) := by decide +kernel
theorem dX9_finds_65 : decode cX9_finds 65 = .ok (.getfield 36, 3) := by decide +kernel
theorem dX9_finds_68 : decode cX9_finds 68 = .ok (.iload_n 1, 1) := by decide +kernel
theorem dX9_finds_69 : decode cX9_finds 69 = .ok (.iaload, 1) := by decide +kernel
theorem dX9_finds_70 : decode cX9_finds 70 = .ok (.aload_n 0, 1) := by decide +kernel
theorem dX9_finds_71 : decode cX9_finds 71 = .ok (.getfield 27, 3) := by decide +kernel
theorem dX9_finds_74 : decode cX9_finds 74 = .ok (.invokevirtual 184, 3) := by decide +kernel
theorem dX9_finds_77 : decode cX9_finds 77 = .ok (.ifCond .eq 12, 3) := by decide +kernel
theorem dX9_finds_80 : decode cX9_finds 80 = .ok (.aload_n 0, 1) := by decide +kernel
theorem dX9_finds_81 : decode cX9_finds 81 = .ok (.getfield 36, 3) := by decide +kernel
theorem dX9_finds_84 : decode cX9_finds 84 = .ok (.iload_n 1, 1) := by decide +kernel
theorem dX9_finds_85 : decode cX9_finds 85 = .ok (.iaload, 1) := by decide +kernel
theorem dX9_finds_86 : decode cX9_finds 86 = .ok (.goto 7, 3) := by decide +kernel
theorem dX9_finds_89 : decode cX9_finds 89 = .ok (.aload_n 0, 1) := by decide +kernel
theorem dX9_finds_90 : decode cX9_finds 90 = .ok (.getfield 27, 3) := by decide +kernel
theorem dX9_finds_93 : decode cX9_finds 93 = .ok (.putfield 27, 3) := by decide +kernel
theorem dX9_finds_96 : decode cX9_finds 96 = .ok (.iinc 1 1, 3) := by decide +kernel
theorem dX9_finds_99 : decode cX9_finds 99 = .ok (.goto (-62), 3) := by decide +kernel
theorem dX9_finds_102 : decode cX9_finds 102 = .ok (.aload_n 0, 1) := by decide +kernel
theorem dX9_finds_103 : decode cX9_finds 103 = .ok (.aload_n 0, 1) := by decide +kernel
theorem dX9_finds_104 : decode cX9_finds 104 = .ok (.getfield 27, 3) := by decide +kernel
theorem dX9_finds_107 : decode cX9_finds 107 = .ok (.invokevirtual 152, 3) := by decide +kernel
theorem dX9_finds_110 : decode cX9_finds 110 = .ok (.return_, 1) := by decide +kernel
theorem dX9_isOnPath_0 : decode cX9_isOnPath 0 = .ok (.iconst 0, 1) := by decide +kernel
theorem dX9_isOnPath_1 : decode cX9_isOnPath 1 = .ok (.istore_n 2, 1) := by decide +kernel
theorem dX9_isOnPath_2 : decode cX9_isOnPath 2 = .ok (.iconst 0, 1) := by decide +kernel
theorem dX9_isOnPath_3 : decode cX9_isOnPath 3 = .ok (.istore_n 3, 1) := by decide +kernel
theorem dX9_isOnPath_4 : decode cX9_isOnPath 4 = .ok (.iload_n 3, 1) := by decide +kernel
theorem dX9_isOnPath_5 : decode cX9_isOnPath 5 = .ok (.aload_n 0, 1) := by decide +kernel
theorem dX9_isOnPath_6 : decode cX9_isOnPath 6 = .ok (.getfield 169, 3) := by decide +kernel
theorem dX9_isOnPath_9 : decode cX9_isOnPath 9 = .ok (.if_icmp .ge 29, 3) := by decide +kernel
theorem dX9_isOnPath_12 : decode cX9_isOnPath 12 = .ok (.iload_n 2, 1) := by decide +kernel
theorem dX9_isOnPath_13 : decode cX9_isOnPath 13 = .ok (.ifCond .ne 13, 3) := by decide +kernel
theorem dX9_isOnPath_16 : decode cX9_isOnPath 16 = .ok (.aload_n 0, 1) := by decide +kernel
theorem dX9_isOnPath_17 : decode cX9_isOnPath 17 = .ok (.getfield 36, 3) := by decide +kernel
theorem dX9_isOnPath_20 : decode cX9_isOnPath 20 = .ok (.iload_n 3, 1) := by decide +kernel
theorem dX9_isOnPath_21 : decode cX9_isOnPath 21 = .ok (.iaload, 1) := by decide +kernel
theorem dX9_isOnPath_22 : decode cX9_isOnPath 22 = .ok (.iload_n 1, 1) := by decide +kernel
theorem dX9_isOnPath_23 : decode cX9_isOnPath 23 = .ok (.if_icmp .ne 7, 3) := by decide +kernel
theorem dX9_isOnPath_26 : decode cX9_isOnPath 26 = .ok (.iconst 1, 1) := by decide +kernel
theorem dX9_isOnPath_27 : decode cX9_isOnPath 27 = .ok (.goto 4, 3) := by decide +kernel
theorem dX9_isOnPath_30 : decode cX9_isOnPath 30 = .ok (.iconst 0, 1) := by decide +kernel
theorem dX9_isOnPath_31 : decode cX9_isOnPath 31 = .ok (.istore_n 2, 1) := by decide +kernel
theorem dX9_isOnPath_32 : decode cX9_isOnPath 32 = .ok (.iinc 3 1, 3) := by decide +kernel
theorem dX9_isOnPath_35 : decode cX9_isOnPath 35 = .ok (.goto (-31), 3) := by decide +kernel
theorem dX9_isOnPath_38 : decode cX9_isOnPath 38 = .ok (.iload_n 2, 1) := by decide +kernel
theorem dX9_isOnPath_39 : decode cX9_isOnPath 39 = .ok (.ireturn, 1) := by decide +kernel
theorem dX9_delivers_0 : decode cX9_delivers 0 = .ok (.aload_n 0, 1) := by decide +kernel
theorem dX9_delivers_1 : decode cX9_delivers 1 = .ok (.getfield 7, 3) := by decide +kernel
theorem dX9_delivers_4 : decode cX9_delivers 4 = .ok (.bipush 93, 2) := by decide +kernel
theorem dX9_delivers_6 : decode cX9_delivers 6 = .ok (.iaload, 1) := by decide +kernel
theorem dX9_delivers_7 : decode cX9_delivers 7 = .ok (.istore_n 1, 1) := by decide +kernel
theorem dX9_delivers_8 : decode cX9_delivers 8 = .ok (.aload_n 0, 1) := by decide +kernel
theorem dX9_delivers_9 : decode cX9_delivers 9 = .ok (.getfield 7, 3) := by decide +kernel
theorem dX9_delivers_12 : decode cX9_delivers 12 = .ok (.bipush 94, 2) := by decide +kernel
theorem dX9_delivers_14 : decode cX9_delivers 14 = .ok (.iaload, 1) := by decide +kernel
theorem dX9_delivers_15 : decode cX9_delivers 15 = .ok (.istore_n 2, 1) := by decide +kernel
theorem dX9_delivers_16 : decode cX9_delivers 16 = .ok (.aload_n 0, 1) := by decide +kernel
theorem dX9_delivers_17 : decode cX9_delivers 17 = .ok (.aload_n 0, 1) := by decide +kernel
theorem dX9_delivers_18 : decode cX9_delivers 18 = .ok (.getfield 7, 3) := by decide +kernel
theorem dX9_delivers_21 : decode cX9_delivers 21 = .ok (.bipush 95, 2) := by decide +kernel
theorem dX9_delivers_23 : decode cX9_delivers 23 = .ok (.iaload, 1) := by decide +kernel
theorem dX9_delivers_24 : decode cX9_delivers 24 = .ok (.putfield 169, 3) := by decide +kernel
theorem dX9_delivers_27 : decode cX9_delivers 27 = .ok (.iconst 0, 1) := by decide +kernel
theorem dX9_delivers_28 : decode cX9_delivers 28 = .ok (.istore_n 3, 1) := by decide +kernel
theorem dX9_delivers_29 : decode cX9_delivers 29 = .ok (.iload_n 3, 1) := by decide +kernel
theorem dX9_delivers_30 : decode cX9_delivers 30 = .ok (.aload_n 0, 1) := by decide +kernel
theorem dX9_delivers_31 : decode cX9_delivers 31 = .ok (.getfield 169, 3) := by decide +kernel
theorem dX9_delivers_34 : decode cX9_delivers 34 = .ok (.if_icmp .ge 24, 3) := by decide +kernel
theorem dX9_delivers_37 : decode cX9_delivers 37 = .ok (.aload_n 0, 1) := by decide +kernel
theorem dX9_delivers_38 : decode cX9_delivers 38 = .ok (.getfield 36, 3) := by decide +kernel
theorem dX9_delivers_41 : decode cX9_delivers 41 = .ok (.iload_n 3, 1) := by decide +kernel
theorem dX9_delivers_42 : decode cX9_delivers 42 = .ok (.aload_n 0, 1) := by decide +kernel
theorem dX9_delivers_43 : decode cX9_delivers 43 = .ok (.getfield 7, 3) := by decide +kernel
theorem dX9_delivers_46 : decode cX9_delivers 46 = .ok (.bipush 96, 2) := by decide +kernel
theorem dX9_delivers_48 : decode cX9_delivers 48 = .ok (.iload_n 3, 1) := by decide +kernel
theorem dX9_delivers_49 : decode cX9_delivers 49 = .ok (.iadd, 1) := by decide +kernel
theorem dX9_delivers_50 : decode cX9_delivers 50 = .ok (.iaload, 1) := by decide +kernel
theorem dX9_delivers_51 : decode cX9_delivers 51 = .ok (.iastore, 1) := by decide +kernel
theorem dX9_delivers_52 : decode cX9_delivers 52 = .ok (.iinc 3 1, 3) := by decide +kernel
theorem dX9_delivers_55 : decode cX9_delivers 55 = .ok (.goto (-26), 3) := by decide +kernel
theorem dX9_delivers_58 : decode cX9_delivers 58 = .ok (.aload_n 0, 1) := by decide +kernel
theorem dX9_delivers_59 : decode cX9_delivers 59 = .ok (.getfield 7, 3) := by decide +kernel
theorem dX9_delivers_62 : decode cX9_delivers 62 = .ok (.bipush 92, 2) := by decide +kernel
theorem dX9_delivers_64 : decode cX9_delivers 64 = .ok (.dup2, 1) := by decide +kernel
theorem dX9_delivers_65 : decode cX9_delivers 65 = .ok (.iaload, 1) := by decide +kernel
theorem dX9_delivers_66 : decode cX9_delivers 66 = .ok (.iconst 1, 1) := by decide +kernel
theorem dX9_delivers_67 : decode cX9_delivers 67 = .ok (.isub, 1) := by decide +kernel
theorem dX9_delivers_68 : decode cX9_delivers 68 = .ok (.iastore, 1) := by decide +kernel
theorem dX9_delivers_69 : decode cX9_delivers 69 = .ok (.iconst 0, 1) := by decide +kernel
theorem dX9_delivers_70 : decode cX9_delivers 70 = .ok (.istore_n 3, 1) := by decide +kernel
theorem dX9_delivers_71 : decode cX9_delivers 71 = .ok (.iload_n 3, 1) := by decide +kernel
theorem dX9_delivers_72 : decode cX9_delivers 72 = .ok (.bipush 13, 2) := by decide +kernel
theorem dX9_delivers_74 : decode cX9_delivers 74 = .ok (.aload_n 0, 1) := by decide +kernel
theorem dX9_delivers_75 : decode cX9_delivers 75 = .ok (.getfield 7, 3) := by decide +kernel
theorem dX9_delivers_78 : decode cX9_delivers 78 = .ok (.bipush 92, 2) := by decide +kernel
theorem dX9_delivers_80 : decode cX9_delivers 80 = .ok (.iaload, 1) := by decide +kernel
theorem dX9_delivers_81 : decode cX9_delivers 81 = .ok (.imul, 1) := by decide +kernel
theorem dX9_delivers_82 : decode cX9_delivers 82 = .ok (.if_icmp .ge 30, 3) := by decide +kernel
theorem dX9_delivers_85 : decode cX9_delivers 85 = .ok (.aload_n 0, 1) := by decide +kernel
theorem dX9_delivers_86 : decode cX9_delivers 86 = .ok (.getfield 7, 3) := by decide +kernel
theorem dX9_delivers_89 : decode cX9_delivers 89 = .ok (.bipush 93, 2) := by decide +kernel
theorem dX9_delivers_91 : decode cX9_delivers 91 = .ok (.iload_n 3, 1) := by decide +kernel
theorem dX9_delivers_92 : decode cX9_delivers 92 = .ok (.iadd, 1) := by decide +kernel
theorem dX9_delivers_93 : decode cX9_delivers 93 = .ok (.aload_n 0, 1) := by decide +kernel
theorem dX9_delivers_94 : decode cX9_delivers 94 = .ok (.getfield 7, 3) := by decide +kernel
theorem dX9_delivers_97 : decode cX9_delivers 97 = .ok (.bipush 93, 2) := by decide +kernel
theorem dX9_delivers_99 : decode cX9_delivers 99 = .ok (.iload_n 3, 1) := by decide +kernel
theorem dX9_delivers_100 : decode cX9_delivers 100 = .ok (.iadd, 1) := by decide +kernel
theorem dX9_delivers_101 : decode cX9_delivers 101 = .ok (.bipush 13, 2) := by decide +kernel
theorem dX9_delivers_103 : decode cX9_delivers 103 = .ok (.iadd, 1) := by decide +kernel
theorem dX9_delivers_104 : decode cX9_delivers 104 = .ok (.iaload, 1) := by decide +kernel
theorem dX9_delivers_105 : decode cX9_delivers 105 = .ok (.iastore, 1) := by decide +kernel
theorem dX9_delivers_106 : decode cX9_delivers 106 = .ok (.iinc 3 1, 3) := by decide +kernel
theorem dX9_delivers_109 : decode cX9_delivers 109 = .ok (.goto (-38), 3) := by decide +kernel
theorem dX9_delivers_112 : decode cX9_delivers 112 = .ok (.iconst 0, 1) := by decide +kernel
theorem dX9_delivers_113 : decode cX9_delivers 113 = .ok (.istore_n 3, 1) := by decide +kernel
theorem dX9_delivers_114 : decode cX9_delivers 114 = .ok (.iload_n 3, 1) := by decide +kernel
theorem dX9_delivers_115 : decode cX9_delivers 115 = .ok (.bipush 13, 2) := by decide +kernel
theorem dX9_delivers_117 : decode cX9_delivers 117 = .ok (.if_icmp .ge 30, 3) := by decide +kernel
theorem dX9_delivers_120 : decode cX9_delivers 120 = .ok (.aload_n 0, 1) := by decide +kernel
theorem dX9_delivers_121 : decode cX9_delivers 121 = .ok (.getfield 7, 3) := by decide +kernel
theorem dX9_delivers_124 : decode cX9_delivers 124 = .ok (.bipush 93, 2) := by decide +kernel
theorem dX9_delivers_126 : decode cX9_delivers 126 = .ok (.bipush 13, 2) := by decide +kernel
theorem dX9_delivers_128 : decode cX9_delivers 128 = .ok (.aload_n 0, 1) := by decide +kernel
theorem dX9_delivers_129 : decode cX9_delivers 129 = .ok (.getfield 7, 3) := by decide +kernel
theorem dX9_delivers_132 : decode cX9_delivers 132 = .ok (.bipush 92, 2) := by decide +kernel
theorem dX9_delivers_134 : decode cX9_delivers 134 = .ok (.iaload, 1) := by decide +kernel
theorem dX9_delivers_135 : decode cX9_delivers 135 = .ok (.imul, 1) := by decide +kernel
theorem dX9_delivers_136 : decode cX9_delivers 136 = .ok (.iadd, 1) := by decide +kernel
theorem dX9_delivers_137 : decode cX9_delivers 137 = .ok (.iload_n 3, 1) := by decide +kernel
theorem dX9_delivers_138 : decode cX9_delivers 138 = .ok (.iadd, 1) := by decide +kernel
theorem dX9_delivers_139 : decode cX9_delivers 139 = .ok (.iconst 0, 1) := by decide +kernel
theorem dX9_delivers_140 : decode cX9_delivers 140 = .ok (.iastore, 1) := by decide +kernel
theorem dX9_delivers_141 : decode cX9_delivers 141 = .ok (.iinc 3 1, 3) := by decide +kernel
theorem dX9_delivers_144 : decode cX9_delivers 144 = .ok (.goto (-30), 3) := by decide +kernel
theorem dX9_delivers_147 : decode cX9_delivers 147 = .ok (.aload_n 0, 1) := by decide +kernel
theorem dX9_delivers_148 : decode cX9_delivers 148 = .ok (.iload_n 1, 1) := by decide +kernel
theorem dX9_delivers_149 : decode cX9_delivers 149 = .ok (.invokevirtual 187, 3) := by decide +kernel
theorem dX9_delivers_152 : decode cX9_delivers 152 = .ok (.ifCond .eq 16, 3) := by decide +kernel
theorem dX9_delivers_155 : decode cX9_delivers 155 = .ok (.aload_n 0, 1) := by decide +kernel
theorem dX9_delivers_156 : decode cX9_delivers 156 = .ok (.getfield 16, 3) := by decide +kernel
theorem dX9_delivers_159 : decode cX9_delivers 159 = .ok (.iconst 2, 1) := by decide +kernel
theorem dX9_delivers_160 : decode cX9_delivers 160 = .ok (.dup2, 1) := by decide +kernel
theorem dX9_delivers_161 : decode cX9_delivers 161 = .ok (.iaload, 1) := by decide +kernel
theorem dX9_delivers_162 : decode cX9_delivers 162 = .ok (.iconst 1, 1) := by decide +kernel
theorem dX9_delivers_163 : decode cX9_delivers 163 = .ok (.iadd, 1) := by decide +kernel
theorem dX9_delivers_164 : decode cX9_delivers 164 = .ok (.iastore, 1) := by decide +kernel
theorem dX9_delivers_165 : decode cX9_delivers 165 = .ok (.goto 131, 3) := by decide +kernel
theorem dX9_delivers_168 : decode cX9_delivers 168 = .ok (.iload_n 1, 1) := by decide +kernel
theorem dX9_delivers_169 : decode cX9_delivers 169 = .ok (.aload_n 0, 1) := by decide +kernel
theorem dX9_delivers_170 : decode cX9_delivers 170 = .ok (.getfield 36, 3) := by decide +kernel
theorem dX9_delivers_173 : decode cX9_delivers 173 = .ok (.iconst 0, 1) := by decide +kernel
theorem dX9_delivers_174 : decode cX9_delivers 174 = .ok (.iaload, 1) := by decide +kernel
theorem dX9_delivers_175 : decode cX9_delivers 175 = .ok (.if_icmp .ne 10, 3) := by decide +kernel
theorem dX9_delivers_178 : decode cX9_delivers 178 = .ok (.aload_n 0, 1) := by decide +kernel
theorem dX9_delivers_179 : decode cX9_delivers 179 = .ok (.invokevirtual 190, 3) := by decide +kernel
theorem dX9_delivers_182 : decode cX9_delivers 182 = .ok (.goto 114, 3) := by decide +kernel
theorem dX9_delivers_185 : decode cX9_delivers 185 = .ok (.aload_n 0, 1) := by decide +kernel
theorem dX9_delivers_186 : decode cX9_delivers 186 = .ok (.iload_n 1, 1) := by decide +kernel
theorem dX9_delivers_187 : decode cX9_delivers 187 = .ok (.invokevirtual 82, 3) := by decide +kernel
theorem dX9_delivers_190 : decode cX9_delivers 190 = .ok (.ifCond .eq 62, 3) := by decide +kernel
theorem dX9_delivers_193 : decode cX9_delivers 193 = .ok (.aload_n 0, 1) := by decide +kernel
theorem dX9_delivers_194 : decode cX9_delivers 194 = .ok (.iload_n 1, 1) := by decide +kernel
theorem dX9_delivers_195 : decode cX9_delivers 195 = .ok (.invokevirtual 193, 3) := by decide +kernel
theorem dX9_delivers_198 : decode cX9_delivers 198 = .ok (.ifCond .ne 54, 3) := by decide +kernel
theorem dX9_delivers_201 : decode cX9_delivers 201 = .ok (.iload_n 2, 1) := by decide +kernel
theorem dX9_delivers_202 : decode cX9_delivers 202 = .ok (.ifCond .ne 50, 3) := by decide +kernel
theorem dX9_delivers_205 : decode cX9_delivers 205 = .ok (.aload_n 0, 1) := by decide +kernel
theorem dX9_delivers_206 : decode cX9_delivers 206 = .ok (.getfield 16, 3) := by decide +kernel
theorem dX9_delivers_209 : decode cX9_delivers 209 = .ok (.iconst 3, 1) := by decide +kernel
theorem dX9_delivers_210 : decode cX9_delivers 210 = .ok (.dup2, 1) := by decide +kernel
theorem dX9_delivers_211 : decode cX9_delivers 211 = .ok (.iaload, 1) := by decide +kernel
theorem dX9_delivers_212 : decode cX9_delivers 212 = .ok (.iconst 1, 1) := by decide +kernel
theorem dX9_delivers_213 : decode cX9_delivers 213 = .ok (.iadd, 1) := by decide +kernel
theorem dX9_delivers_214 : decode cX9_delivers 214 = .ok (.iastore, 1) := by decide +kernel
theorem dX9_delivers_215 : decode cX9_delivers 215 = .ok (.aload_n 0, 1) := by decide +kernel
theorem dX9_delivers_216 : decode cX9_delivers 216 = .ok (.getfield 16, 3) := by decide +kernel
theorem dX9_delivers_219 : decode cX9_delivers 219 = .ok (.iconst 5, 1) := by decide +kernel
theorem dX9_delivers_220 : decode cX9_delivers 220 = .ok (.dup2, 1) := by decide +kernel
theorem dX9_delivers_221 : decode cX9_delivers 221 = .ok (.iaload, 1) := by decide +kernel
theorem dX9_delivers_222 : decode cX9_delivers 222 = .ok (.aload_n 0, 1) := by decide +kernel
theorem dX9_delivers_223 : decode cX9_delivers 223 = .ok (.sipush 1023, 3) := by decide +kernel
theorem dX9_delivers_226 : decode cX9_delivers 226 = .ok (.invokevirtual 196, 3) := by decide +kernel
theorem dX9_delivers_229 : decode cX9_delivers 229 = .ok (.aload_n 0, 1) := by decide +kernel
theorem dX9_delivers_230 : decode cX9_delivers 230 = .ok (.getfield 36, 3) := by decide +kernel
theorem dX9_delivers_233 : decode cX9_delivers 233 = .ok (.iconst 0, 1) := by decide +kernel
theorem dX9_delivers_234 : decode cX9_delivers 234 = .ok (.iaload, 1) := by decide +kernel
theorem dX9_delivers_235 : decode cX9_delivers 235 = .ok (.ishr, 1) := by decide +kernel
theorem dX9_delivers_236 : decode cX9_delivers 236 = .ok (.iconst 1, 1) := by decide +kernel
theorem dX9_delivers_237 : decode cX9_delivers 237 = .ok (.iand, 1) := by decide +kernel
theorem dX9_delivers_238 : decode cX9_delivers 238 = .ok (.iconst 1, 1) := by decide +kernel
theorem dX9_delivers_239 : decode cX9_delivers 239 = .ok (.if_icmp .ne 7, 3) := by decide +kernel
theorem dX9_delivers_242 : decode cX9_delivers 242 = .ok (.iconst 1, 1) := by decide +kernel
theorem dX9_delivers_243 : decode cX9_delivers 243 = .ok (.goto 4, 3) := by decide +kernel
theorem dX9_delivers_246 : decode cX9_delivers 246 = .ok (.iconst 0, 1) := by decide +kernel
theorem dX9_delivers_247 : decode cX9_delivers 247 = .ok (.iadd, 1) := by decide +kernel
theorem dX9_delivers_248 : decode cX9_delivers 248 = .ok (.iastore, 1) := by decide +kernel
theorem dX9_delivers_249 : decode cX9_delivers 249 = .ok (.goto 47, 3) := by decide +kernel
theorem dX9_delivers_252 : decode cX9_delivers 252 = .ok (.aload_n 0, 1) := by decide +kernel
theorem dX9_delivers_253 : decode cX9_delivers 253 = .ok (.iload_n 1, 1) := by decide +kernel
theorem dX9_delivers_254 : decode cX9_delivers 254 = .ok (.invokevirtual 82, 3) := by decide +kernel
theorem dX9_delivers_257 : decode cX9_delivers 257 = .ok (.ifCond .eq 39, 3) := by decide +kernel
theorem dX9_delivers_260 : decode cX9_delivers 260 = .ok (.aload_n 0, 1) := by decide +kernel
theorem dX9_delivers_261 : decode cX9_delivers 261 = .ok (.iload_n 1, 1) := by decide +kernel
theorem dX9_delivers_262 : decode cX9_delivers 262 = .ok (.invokevirtual 193, 3) := by decide +kernel
theorem dX9_delivers_265 : decode cX9_delivers 265 = .ok (.ifCond .ne 31, 3) := by decide +kernel
theorem dX9_delivers_268 : decode cX9_delivers 268 = .ok (.aload_n 0, 1) := by decide +kernel
theorem dX9_delivers_269 : decode cX9_delivers 269 = .ok (.getfield 36, 3) := by decide +kernel
theorem dX9_delivers_272 : decode cX9_delivers 272 = .ok (.aload_n 0, 1) := by decide +kernel
theorem dX9_delivers_273 : decode cX9_delivers 273 = .ok (.getfield 169, 3) := by decide +kernel
theorem dX9_delivers_276 : decode cX9_delivers 276 = .ok (.iload_n 1, 1) := by decide +kernel
theorem dX9_delivers_277 : decode cX9_delivers 277 = .ok (.iastore, 1) := by decide +kernel
theorem dX9_delivers_278 : decode cX9_delivers 278 = .ok (.aload_n 0, 1) := by decide +kernel
theorem dX9_delivers_279 : decode cX9_delivers 279 = .ok (.dup, 1) := by decide +kernel
theorem dX9_delivers_280 : decode cX9_delivers 280 = .ok (.getfield 169, 3) := by decide +kernel
theorem dX9_delivers_283 : decode cX9_delivers 283 = .ok (.iconst 1, 1) := by decide +kernel
theorem dX9_delivers_284 : decode cX9_delivers 284 = .ok (.iadd, 1) := by decide +kernel
theorem dX9_delivers_285 : decode cX9_delivers 285 = .ok (.putfield 169, 3) := by decide +kernel
theorem dX9_delivers_288 : decode cX9_delivers 288 = .ok (.aload_n 0, 1) := by decide +kernel
theorem dX9_delivers_289 : decode cX9_delivers 289 = .ok (.iload_n 1, 1) := by decide +kernel
theorem dX9_delivers_290 : decode cX9_delivers 290 = .ok (.iload_n 2, 1) := by decide +kernel
theorem dX9_delivers_291 : decode cX9_delivers 291 = .ok (.iconst 1, 1) := by decide +kernel
theorem dX9_delivers_292 : decode cX9_delivers 292 = .ok (.isub, 1) := by decide +kernel
theorem dX9_delivers_293 : decode cX9_delivers 293 = .ok (.invokevirtual 175, 3) := by decide +kernel
theorem dX9_delivers_296 : decode cX9_delivers 296 = .ok (.return_, 1) := by decide +kernel
theorem dX9_deliversUpTo_0 : decode cX9_deliversUpTo 0 = .ok (.iconst 0, 1) := by decide +kernel
theorem dX9_deliversUpTo_1 : decode cX9_deliversUpTo 1 = .ok (.istore_n 2, 1) := by decide +kernel
theorem dX9_deliversUpTo_2 : decode cX9_deliversUpTo 2 = .ok (.iload_n 2, 1) := by decide +kernel
theorem dX9_deliversUpTo_3 : decode cX9_deliversUpTo 3 = .ok (.iload_n 1, 1) := by decide +kernel
theorem dX9_deliversUpTo_4 : decode cX9_deliversUpTo 4 = .ok (.if_icmp .ge 23, 3) := by decide +kernel
theorem dX9_deliversUpTo_7 : decode cX9_deliversUpTo 7 = .ok (.aload_n 0, 1) := by decide +kernel
theorem dX9_deliversUpTo_8 : decode cX9_deliversUpTo 8 = .ok (.getfield 7, 3) := by decide +kernel
theorem dX9_deliversUpTo_11 : decode cX9_deliversUpTo 11 = .ok (.bipush 92, 2) := by decide +kernel
theorem dX9_deliversUpTo_13 : decode cX9_deliversUpTo 13 = .ok (.iaload, 1) := by decide +kernel
theorem dX9_deliversUpTo_14 : decode cX9_deliversUpTo 14 = .ok (.ifCond .le 13, 3) := by decide +kernel
theorem dX9_deliversUpTo_17 : decode cX9_deliversUpTo 17 = .ok (.aload_n 0, 1) := by decide +kernel
theorem dX9_deliversUpTo_18 : decode cX9_deliversUpTo 18 = .ok (.invokevirtual 199, 3) := by decide +kernel
theorem dX9_deliversUpTo_21 : decode cX9_deliversUpTo 21 = .ok (.iinc 2 1, 3) := by decide +kernel
theorem dX9_deliversUpTo_24 : decode cX9_deliversUpTo 24 = .ok (.goto (-22), 3) := by decide +kernel
theorem dX9_deliversUpTo_27 : decode cX9_deliversUpTo 27 = .ok (.iload_n 2, 1) := by decide +kernel
theorem dX9_deliversUpTo_28 : decode cX9_deliversUpTo 28 = .ok (.ireturn, 1) := by decide +kernel
theorem dX9_deliver_0 : decode cX9_deliver 0 = .ok (.aload_n 0, 1) := by decide +kernel
theorem dX9_deliver_1 : decode cX9_deliver 1 = .ok (.iload_n 1, 1) := by decide +kernel
theorem dX9_deliver_2 : decode cX9_deliver 2 = .ok (.iconst 1, 1) := by decide +kernel
theorem dX9_deliver_3 : decode cX9_deliver 3 = .ok (.bipush 99, 2) := by decide +kernel
theorem dX9_deliver_5 : decode cX9_deliver 5 = .ok (.invokestatic 54, 3) := by decide +kernel
theorem dX9_deliver_8 : decode cX9_deliver 8 = .ok (.ifCond .ne 7, 3) := by decide +kernel
theorem dX9_deliver_11 : decode cX9_deliver 11 = .ok (.iconst 1, 1) := by decide +kernel
theorem dX9_deliver_12 : decode cX9_deliver 12 = .ok (.goto 4, 3) := by decide +kernel
theorem dX9_deliver_15 : decode cX9_deliver 15 = .ok (.iconst 0, 1) := by decide +kernel
theorem dX9_deliver_16 : decode cX9_deliver 16 = .ok (.putfield 48, 3) := by decide +kernel
theorem dX9_deliver_19 : decode cX9_deliver 19 = .ok (.aload_n 0, 1) := by decide +kernel
theorem dX9_deliver_20 : decode cX9_deliver 20 = .ok (.getfield 48, 3) := by decide +kernel
theorem dX9_deliver_23 : decode cX9_deliver 23 = .ok (.ifCond .le 5, 3) := by decide +kernel
theorem dX9_deliver_26 : decode cX9_deliver 26 = .ok (.iconst 0, 1) := by decide +kernel
theorem dX9_deliver_27 : decode cX9_deliver 27 = .ok (.ireturn, 1) := by decide +kernel
theorem dX9_deliver_28 : decode cX9_deliver 28 = .ok (.aload_n 0, 1) := by decide +kernel
theorem dX9_deliver_29 : decode cX9_deliver 29 = .ok (.invokevirtual 66, 3) := by decide +kernel
theorem dX9_deliver_32 : decode cX9_deliver 32 = .ok (.aload_n 0, 1) := by decide +kernel
theorem dX9_deliver_33 : decode cX9_deliver 33 = .ok (.iload_n 1, 1) := by decide +kernel
theorem dX9_deliver_34 : decode cX9_deliver 34 = .ok (.invokevirtual 202, 3) := by decide +kernel
theorem dX9_deliver_37 : decode cX9_deliver 37 = .ok (.istore_n 2, 1) := by decide +kernel
theorem dX9_deliver_38 : decode cX9_deliver 38 = .ok (.aload_n 0, 1) := by decide +kernel
theorem dX9_deliver_39 : decode cX9_deliver 39 = .ok (.invokevirtual 69, 3) := by decide +kernel
theorem dX9_deliver_42 : decode cX9_deliver 42 = .ok (.iload_n 2, 1) := by decide +kernel
theorem dX9_deliver_43 : decode cX9_deliver 43 = .ok (.ireturn, 1) := by decide +kernel
theorem dX9_messages_0 : decode cX9_messages 0 = .ok (.aload_n 0, 1) := by decide +kernel
theorem dX9_messages_1 : decode cX9_messages 1 = .ok (.iconst 0, 1) := by decide +kernel
theorem dX9_messages_2 : decode cX9_messages 2 = .ok (.putfield 48, 3) := by decide +kernel
theorem dX9_messages_5 : decode cX9_messages 5 = .ok (.aload_n 0, 1) := by decide +kernel
theorem dX9_messages_6 : decode cX9_messages 6 = .ok (.getfield 7, 3) := by decide +kernel
theorem dX9_messages_9 : decode cX9_messages 9 = .ok (.bipush 92, 2) := by decide +kernel
theorem dX9_messages_11 : decode cX9_messages 11 = .ok (.iaload, 1) := by decide +kernel
theorem dX9_messages_12 : decode cX9_messages 12 = .ok (.ireturn, 1) := by decide +kernel
theorem dX9_mail_0 : decode cX9_mail 0 = .ok (.bipush 93, 2) := by decide +kernel
theorem dX9_mail_2 : decode cX9_mail 2 = .ok (.bipush 13, 2) := by decide +kernel
theorem dX9_mail_4 : decode cX9_mail 4 = .ok (.iload_n 1, 1) := by decide +kernel
theorem dX9_mail_5 : decode cX9_mail 5 = .ok (.imul, 1) := by decide +kernel
theorem dX9_mail_6 : decode cX9_mail 6 = .ok (.iadd, 1) := by decide +kernel
theorem dX9_mail_7 : decode cX9_mail 7 = .ok (.istore_n 3, 1) := by decide +kernel
theorem dX9_mail_8 : decode cX9_mail 8 = .ok (.iconst 0, 1) := by decide +kernel
theorem dX9_mail_9 : decode cX9_mail 9 = .ok (.istore 4, 2) := by decide +kernel
theorem dX9_mail_11 : decode cX9_mail 11 = .ok (.iconst 0, 1) := by decide +kernel
theorem dX9_mail_12 : decode cX9_mail 12 = .ok (.istore 5, 2) := by decide +kernel
theorem dX9_mail_14 : decode cX9_mail 14 = .ok (.iload 5, 2) := by decide +kernel
theorem dX9_mail_16 : decode cX9_mail 16 = .ok (.aload_n 0, 1) := by decide +kernel
theorem dX9_mail_17 : decode cX9_mail 17 = .ok (.getfield 7, 3) := by decide +kernel
theorem dX9_mail_20 : decode cX9_mail 20 = .ok (.iload_n 3, 1) := by decide +kernel
theorem dX9_mail_21 : decode cX9_mail 21 = .ok (.iconst 2, 1) := by decide +kernel
theorem dX9_mail_22 : decode cX9_mail 22 = .ok (.iadd, 1) := by decide +kernel
theorem dX9_mail_23 : decode cX9_mail 23 = .ok (.iaload, 1) := by decide +kernel
theorem dX9_mail_24 : decode cX9_mail 24 = .ok (.if_icmp .ge 27, 3) := by decide +kernel
theorem dX9_mail_27 : decode cX9_mail 27 = .ok (.iload 4, 2) := by decide +kernel
theorem dX9_mail_29 : decode cX9_mail 29 = .ok (.iconst 1, 1) := by decide +kernel
theorem dX9_mail_30 : decode cX9_mail 30 = .ok (.aload_n 0, 1) := by decide +kernel
theorem dX9_mail_31 : decode cX9_mail 31 = .ok (.getfield 7, 3) := by decide +kernel
theorem dX9_mail_34 : decode cX9_mail 34 = .ok (.iload_n 3, 1) := by decide +kernel
theorem dX9_mail_35 : decode cX9_mail 35 = .ok (.iconst 3, 1) := by decide +kernel
theorem dX9_mail_36 : decode cX9_mail 36 = .ok (.iadd, 1) := by decide +kernel
theorem dX9_mail_37 : decode cX9_mail 37 = .ok (.iload 5, 2) := by decide +kernel
theorem dX9_mail_39 : decode cX9_mail 39 = .ok (.iadd, 1) := by decide +kernel
theorem dX9_mail_40 : decode cX9_mail 40 = .ok (.iaload, 1) := by decide +kernel
theorem dX9_mail_41 : decode cX9_mail 41 = .ok (.ishl, 1) := by decide +kernel
theorem dX9_mail_42 : decode cX9_mail 42 = .ok (.ior, 1) := by decide +kernel
theorem dX9_mail_43 : decode cX9_mail 43 = .ok (.istore 4, 2) := by decide +kernel
theorem dX9_mail_45 : decode cX9_mail 45 = .ok (.iinc 5 1, 3) := by decide +kernel
theorem dX9_mail_48 : decode cX9_mail 48 = .ok (.goto (-34), 3) := by decide +kernel
theorem dX9_mail_51 : decode cX9_mail 51 = .ok (.iload_n 2, 1) := by decide +kernel
theorem dX9_mail_52 : decode cX9_mail 52 = .ok (.ifCond .ne 14, 3) := by decide +kernel
theorem dX9_mail_55 : decode cX9_mail 55 = .ok (.aload_n 0, 1) := by decide +kernel
theorem dX9_mail_56 : decode cX9_mail 56 = .ok (.getfield 7, 3) := by decide +kernel
theorem dX9_mail_59 : decode cX9_mail 59 = .ok (.iload_n 3, 1) := by decide +kernel
theorem dX9_mail_60 : decode cX9_mail 60 = .ok (.iconst 3, 1) := by decide +kernel
theorem dX9_mail_61 : decode cX9_mail 61 = .ok (.iadd, 1) := by decide +kernel
theorem dX9_mail_62 : decode cX9_mail 62 = .ok (.iaload, 1) := by decide +kernel
theorem dX9_mail_63 : decode cX9_mail 63 = .ok (.goto 53, 3) := by decide +kernel
theorem dX9_mail_66 : decode cX9_mail 66 = .ok (.iload_n 2, 1) := by decide +kernel
theorem dX9_mail_67 : decode cX9_mail 67 = .ok (.iconst 1, 1) := by decide +kernel
theorem dX9_mail_68 : decode cX9_mail 68 = .ok (.if_icmp .ne 14, 3) := by decide +kernel
theorem dX9_mail_71 : decode cX9_mail 71 = .ok (.aload_n 0, 1) := by decide +kernel
theorem dX9_mail_72 : decode cX9_mail 72 = .ok (.getfield 7, 3) := by decide +kernel
theorem dX9_mail_75 : decode cX9_mail 75 = .ok (.iload_n 3, 1) := by decide +kernel
theorem dX9_mail_76 : decode cX9_mail 76 = .ok (.iconst 0, 1) := by decide +kernel
theorem dX9_mail_77 : decode cX9_mail 77 = .ok (.iadd, 1) := by decide +kernel
theorem dX9_mail_78 : decode cX9_mail 78 = .ok (.iaload, 1) := by decide +kernel
theorem dX9_mail_79 : decode cX9_mail 79 = .ok (.goto 37, 3) := by decide +kernel
theorem dX9_mail_82 : decode cX9_mail 82 = .ok (.iload_n 2, 1) := by decide +kernel
theorem dX9_mail_83 : decode cX9_mail 83 = .ok (.iconst 2, 1) := by decide +kernel
theorem dX9_mail_84 : decode cX9_mail 84 = .ok (.if_icmp .ne 14, 3) := by decide +kernel
theorem dX9_mail_87 : decode cX9_mail 87 = .ok (.aload_n 0, 1) := by decide +kernel
theorem dX9_mail_88 : decode cX9_mail 88 = .ok (.getfield 7, 3) := by decide +kernel
theorem dX9_mail_91 : decode cX9_mail 91 = .ok (.iload_n 3, 1) := by decide +kernel
theorem dX9_mail_92 : decode cX9_mail 92 = .ok (.iconst 1, 1) := by decide +kernel
theorem dX9_mail_93 : decode cX9_mail 93 = .ok (.iadd, 1) := by decide +kernel
theorem dX9_mail_94 : decode cX9_mail 94 = .ok (.iaload, 1) := by decide +kernel
theorem dX9_mail_95 : decode cX9_mail 95 = .ok (.goto 21, 3) := by decide +kernel
theorem dX9_mail_98 : decode cX9_mail 98 = .ok (.iload_n 2, 1) := by decide +kernel
theorem dX9_mail_99 : decode cX9_mail 99 = .ok (.iconst 3, 1) := by decide +kernel
theorem dX9_mail_100 : decode cX9_mail 100 = .ok (.if_icmp .ne 14, 3) := by decide +kernel
theorem dX9_mail_103 : decode cX9_mail 103 = .ok (.aload_n 0, 1) := by decide +kernel
theorem dX9_mail_104 : decode cX9_mail 104 = .ok (.getfield 7, 3) := by decide +kernel
theorem dX9_mail_107 : decode cX9_mail 107 = .ok (.iload_n 3, 1) := by decide +kernel
theorem dX9_mail_108 : decode cX9_mail 108 = .ok (.iconst 2, 1) := by decide +kernel
theorem dX9_mail_109 : decode cX9_mail 109 = .ok (.iadd, 1) := by decide +kernel
theorem dX9_mail_110 : decode cX9_mail 110 = .ok (.iaload, 1) := by decide +kernel
theorem dX9_mail_111 : decode cX9_mail 111 = .ok (.goto 5, 3) := by decide +kernel
theorem dX9_mail_114 : decode cX9_mail 114 = .ok (.iload 4, 2) := by decide +kernel
theorem dX9_mail_116 : decode cX9_mail 116 = .ok (.ireturn, 1) := by decide +kernel
theorem dX9_message_0 : decode cX9_message 0 = .ok (.aload_n 0, 1) := by decide +kernel
theorem dX9_message_1 : decode cX9_message 1 = .ok (.iload_n 2, 1) := by decide +kernel
theorem dX9_message_2 : decode cX9_message 2 = .ok (.iconst 0, 1) := by decide +kernel
theorem dX9_message_3 : decode cX9_message 3 = .ok (.iconst 4, 1) := by decide +kernel
theorem dX9_message_4 : decode cX9_message 4 = .ok (.invokestatic 54, 3) := by decide +kernel
theorem dX9_message_7 : decode cX9_message 7 = .ok (.ifCond .ne 7, 3) := by decide +kernel
theorem dX9_message_10 : decode cX9_message 10 = .ok (.iconst 1, 1) := by decide +kernel
theorem dX9_message_11 : decode cX9_message 11 = .ok (.goto 4, 3) := by decide +kernel
theorem dX9_message_14 : decode cX9_message 14 = .ok (.iconst 0, 1) := by decide +kernel
theorem dX9_message_15 : decode cX9_message 15 = .ok (.putfield 48, 3) := by decide +kernel
theorem dX9_message_18 : decode cX9_message 18 = .ok (.aload_n 0, 1) := by decide +kernel
theorem dX9_message_19 : decode cX9_message 19 = .ok (.getfield 48, 3) := by decide +kernel
theorem dX9_message_22 : decode cX9_message 22 = .ok (.ifCond .le 7, 3) := by decide +kernel
theorem dX9_message_25 : decode cX9_message 25 = .ok (.iconst 0, 1) := by decide +kernel
theorem dX9_message_26 : decode cX9_message 26 = .ok (.goto 30, 3) := by decide +kernel
theorem dX9_message_29 : decode cX9_message 29 = .ok (.iload_n 1, 1) := by decide +kernel
theorem dX9_message_30 : decode cX9_message 30 = .ok (.iconst 0, 1) := by decide +kernel
theorem dX9_message_31 : decode cX9_message 31 = .ok (.aload_n 0, 1) := by decide +kernel
theorem dX9_message_32 : decode cX9_message 32 = .ok (.getfield 7, 3) := by decide +kernel
theorem dX9_message_35 : decode cX9_message 35 = .ok (.bipush 92, 2) := by decide +kernel
theorem dX9_message_37 : decode cX9_message 37 = .ok (.iaload, 1) := by decide +kernel
theorem dX9_message_38 : decode cX9_message 38 = .ok (.iconst 1, 1) := by decide +kernel
theorem dX9_message_39 : decode cX9_message 39 = .ok (.isub, 1) := by decide +kernel
theorem dX9_message_40 : decode cX9_message 40 = .ok (.invokestatic 54, 3) := by decide +kernel
theorem dX9_message_43 : decode cX9_message 43 = .ok (.ifCond .eq 12, 3) := by decide +kernel
theorem dX9_message_46 : decode cX9_message 46 = .ok (.aload_n 0, 1) := by decide +kernel
theorem dX9_message_47 : decode cX9_message 47 = .ok (.iload_n 1, 1) := by decide +kernel
theorem dX9_message_48 : decode cX9_message 48 = .ok (.iload_n 2, 1) := by decide +kernel
theorem dX9_message_49 : decode cX9_message 49 = .ok (.invokevirtual 205, 3) := by decide +kernel
theorem dX9_message_52 : decode cX9_message 52 = .ok (.goto 4, 3) := by decide +kernel
theorem dX9_message_55 : decode cX9_message 55 = .ok (.iconst (-1), 1) := by decide +kernel
theorem dX9_message_56 : decode cX9_message 56 = .ok (.ireturn, 1) := by decide +kernel
theorem dX9_told_0 : decode cX9_told 0 = .ok (.aload_n 0, 1) := by decide +kernel
theorem dX9_told_1 : decode cX9_told 1 = .ok (.iload_n 1, 1) := by decide +kernel
theorem dX9_told_2 : decode cX9_told 2 = .ok (.iconst 0, 1) := by decide +kernel
theorem dX9_told_3 : decode cX9_told 3 = .ok (.bipush 7, 2) := by decide +kernel
theorem dX9_told_5 : decode cX9_told 5 = .ok (.invokestatic 54, 3) := by decide +kernel
theorem dX9_told_8 : decode cX9_told 8 = .ok (.ifCond .ne 7, 3) := by decide +kernel
theorem dX9_told_11 : decode cX9_told 11 = .ok (.iconst 1, 1) := by decide +kernel
theorem dX9_told_12 : decode cX9_told 12 = .ok (.goto 4, 3) := by decide +kernel
theorem dX9_told_15 : decode cX9_told 15 = .ok (.iconst 0, 1) := by decide +kernel
theorem dX9_told_16 : decode cX9_told 16 = .ok (.putfield 48, 3) := by decide +kernel
theorem dX9_told_19 : decode cX9_told 19 = .ok (.aload_n 0, 1) := by decide +kernel
theorem dX9_told_20 : decode cX9_told 20 = .ok (.getfield 48, 3) := by decide +kernel
theorem dX9_told_23 : decode cX9_told 23 = .ok (.ifCond .le 7, 3) := by decide +kernel
theorem dX9_told_26 : decode cX9_told 26 = .ok (.iconst 0, 1) := by decide +kernel
theorem dX9_told_27 : decode cX9_told 27 = .ok (.goto 9, 3) := by decide +kernel
theorem dX9_told_30 : decode cX9_told 30 = .ok (.aload_n 0, 1) := by decide +kernel
theorem dX9_told_31 : decode cX9_told 31 = .ok (.getfield 16, 3) := by decide +kernel
theorem dX9_told_34 : decode cX9_told 34 = .ok (.iload_n 1, 1) := by decide +kernel
theorem dX9_told_35 : decode cX9_told 35 = .ok (.iaload, 1) := by decide +kernel
theorem dX9_told_36 : decode cX9_told 36 = .ok (.ireturn, 1) := by decide +kernel
theorem dX9_lays_0 : decode cX9_lays 0 = .ok (.iconst 0, 1) := by decide +kernel
theorem dX9_lays_1 : decode cX9_lays 1 = .ok (.istore_n 2, 1) := by decide +kernel
theorem dX9_lays_2 : decode cX9_lays 2 = .ok (.iload_n 2, 1) := by decide +kernel
theorem dX9_lays_3 : decode cX9_lays 3 = .ok (.bipush 10, 2) := by decide +kernel
theorem dX9_lays_5 : decode cX9_lays 5 = .ok (.if_icmp .ge 47, 3) := by decide +kernel
theorem dX9_lays_8 : decode cX9_lays 8 = .ok (.aload_n 0, 1) := by decide +kernel
theorem dX9_lays_9 : decode cX9_lays 9 = .ok (.getfield 39, 3) := by decide +kernel
theorem dX9_lays_12 : decode cX9_lays 12 = .ok (.iload_n 2, 1) := by decide +kernel
theorem dX9_lays_13 : decode cX9_lays 13 = .ok (.iload_n 1, 1) := by decide +kernel
theorem dX9_lays_14 : decode cX9_lays 14 = .ok (.iload_n 2, 1) := by decide +kernel
theorem dX9_lays_15 : decode cX9_lays 15 = .ok (.ishr, 1) := by decide +kernel
theorem dX9_lays_16 : decode cX9_lays 16 = .ok (.iconst 1, 1) := by decide +kernel
theorem dX9_lays_17 : decode cX9_lays 17 = .ok (.iand, 1) := by decide +kernel
theorem dX9_lays_18 : decode cX9_lays 18 = .ok (.iconst 1, 1) := by decide +kernel
theorem dX9_lays_19 : decode cX9_lays 19 = .ok (.if_icmp .ne 13, 3) := by decide +kernel
theorem dX9_lays_22 : decode cX9_lays 22 = .ok (.aload_n 0, 1) := by decide +kernel
theorem dX9_lays_23 : decode cX9_lays 23 = .ok (.iload_n 2, 1) := by decide +kernel
theorem dX9_lays_24 : decode cX9_lays 24 = .ok (.invokevirtual 96, 3) := by decide +kernel
theorem dX9_lays_27 : decode cX9_lays 27 = .ok (.iload_n 1, 1) := by decide +kernel
theorem dX9_lays_28 : decode cX9_lays 28 = .ok (.iand, 1) := by decide +kernel
theorem dX9_lays_29 : decode cX9_lays 29 = .ok (.goto 4, 3) := by decide +kernel
theorem dX9_lays_32 : decode cX9_lays 32 = .ok (.iconst 0, 1) := by decide +kernel
theorem dX9_lays_33 : decode cX9_lays 33 = .ok (.iastore, 1) := by decide +kernel
theorem dX9_lays_34 : decode cX9_lays 34 = .ok (.aload_n 0, 1) := by decide +kernel
theorem dX9_lays_35 : decode cX9_lays 35 = .ok (.getfield 42, 3) := by decide +kernel
theorem dX9_lays_38 : decode cX9_lays 38 = .ok (.iload_n 2, 1) := by decide +kernel
theorem dX9_lays_39 : decode cX9_lays 39 = .ok (.aload_n 0, 1) := by decide +kernel
theorem dX9_lays_40 : decode cX9_lays 40 = .ok (.getfield 39, 3) := by decide +kernel
theorem dX9_lays_43 : decode cX9_lays 43 = .ok (.iload_n 2, 1) := by decide +kernel
theorem dX9_lays_44 : decode cX9_lays 44 = .ok (.iaload, 1) := by decide +kernel
theorem dX9_lays_45 : decode cX9_lays 45 = .ok (.iastore, 1) := by decide +kernel
theorem dX9_lays_46 : decode cX9_lays 46 = .ok (.iinc 2 1, 3) := by decide +kernel
theorem dX9_lays_49 : decode cX9_lays 49 = .ok (.goto (-47), 3) := by decide +kernel
theorem dX9_lays_52 : decode cX9_lays 52 = .ok (.iconst 0, 1) := by decide +kernel
theorem dX9_lays_53 : decode cX9_lays 53 = .ok (.istore_n 2, 1) := by decide +kernel
theorem dX9_lays_54 : decode cX9_lays 54 = .ok (.iload_n 2, 1) := by decide +kernel
theorem dX9_lays_55 : decode cX9_lays 55 = .ok (.bipush 10, 2) := by decide +kernel
theorem dX9_lays_57 : decode cX9_lays 57 = .ok (.if_icmp .ge 56, 3) := by decide +kernel
theorem dX9_lays_60 : decode cX9_lays 60 = .ok (.iconst 0, 1) := by decide +kernel
theorem dX9_lays_61 : decode cX9_lays 61 = .ok (.istore_n 3, 1) := by decide +kernel
theorem dX9_lays_62 : decode cX9_lays 62 = .ok (.iload_n 3, 1) := by decide +kernel
theorem dX9_lays_63 : decode cX9_lays 63 = .ok (.bipush 10, 2) := by decide +kernel
theorem dX9_lays_65 : decode cX9_lays 65 = .ok (.if_icmp .ge 42, 3) := by decide +kernel
theorem dX9_lays_68 : decode cX9_lays 68 = .ok (.aload_n 0, 1) := by decide +kernel
theorem dX9_lays_69 : decode cX9_lays 69 = .ok (.getfield 42, 3) := by decide +kernel
theorem dX9_lays_72 : decode cX9_lays 72 = .ok (.iload_n 3, 1) := by decide +kernel
theorem dX9_lays_73 : decode cX9_lays 73 = .ok (.dup2, 1) := by decide +kernel
theorem dX9_lays_74 : decode cX9_lays 74 = .ok (.iaload, 1) := by decide +kernel
theorem dX9_lays_75 : decode cX9_lays 75 = .ok (.aload_n 0, 1) := by decide +kernel
theorem dX9_lays_76 : decode cX9_lays 76 = .ok (.getfield 42, 3) := by decide +kernel
theorem dX9_lays_79 : decode cX9_lays 79 = .ok (.iload_n 3, 1) := by decide +kernel
theorem dX9_lays_80 : decode cX9_lays 80 = .ok (.iaload, 1) := by decide +kernel
theorem dX9_lays_81 : decode cX9_lays 81 = .ok (.iload_n 2, 1) := by decide +kernel
theorem dX9_lays_82 : decode cX9_lays 82 = .ok (.ishr, 1) := by decide +kernel
theorem dX9_lays_83 : decode cX9_lays 83 = .ok (.iconst 1, 1) := by decide +kernel
theorem dX9_lays_84 : decode cX9_lays 84 = .ok (.iand, 1) := by decide +kernel
theorem dX9_lays_85 : decode cX9_lays 85 = .ok (.iconst 1, 1) := by decide +kernel
theorem dX9_lays_86 : decode cX9_lays 86 = .ok (.if_icmp .ne 12, 3) := by decide +kernel
theorem dX9_lays_89 : decode cX9_lays 89 = .ok (.aload_n 0, 1) := by decide +kernel
theorem dX9_lays_90 : decode cX9_lays 90 = .ok (.getfield 42, 3) := by decide +kernel
theorem dX9_lays_93 : decode cX9_lays 93 = .ok (.iload_n 2, 1) := by decide +kernel
theorem dX9_lays_94 : decode cX9_lays 94 = .ok (.iaload, 1) := by decide +kernel
theorem dX9_lays_95 : decode cX9_lays 95 = .ok (.goto 4, 3) := by decide +kernel
theorem dX9_lays_98 : decode cX9_lays 98 = .ok (.iconst 0, 1) := by decide +kernel
theorem dX9_lays_99 : decode cX9_lays 99 = .ok (.ior, 1) := by decide +kernel
theorem dX9_lays_100 : decode cX9_lays 100 = .ok (.iastore, 1) := by decide +kernel
theorem dX9_lays_101 : decode cX9_lays 101 = .ok (.iinc 3 1, 3) := by decide +kernel
theorem dX9_lays_104 : decode cX9_lays 104 = .ok (.goto (-42), 3) := by decide +kernel
theorem dX9_lays_107 : decode cX9_lays 107 = .ok (.iinc 2 1, 3) := by decide +kernel
theorem dX9_lays_110 : decode cX9_lays 110 = .ok (.goto (-56), 3) := by decide +kernel
theorem dX9_lays_113 : decode cX9_lays 113 = .ok (.return_, 1) := by decide +kernel
theorem dX9_cyclic_0 : decode cX9_cyclic 0 = .ok (.aload_n 0, 1) := by decide +kernel
theorem dX9_cyclic_1 : decode cX9_cyclic 1 = .ok (.iload_n 1, 1) := by decide +kernel
theorem dX9_cyclic_2 : decode cX9_cyclic 2 = .ok (.invokevirtual 208, 3) := by decide +kernel
theorem dX9_cyclic_5 : decode cX9_cyclic 5 = .ok (.iconst 0, 1) := by decide +kernel
theorem dX9_cyclic_6 : decode cX9_cyclic 6 = .ok (.istore_n 2, 1) := by decide +kernel
theorem dX9_cyclic_7 : decode cX9_cyclic 7 = .ok (.iconst 0, 1) := by decide +kernel
theorem dX9_cyclic_8 : decode cX9_cyclic 8 = .ok (.istore_n 3, 1) := by decide +kernel
theorem dX9_cyclic_9 : decode cX9_cyclic 9 = .ok (.iload_n 3, 1) := by decide +kernel
theorem dX9_cyclic_10 : decode cX9_cyclic 10 = .ok (.bipush 10, 2) := by decide +kernel
theorem dX9_cyclic_12 : decode cX9_cyclic 12 = .ok (.if_icmp .ge 22, 3) := by decide +kernel
theorem dX9_cyclic_15 : decode cX9_cyclic 15 = .ok (.iload_n 2, 1) := by decide +kernel
theorem dX9_cyclic_16 : decode cX9_cyclic 16 = .ok (.aload_n 0, 1) := by decide +kernel
theorem dX9_cyclic_17 : decode cX9_cyclic 17 = .ok (.getfield 42, 3) := by decide +kernel
theorem dX9_cyclic_20 : decode cX9_cyclic 20 = .ok (.iload_n 3, 1) := by decide +kernel
theorem dX9_cyclic_21 : decode cX9_cyclic 21 = .ok (.iaload, 1) := by decide +kernel
theorem dX9_cyclic_22 : decode cX9_cyclic 22 = .ok (.iconst 1, 1) := by decide +kernel
theorem dX9_cyclic_23 : decode cX9_cyclic 23 = .ok (.iload_n 3, 1) := by decide +kernel
theorem dX9_cyclic_24 : decode cX9_cyclic 24 = .ok (.ishl, 1) := by decide +kernel
theorem dX9_cyclic_25 : decode cX9_cyclic 25 = .ok (.iand, 1) := by decide +kernel
theorem dX9_cyclic_26 : decode cX9_cyclic 26 = .ok (.ior, 1) := by decide +kernel
theorem dX9_cyclic_27 : decode cX9_cyclic 27 = .ok (.istore_n 2, 1) := by decide +kernel
theorem dX9_cyclic_28 : decode cX9_cyclic 28 = .ok (.iinc 3 1, 3) := by decide +kernel
theorem dX9_cyclic_31 : decode cX9_cyclic 31 = .ok (.goto (-22), 3) := by decide +kernel
theorem dX9_cyclic_34 : decode cX9_cyclic 34 = .ok (.iload_n 2, 1) := by decide +kernel
theorem dX9_cyclic_35 : decode cX9_cyclic 35 = .ok (.ireturn, 1) := by decide +kernel
theorem dX9_stuckTasks_0 : decode cX9_stuckTasks 0 = .ok (.aload_n 0, 1) := by decide +kernel
theorem dX9_stuckTasks_1 : decode cX9_stuckTasks 1 = .ok (.sipush 1023, 3) := by decide +kernel
theorem dX9_stuckTasks_4 : decode cX9_stuckTasks 4 = .ok (.invokevirtual 196, 3) := by decide +kernel
theorem dX9_stuckTasks_7 : decode cX9_stuckTasks 7 = .ok (.istore_n 1, 1) := by decide +kernel
theorem dX9_stuckTasks_8 : decode cX9_stuckTasks 8 = .ok (.iload_n 1, 1) := by decide +kernel
theorem dX9_stuckTasks_9 : decode cX9_stuckTasks 9 = .ok (.istore_n 2, 1) := by decide +kernel
theorem dX9_stuckTasks_10 : decode cX9_stuckTasks 10 = .ok (.iconst 0, 1) := by decide +kernel
theorem dX9_stuckTasks_11 : decode cX9_stuckTasks 11 = .ok (.istore_n 3, 1) := by decide +kernel
theorem dX9_stuckTasks_12 : decode cX9_stuckTasks 12 = .ok (.iload_n 3, 1) := by decide +kernel
theorem dX9_stuckTasks_13 : decode cX9_stuckTasks 13 = .ok (.bipush 10, 2) := by decide +kernel
theorem dX9_stuckTasks_15 : decode cX9_stuckTasks 15 = .ok (.if_icmp .ge 30, 3) := by decide +kernel
theorem dX9_stuckTasks_18 : decode cX9_stuckTasks 18 = .ok (.iload_n 2, 1) := by decide +kernel
theorem dX9_stuckTasks_19 : decode cX9_stuckTasks 19 = .ok (.aload_n 0, 1) := by decide +kernel
theorem dX9_stuckTasks_20 : decode cX9_stuckTasks 20 = .ok (.getfield 42, 3) := by decide +kernel
theorem dX9_stuckTasks_23 : decode cX9_stuckTasks 23 = .ok (.iload_n 3, 1) := by decide +kernel
theorem dX9_stuckTasks_24 : decode cX9_stuckTasks 24 = .ok (.iaload, 1) := by decide +kernel
theorem dX9_stuckTasks_25 : decode cX9_stuckTasks 25 = .ok (.iload_n 1, 1) := by decide +kernel
theorem dX9_stuckTasks_26 : decode cX9_stuckTasks 26 = .ok (.iand, 1) := by decide +kernel
theorem dX9_stuckTasks_27 : decode cX9_stuckTasks 27 = .ok (.ifCond .eq 9, 3) := by decide +kernel
theorem dX9_stuckTasks_30 : decode cX9_stuckTasks 30 = .ok (.iconst 1, 1) := by decide +kernel
theorem dX9_stuckTasks_31 : decode cX9_stuckTasks 31 = .ok (.iload_n 3, 1) := by decide +kernel
theorem dX9_stuckTasks_32 : decode cX9_stuckTasks 32 = .ok (.ishl, 1) := by decide +kernel
theorem dX9_stuckTasks_33 : decode cX9_stuckTasks 33 = .ok (.goto 4, 3) := by decide +kernel
theorem dX9_stuckTasks_36 : decode cX9_stuckTasks 36 = .ok (.iconst 0, 1) := by decide +kernel
theorem dX9_stuckTasks_37 : decode cX9_stuckTasks 37 = .ok (.ior, 1) := by decide +kernel
theorem dX9_stuckTasks_38 : decode cX9_stuckTasks 38 = .ok (.istore_n 2, 1) := by decide +kernel
theorem dX9_stuckTasks_39 : decode cX9_stuckTasks 39 = .ok (.iinc 3 1, 3) := by decide +kernel
theorem dX9_stuckTasks_42 : decode cX9_stuckTasks 42 = .ok (.goto (-30), 3) := by decide +kernel
theorem dX9_stuckTasks_45 : decode cX9_stuckTasks 45 = .ok (.iload_n 2, 1) := by decide +kernel
theorem dX9_stuckTasks_46 : decode cX9_stuckTasks 46 = .ok (.ireturn, 1) := by decide +kernel
theorem dX9_onCycles_0 : decode cX9_onCycles 0 = .ok (.aload_n 0, 1) := by decide +kernel
theorem dX9_onCycles_1 : decode cX9_onCycles 1 = .ok (.iconst 0, 1) := by decide +kernel
theorem dX9_onCycles_2 : decode cX9_onCycles 2 = .ok (.putfield 48, 3) := by decide +kernel
theorem dX9_onCycles_5 : decode cX9_onCycles 5 = .ok (.aload_n 0, 1) := by decide +kernel
theorem dX9_onCycles_6 : decode cX9_onCycles 6 = .ok (.sipush 1023, 3) := by decide +kernel
theorem dX9_onCycles_9 : decode cX9_onCycles 9 = .ok (.invokevirtual 196, 3) := by decide +kernel
theorem dX9_onCycles_12 : decode cX9_onCycles 12 = .ok (.ireturn, 1) := by decide +kernel
theorem dX9_stuck_0 : decode cX9_stuck 0 = .ok (.aload_n 0, 1) := by decide +kernel
theorem dX9_stuck_1 : decode cX9_stuck 1 = .ok (.iconst 0, 1) := by decide +kernel
theorem dX9_stuck_2 : decode cX9_stuck 2 = .ok (.putfield 48, 3) := by decide +kernel
theorem dX9_stuck_5 : decode cX9_stuck 5 = .ok (.aload_n 0, 1) := by decide +kernel
theorem dX9_stuck_6 : decode cX9_stuck 6 = .ok (.invokevirtual 211, 3) := by decide +kernel
theorem dX9_stuck_9 : decode cX9_stuck 9 = .ok (.ireturn, 1) := by decide +kernel
theorem dX9_shortestCycle_0 : decode cX9_shortestCycle 0 = .ok (.aload_n 0, 1) := by decide +kernel
theorem dX9_shortestCycle_1 : decode cX9_shortestCycle 1 = .ok (.aload_n 0, 1) := by decide +kernel
theorem dX9_shortestCycle_2 : decode cX9_shortestCycle 2 = .ok (.iload_n 1, 1) := by decide +kernel
theorem dX9_shortestCycle_3 : decode cX9_shortestCycle 3 = .ok (.invokevirtual 72, 3) := by decide +kernel
theorem dX9_shortestCycle_6 : decode cX9_shortestCycle 6 = .ok (.ifCond .ne 7, 3) := by decide +kernel
theorem dX9_shortestCycle_9 : decode cX9_shortestCycle 9 = .ok (.iconst 1, 1) := by decide +kernel
theorem dX9_shortestCycle_10 : decode cX9_shortestCycle 10 = .ok (.goto 4, 3) := by decide +kernel
theorem dX9_shortestCycle_13 : decode cX9_shortestCycle 13 = .ok (.iconst 0, 1) := by decide +kernel
theorem dX9_shortestCycle_14 : decode cX9_shortestCycle 14 = .ok (.putfield 48, 3) := by decide +kernel
theorem dX9_shortestCycle_17 : decode cX9_shortestCycle 17 = .ok (.aload_n 0, 1) := by decide +kernel
theorem dX9_shortestCycle_18 : decode cX9_shortestCycle 18 = .ok (.getfield 48, 3) := by decide +kernel
theorem dX9_shortestCycle_21 : decode cX9_shortestCycle 21 = .ok (.ifCond .le 5, 3) := by decide +kernel
theorem dX9_shortestCycle_24 : decode cX9_shortestCycle 24 = .ok (.iconst 0, 1) := by decide +kernel
theorem dX9_shortestCycle_25 : decode cX9_shortestCycle 25 = .ok (.ireturn, 1) := by decide +kernel
theorem dX9_shortestCycle_26 : decode cX9_shortestCycle 26 = .ok (.aload_n 0, 1) := by decide +kernel
theorem dX9_shortestCycle_27 : decode cX9_shortestCycle 27 = .ok (.sipush 1023, 3) := by decide +kernel
theorem dX9_shortestCycle_30 : decode cX9_shortestCycle 30 = .ok (.invokevirtual 208, 3) := by decide +kernel
theorem dX9_shortestCycle_33 : decode cX9_shortestCycle 33 = .ok (.aload_n 0, 1) := by decide +kernel
theorem dX9_shortestCycle_34 : decode cX9_shortestCycle 34 = .ok (.getfield 39, 3) := by decide +kernel
theorem dX9_shortestCycle_37 : decode cX9_shortestCycle 37 = .ok (.iload_n 1, 1) := by decide +kernel
theorem dX9_shortestCycle_38 : decode cX9_shortestCycle 38 = .ok (.iaload, 1) := by decide +kernel
theorem dX9_shortestCycle_39 : decode cX9_shortestCycle 39 = .ok (.istore_n 2, 1) := by decide +kernel
theorem dX9_shortestCycle_40 : decode cX9_shortestCycle 40 = .ok (.iconst 1, 1) := by decide +kernel
theorem dX9_shortestCycle_41 : decode cX9_shortestCycle 41 = .ok (.istore_n 3, 1) := by decide +kernel
theorem dX9_shortestCycle_42 : decode cX9_shortestCycle 42 = .ok (.iload_n 3, 1) := by decide +kernel
theorem dX9_shortestCycle_43 : decode cX9_shortestCycle 43 = .ok (.bipush 10, 2) := by decide +kernel
theorem dX9_shortestCycle_45 : decode cX9_shortestCycle 45 = .ok (.if_icmp .gt 68, 3) := by decide +kernel
theorem dX9_shortestCycle_48 : decode cX9_shortestCycle 48 = .ok (.iload_n 2, 1) := by decide +kernel
theorem dX9_shortestCycle_49 : decode cX9_shortestCycle 49 = .ok (.iload_n 1, 1) := by decide +kernel
theorem dX9_shortestCycle_50 : decode cX9_shortestCycle 50 = .ok (.ishr, 1) := by decide +kernel
theorem dX9_shortestCycle_51 : decode cX9_shortestCycle 51 = .ok (.iconst 1, 1) := by decide +kernel
theorem dX9_shortestCycle_52 : decode cX9_shortestCycle 52 = .ok (.iand, 1) := by decide +kernel
theorem dX9_shortestCycle_53 : decode cX9_shortestCycle 53 = .ok (.iconst 1, 1) := by decide +kernel
theorem dX9_shortestCycle_54 : decode cX9_shortestCycle 54 = .ok (.if_icmp .ne 5, 3) := by decide +kernel
theorem dX9_shortestCycle_57 : decode cX9_shortestCycle 57 = .ok (.iload_n 3, 1) := by decide +kernel
theorem dX9_shortestCycle_58 : decode cX9_shortestCycle 58 = .ok (.ireturn, 1) := by decide +kernel
theorem dX9_shortestCycle_59 : decode cX9_shortestCycle 59 = .ok (.iload_n 2, 1) := by decide +kernel
theorem dX9_shortestCycle_60 : decode cX9_shortestCycle 60 = .ok (.istore 4, 2) := by decide +kernel
theorem dX9_shortestCycle_62 : decode cX9_shortestCycle 62 = .ok (.iconst 0, 1) := by decide +kernel
theorem dX9_shortestCycle_63 : decode cX9_shortestCycle 63 = .ok (.istore 5, 2) := by decide +kernel
theorem dX9_shortestCycle_65 : decode cX9_shortestCycle 65 = .ok (.iload 5, 2) := by decide +kernel
theorem dX9_shortestCycle_67 : decode cX9_shortestCycle 67 = .ok (.bipush 10, 2) := by decide +kernel
theorem dX9_shortestCycle_69 : decode cX9_shortestCycle 69 = .ok (.if_icmp .ge 35, 3) := by decide +kernel
theorem dX9_shortestCycle_72 : decode cX9_shortestCycle 72 = .ok (.iload 4, 2) := by decide +kernel
theorem dX9_shortestCycle_74 : decode cX9_shortestCycle 74 = .ok (.iload_n 2, 1) := by decide +kernel
theorem dX9_shortestCycle_75 : decode cX9_shortestCycle 75 = .ok (.iload 5, 2) := by decide +kernel
theorem dX9_shortestCycle_77 : decode cX9_shortestCycle 77 = .ok (.ishr, 1) := by decide +kernel
theorem dX9_shortestCycle_78 : decode cX9_shortestCycle 78 = .ok (.iconst 1, 1) := by decide +kernel
theorem dX9_shortestCycle_79 : decode cX9_shortestCycle 79 = .ok (.iand, 1) := by decide +kernel
theorem dX9_shortestCycle_80 : decode cX9_shortestCycle 80 = .ok (.iconst 1, 1) := by decide +kernel
theorem dX9_shortestCycle_81 : decode cX9_shortestCycle 81 = .ok (.if_icmp .ne 13, 3) := by decide +kernel
theorem dX9_shortestCycle_84 : decode cX9_shortestCycle 84 = .ok (.aload_n 0, 1) := by decide +kernel
theorem dX9_shortestCycle_85 : decode cX9_shortestCycle 85 = .ok (.getfield 39, 3) := by decide +kernel
theorem dX9_shortestCycle_88 : decode cX9_shortestCycle 88 = .ok (.iload 5, 2) := by decide +kernel
theorem dX9_shortestCycle_90 : decode cX9_shortestCycle 90 = .ok (.iaload, 1) := by decide +kernel
theorem dX9_shortestCycle_91 : decode cX9_shortestCycle 91 = .ok (.goto 4, 3) := by decide +kernel
theorem dX9_shortestCycle_94 : decode cX9_shortestCycle 94 = .ok (.iconst 0, 1) := by decide +kernel
theorem dX9_shortestCycle_95 : decode cX9_shortestCycle 95 = .ok (.ior, 1) := by decide +kernel
theorem dX9_shortestCycle_96 : decode cX9_shortestCycle 96 = .ok (.istore 4, 2) := by decide +kernel
theorem dX9_shortestCycle_98 : decode cX9_shortestCycle 98 = .ok (.iinc 5 1, 3) := by decide +kernel
theorem dX9_shortestCycle_101 : decode cX9_shortestCycle 101 = .ok (.goto (-36), 3) := by decide +kernel
theorem dX9_shortestCycle_104 : decode cX9_shortestCycle 104 = .ok (.iload 4, 2) := by decide +kernel
theorem dX9_shortestCycle_106 : decode cX9_shortestCycle 106 = .ok (.istore_n 2, 1) := by decide +kernel
theorem dX9_shortestCycle_107 : decode cX9_shortestCycle 107 = .ok (.iinc 3 1, 3) := by decide +kernel
theorem dX9_shortestCycle_110 : decode cX9_shortestCycle 110 = .ok (.goto (-68), 3) := by decide +kernel
theorem dX9_shortestCycle_113 : decode cX9_shortestCycle 113 = .ok (.iconst (-1), 1) := by decide +kernel
theorem dX9_shortestCycle_114 : decode cX9_shortestCycle 114 = .ok (.ireturn, 1) := by decide +kernel
theorem dX9_cycles_0 : decode cX9_cycles 0 = .ok (.aload_n 0, 1) := by decide +kernel
theorem dX9_cycles_1 : decode cX9_cycles 1 = .ok (.iconst 0, 1) := by decide +kernel
theorem dX9_cycles_2 : decode cX9_cycles 2 = .ok (.putfield 48, 3) := by decide +kernel
theorem dX9_cycles_5 : decode cX9_cycles 5 = .ok (.aload_n 0, 1) := by decide +kernel
theorem dX9_cycles_6 : decode cX9_cycles 6 = .ok (.sipush 1023, 3) := by decide +kernel
theorem dX9_cycles_9 : decode cX9_cycles 9 = .ok (.invokevirtual 208, 3) := by decide +kernel
theorem dX9_cycles_12 : decode cX9_cycles 12 = .ok (.iconst 0, 1) := by decide +kernel
theorem dX9_cycles_13 : decode cX9_cycles 13 = .ok (.istore_n 1, 1) := by decide +kernel
theorem dX9_cycles_14 : decode cX9_cycles 14 = .ok (.iconst 1, 1) := by decide +kernel
theorem dX9_cycles_15 : decode cX9_cycles 15 = .ok (.istore_n 2, 1) := by decide +kernel
theorem dX9_cycles_16 : decode cX9_cycles 16 = .ok (.iload_n 2, 1) := by decide +kernel
theorem dX9_cycles_17 : decode cX9_cycles 17 = .ok (.sipush 1024, 3) := by decide +kernel
theorem dX9_cycles_20 : decode cX9_cycles 20 = .ok (.if_icmp .ge 202, 3) := by decide +kernel
theorem dX9_cycles_23 : decode cX9_cycles 23 = .ok (.iconst 0, 1) := by decide +kernel
theorem dX9_cycles_24 : decode cX9_cycles 24 = .ok (.istore_n 3, 1) := by decide +kernel
theorem dX9_cycles_25 : decode cX9_cycles 25 = .ok (.iload_n 2, 1) := by decide +kernel
theorem dX9_cycles_26 : decode cX9_cycles 26 = .ok (.iload_n 3, 1) := by decide +kernel
theorem dX9_cycles_27 : decode cX9_cycles 27 = .ok (.ishr, 1) := by decide +kernel
theorem dX9_cycles_28 : decode cX9_cycles 28 = .ok (.iconst 1, 1) := by decide +kernel
theorem dX9_cycles_29 : decode cX9_cycles 29 = .ok (.iand, 1) := by decide +kernel
theorem dX9_cycles_30 : decode cX9_cycles 30 = .ok (.ifCond .ne 9, 3) := by decide +kernel
theorem dX9_cycles_33 : decode cX9_cycles 33 = .ok (.iinc 3 1, 3) := by decide +kernel
theorem dX9_cycles_36 : decode cX9_cycles 36 = .ok (.goto (-11), 3) := by decide +kernel
theorem dX9_cycles_39 : decode cX9_cycles 39 = .ok (.iload_n 3, 1) := by decide +kernel
theorem dX9_cycles_40 : decode cX9_cycles 40 = .ok (.istore 4, 2) := by decide +kernel
theorem dX9_cycles_42 : decode cX9_cycles 42 = .ok (.iload 4, 2) := by decide +kernel
theorem dX9_cycles_44 : decode cX9_cycles 44 = .ok (.bipush 10, 2) := by decide +kernel
theorem dX9_cycles_46 : decode cX9_cycles 46 = .ok (.if_icmp .ge 170, 3) := by decide +kernel
theorem dX9_cycles_49 : decode cX9_cycles 49 = .ok (.iload_n 2, 1) := by decide +kernel
theorem dX9_cycles_50 : decode cX9_cycles 50 = .ok (.iconst 1, 1) := by decide +kernel
theorem dX9_cycles_51 : decode cX9_cycles 51 = .ok (.iload_n 3, 1) := by decide +kernel
theorem dX9_cycles_52 : decode cX9_cycles 52 = .ok (.ishl, 1) := by decide +kernel
theorem dX9_cycles_53 : decode cX9_cycles 53 = .ok (.if_icmp .ne 13, 3) := by decide +kernel
theorem dX9_cycles_56 : decode cX9_cycles 56 = .ok (.iload 4, 2) := by decide +kernel
theorem dX9_cycles_58 : decode cX9_cycles 58 = .ok (.iload_n 3, 1) := by decide +kernel
theorem dX9_cycles_59 : decode cX9_cycles 59 = .ok (.if_icmp .ne 7, 3) := by decide +kernel
theorem dX9_cycles_62 : decode cX9_cycles 62 = .ok (.iconst 1, 1) := by decide +kernel
theorem dX9_cycles_63 : decode cX9_cycles 63 = .ok (.goto 4, 3) := by decide +kernel
theorem dX9_cycles_66 : decode cX9_cycles 66 = .ok (.iconst 0, 1) := by decide +kernel
theorem dX9_cycles_67 : decode cX9_cycles 67 = .ok (.istore 5, 2) := by decide +kernel
theorem dX9_cycles_69 : decode cX9_cycles 69 = .ok (.iload 5, 2) := by decide +kernel
theorem dX9_cycles_71 : decode cX9_cycles 71 = .ok (.ifCond .eq 7, 3) := by decide +kernel
theorem dX9_cycles_74 : decode cX9_cycles 74 = .ok (.iconst 1, 1) := by decide +kernel
theorem dX9_cycles_75 : decode cX9_cycles 75 = .ok (.goto 4, 3) := by decide +kernel
theorem dX9_cycles_78 : decode cX9_cycles 78 = .ok (.iconst 0, 1) := by decide +kernel
theorem dX9_cycles_79 : decode cX9_cycles 79 = .ok (.istore 6, 2) := by decide +kernel
theorem dX9_cycles_81 : decode cX9_cycles 81 = .ok (.iload_n 2, 1) := by decide +kernel
theorem dX9_cycles_82 : decode cX9_cycles 82 = .ok (.iconst 1, 1) := by decide +kernel
theorem dX9_cycles_83 : decode cX9_cycles 83 = .ok (.iload 4, 2) := by decide +kernel
theorem dX9_cycles_85 : decode cX9_cycles 85 = .ok (.ishl, 1) := by decide +kernel
theorem dX9_cycles_86 : decode cX9_cycles 86 = .ok (.iconst (-1), 1) := by decide +kernel
theorem dX9_cycles_87 : decode cX9_cycles 87 = .ok (.ixor, 1) := by decide +kernel
theorem dX9_cycles_88 : decode cX9_cycles 88 = .ok (.iand, 1) := by decide +kernel
theorem dX9_cycles_89 : decode cX9_cycles 89 = .ok (.istore 7, 2) := by decide +kernel
theorem dX9_cycles_91 : decode cX9_cycles 91 = .ok (.iload_n 3, 1) := by decide +kernel
theorem dX9_cycles_92 : decode cX9_cycles 92 = .ok (.istore 8, 2) := by decide +kernel
theorem dX9_cycles_94 : decode cX9_cycles 94 = .ok (.iload 8, 2) := by decide +kernel
theorem dX9_cycles_96 : decode cX9_cycles 96 = .ok (.bipush 10, 2) := by decide +kernel
theorem dX9_cycles_98 : decode cX9_cycles 98 = .ok (.if_icmp .ge 74, 3) := by decide +kernel
theorem dX9_cycles_101 : decode cX9_cycles 101 = .ok (.iload 4, 2) := by decide +kernel
theorem dX9_cycles_103 : decode cX9_cycles 103 = .ok (.iload_n 3, 1) := by decide +kernel
theorem dX9_cycles_104 : decode cX9_cycles 104 = .ok (.if_icmp .le 68, 3) := by decide +kernel
theorem dX9_cycles_107 : decode cX9_cycles 107 = .ok (.iload_n 2, 1) := by decide +kernel
theorem dX9_cycles_108 : decode cX9_cycles 108 = .ok (.iload 4, 2) := by decide +kernel
theorem dX9_cycles_110 : decode cX9_cycles 110 = .ok (.ishr, 1) := by decide +kernel
theorem dX9_cycles_111 : decode cX9_cycles 111 = .ok (.iconst 1, 1) := by decide +kernel
theorem dX9_cycles_112 : decode cX9_cycles 112 = .ok (.iand, 1) := by decide +kernel
theorem dX9_cycles_113 : decode cX9_cycles 113 = .ok (.iconst 1, 1) := by decide +kernel
theorem dX9_cycles_114 : decode cX9_cycles 114 = .ok (.if_icmp .ne 58, 3) := by decide +kernel
theorem dX9_cycles_117 : decode cX9_cycles 117 = .ok (.iload 6, 2) := by decide +kernel
theorem dX9_cycles_119 : decode cX9_cycles 119 = .ok (.iload 7, 2) := by decide +kernel
theorem dX9_cycles_121 : decode cX9_cycles 121 = .ok (.iload 8, 2) := by decide +kernel
theorem dX9_cycles_123 : decode cX9_cycles 123 = .ok (.ishr, 1) := by decide +kernel
theorem dX9_cycles_124 : decode cX9_cycles 124 = .ok (.iconst 1, 1) := by decide +kernel
theorem dX9_cycles_125 : decode cX9_cycles 125 = .ok (.iand, 1) := by decide +kernel
theorem dX9_cycles_126 : decode cX9_cycles 126 = .ok (.iconst 1, 1) := by decide +kernel
theorem dX9_cycles_127 : decode cX9_cycles 127 = .ok (.if_icmp .ne 35, 3) := by decide +kernel
theorem dX9_cycles_130 : decode cX9_cycles 130 = .ok (.aload_n 0, 1) := by decide +kernel
theorem dX9_cycles_131 : decode cX9_cycles 131 = .ok (.getfield 39, 3) := by decide +kernel
theorem dX9_cycles_134 : decode cX9_cycles 134 = .ok (.iload 8, 2) := by decide +kernel
theorem dX9_cycles_136 : decode cX9_cycles 136 = .ok (.iaload, 1) := by decide +kernel
theorem dX9_cycles_137 : decode cX9_cycles 137 = .ok (.iload 4, 2) := by decide +kernel
theorem dX9_cycles_139 : decode cX9_cycles 139 = .ok (.ishr, 1) := by decide +kernel
theorem dX9_cycles_140 : decode cX9_cycles 140 = .ok (.iconst 1, 1) := by decide +kernel
theorem dX9_cycles_141 : decode cX9_cycles 141 = .ok (.iand, 1) := by decide +kernel
theorem dX9_cycles_142 : decode cX9_cycles 142 = .ok (.iconst 1, 1) := by decide +kernel
theorem dX9_cycles_143 : decode cX9_cycles 143 = .ok (.if_icmp .ne 19, 3) := by decide +kernel
theorem dX9_cycles_146 : decode cX9_cycles 146 = .ok (.aload_n 0, 1) := by decide +kernel
theorem dX9_cycles_147 : decode cX9_cycles 147 = .ok (.getfield 45, 3) := by decide +kernel
theorem dX9_cycles_150 : decode cX9_cycles 150 = .ok (.bipush 10, 2) := by decide +kernel
theorem dX9_cycles_152 : decode cX9_cycles 152 = .ok (.iload 7, 2) := by decide +kernel
theorem dX9_cycles_154 : decode cX9_cycles 154 = .ok (.imul, 1) := by decide +kernel
theorem dX9_cycles_155 : decode cX9_cycles 155 = .ok (.iload 8, 2) := by decide +kernel
theorem dX9_cycles_157 : decode cX9_cycles 157 = .ok (.iadd, 1) := by decide +kernel
theorem dX9_cycles_158 : decode cX9_cycles 158 = .ok (.iaload, 1) := by decide +kernel
theorem dX9_cycles_159 : decode cX9_cycles 159 = .ok (.goto 4, 3) := by decide +kernel
theorem dX9_cycles_162 : decode cX9_cycles 162 = .ok (.iconst 0, 1) := by decide +kernel
theorem dX9_cycles_163 : decode cX9_cycles 163 = .ok (.iadd, 1) := by decide +kernel
theorem dX9_cycles_164 : decode cX9_cycles 164 = .ok (.istore 6, 2) := by decide +kernel
theorem dX9_cycles_166 : decode cX9_cycles 166 = .ok (.iinc 8 1, 3) := by decide +kernel
theorem dX9_cycles_169 : decode cX9_cycles 169 = .ok (.goto (-75), 3) := by decide +kernel
theorem dX9_cycles_172 : decode cX9_cycles 172 = .ok (.aload_n 0, 1) := by decide +kernel
theorem dX9_cycles_173 : decode cX9_cycles 173 = .ok (.getfield 45, 3) := by decide +kernel
theorem dX9_cycles_176 : decode cX9_cycles 176 = .ok (.bipush 10, 2) := by decide +kernel
theorem dX9_cycles_178 : decode cX9_cycles 178 = .ok (.iload_n 2, 1) := by decide +kernel
theorem dX9_cycles_179 : decode cX9_cycles 179 = .ok (.imul, 1) := by decide +kernel
theorem dX9_cycles_180 : decode cX9_cycles 180 = .ok (.iload 4, 2) := by decide +kernel
theorem dX9_cycles_182 : decode cX9_cycles 182 = .ok (.iadd, 1) := by decide +kernel
theorem dX9_cycles_183 : decode cX9_cycles 183 = .ok (.iload 6, 2) := by decide +kernel
theorem dX9_cycles_185 : decode cX9_cycles 185 = .ok (.iastore, 1) := by decide +kernel
theorem dX9_cycles_186 : decode cX9_cycles 186 = .ok (.iload_n 1, 1) := by decide +kernel
theorem dX9_cycles_187 : decode cX9_cycles 187 = .ok (.aload_n 0, 1) := by decide +kernel
theorem dX9_cycles_188 : decode cX9_cycles 188 = .ok (.getfield 39, 3) := by decide +kernel
theorem dX9_cycles_191 : decode cX9_cycles 191 = .ok (.iload 4, 2) := by decide +kernel
theorem dX9_cycles_193 : decode cX9_cycles 193 = .ok (.iaload, 1) := by decide +kernel
theorem dX9_cycles_194 : decode cX9_cycles 194 = .ok (.iload_n 3, 1) := by decide +kernel
theorem dX9_cycles_195 : decode cX9_cycles 195 = .ok (.ishr, 1) := by decide +kernel
theorem dX9_cycles_196 : decode cX9_cycles 196 = .ok (.iconst 1, 1) := by decide +kernel
theorem dX9_cycles_197 : decode cX9_cycles 197 = .ok (.iand, 1) := by decide +kernel
theorem dX9_cycles_198 : decode cX9_cycles 198 = .ok (.iconst 1, 1) := by decide +kernel
theorem dX9_cycles_199 : decode cX9_cycles 199 = .ok (.if_icmp .ne 8, 3) := by decide +kernel
theorem dX9_cycles_202 : decode cX9_cycles 202 = .ok (.iload 6, 2) := by decide +kernel
theorem dX9_cycles_204 : decode cX9_cycles 204 = .ok (.goto 4, 3) := by decide +kernel
theorem dX9_cycles_207 : decode cX9_cycles 207 = .ok (.iconst 0, 1) := by decide +kernel
theorem dX9_cycles_208 : decode cX9_cycles 208 = .ok (.iadd, 1) := by decide +kernel
theorem dX9_cycles_209 : decode cX9_cycles 209 = .ok (.istore_n 1, 1) := by decide +kernel
theorem dX9_cycles_210 : decode cX9_cycles 210 = .ok (.iinc 4 1, 3) := by decide +kernel
theorem dX9_cycles_213 : decode cX9_cycles 213 = .ok (.goto (-171), 3) := by decide +kernel
theorem dX9_cycles_216 : decode cX9_cycles 216 = .ok (.iinc 2 1, 3) := by decide +kernel
theorem dX9_cycles_219 : decode cX9_cycles 219 = .ok (.goto (-203), 3) := by decide +kernel
theorem dX9_cycles_222 : decode cX9_cycles 222 = .ok (.iload_n 1, 1) := by decide +kernel
theorem dX9_cycles_223 : decode cX9_cycles 223 = .ok (.ireturn, 1) := by decide +kernel
theorem dX9_latest_0 : decode cX9_latest 0 = .ok (.aload_n 0, 1) := by decide +kernel
theorem dX9_latest_1 : decode cX9_latest 1 = .ok (.iload_n 1, 1) := by decide +kernel
theorem dX9_latest_2 : decode cX9_latest 2 = .ok (.iconst 0, 1) := by decide +kernel
theorem dX9_latest_3 : decode cX9_latest 3 = .ok (.iconst 2, 1) := by decide +kernel
theorem dX9_latest_4 : decode cX9_latest 4 = .ok (.invokestatic 54, 3) := by decide +kernel
theorem dX9_latest_7 : decode cX9_latest 7 = .ok (.ifCond .ne 7, 3) := by decide +kernel
theorem dX9_latest_10 : decode cX9_latest 10 = .ok (.iconst 1, 1) := by decide +kernel
theorem dX9_latest_11 : decode cX9_latest 11 = .ok (.goto 4, 3) := by decide +kernel
theorem dX9_latest_14 : decode cX9_latest 14 = .ok (.iconst 0, 1) := by decide +kernel
theorem dX9_latest_15 : decode cX9_latest 15 = .ok (.putfield 48, 3) := by decide +kernel
theorem dX9_latest_18 : decode cX9_latest 18 = .ok (.aload_n 0, 1) := by decide +kernel
theorem dX9_latest_19 : decode cX9_latest 19 = .ok (.getfield 48, 3) := by decide +kernel
theorem dX9_latest_22 : decode cX9_latest 22 = .ok (.ifCond .le 7, 3) := by decide +kernel
theorem dX9_latest_25 : decode cX9_latest 25 = .ok (.iconst 0, 1) := by decide +kernel
theorem dX9_latest_26 : decode cX9_latest 26 = .ok (.goto 30, 3) := by decide +kernel
theorem dX9_latest_29 : decode cX9_latest 29 = .ok (.iload_n 1, 1) := by decide +kernel
theorem dX9_latest_30 : decode cX9_latest 30 = .ok (.ifCond .ne 10, 3) := by decide +kernel
theorem dX9_latest_33 : decode cX9_latest 33 = .ok (.aload_n 0, 1) := by decide +kernel
theorem dX9_latest_34 : decode cX9_latest 34 = .ok (.getfield 23, 3) := by decide +kernel
theorem dX9_latest_37 : decode cX9_latest 37 = .ok (.goto 19, 3) := by decide +kernel
theorem dX9_latest_40 : decode cX9_latest 40 = .ok (.iload_n 1, 1) := by decide +kernel
theorem dX9_latest_41 : decode cX9_latest 41 = .ok (.iconst 1, 1) := by decide +kernel
theorem dX9_latest_42 : decode cX9_latest 42 = .ok (.if_icmp .ne 10, 3) := by decide +kernel
theorem dX9_latest_45 : decode cX9_latest 45 = .ok (.aload_n 0, 1) := by decide +kernel
theorem dX9_latest_46 : decode cX9_latest 46 = .ok (.getfield 27, 3) := by decide +kernel
theorem dX9_latest_49 : decode cX9_latest 49 = .ok (.goto 7, 3) := by decide +kernel
theorem dX9_latest_52 : decode cX9_latest 52 = .ok (.aload_n 0, 1) := by decide +kernel
theorem dX9_latest_53 : decode cX9_latest 53 = .ok (.getfield 30, 3) := by decide +kernel
theorem dX9_latest_56 : decode cX9_latest 56 = .ok (.ireturn, 1) := by decide +kernel
theorem dX9_costOf_0 : decode cX9_costOf 0 = .ok (.iconst 0, 1) := by decide +kernel
theorem dX9_costOf_1 : decode cX9_costOf 1 = .ok (.istore_n 2, 1) := by decide +kernel
theorem dX9_costOf_2 : decode cX9_costOf 2 = .ok (.iconst 0, 1) := by decide +kernel
theorem dX9_costOf_3 : decode cX9_costOf 3 = .ok (.istore_n 3, 1) := by decide +kernel
theorem dX9_costOf_4 : decode cX9_costOf 4 = .ok (.iload_n 3, 1) := by decide +kernel
theorem dX9_costOf_5 : decode cX9_costOf 5 = .ok (.bipush 10, 2) := by decide +kernel
theorem dX9_costOf_7 : decode cX9_costOf 7 = .ok (.if_icmp .ge 31, 3) := by decide +kernel
theorem dX9_costOf_10 : decode cX9_costOf 10 = .ok (.iload_n 2, 1) := by decide +kernel
theorem dX9_costOf_11 : decode cX9_costOf 11 = .ok (.iload_n 1, 1) := by decide +kernel
theorem dX9_costOf_12 : decode cX9_costOf 12 = .ok (.iload_n 3, 1) := by decide +kernel
theorem dX9_costOf_13 : decode cX9_costOf 13 = .ok (.ishr, 1) := by decide +kernel
theorem dX9_costOf_14 : decode cX9_costOf 14 = .ok (.iconst 1, 1) := by decide +kernel
theorem dX9_costOf_15 : decode cX9_costOf 15 = .ok (.iand, 1) := by decide +kernel
theorem dX9_costOf_16 : decode cX9_costOf 16 = .ok (.iconst 1, 1) := by decide +kernel
theorem dX9_costOf_17 : decode cX9_costOf 17 = .ok (.if_icmp .ne 12, 3) := by decide +kernel
theorem dX9_costOf_20 : decode cX9_costOf 20 = .ok (.aload_n 0, 1) := by decide +kernel
theorem dX9_costOf_21 : decode cX9_costOf 21 = .ok (.iload_n 3, 1) := by decide +kernel
theorem dX9_costOf_22 : decode cX9_costOf 22 = .ok (.iconst 1, 1) := by decide +kernel
theorem dX9_costOf_23 : decode cX9_costOf 23 = .ok (.invokevirtual 75, 3) := by decide +kernel
theorem dX9_costOf_26 : decode cX9_costOf 26 = .ok (.goto 4, 3) := by decide +kernel
theorem dX9_costOf_29 : decode cX9_costOf 29 = .ok (.iconst 0, 1) := by decide +kernel
theorem dX9_costOf_30 : decode cX9_costOf 30 = .ok (.iadd, 1) := by decide +kernel
theorem dX9_costOf_31 : decode cX9_costOf 31 = .ok (.istore_n 2, 1) := by decide +kernel
theorem dX9_costOf_32 : decode cX9_costOf 32 = .ok (.iinc 3 1, 3) := by decide +kernel
theorem dX9_costOf_35 : decode cX9_costOf 35 = .ok (.goto (-31), 3) := by decide +kernel
theorem dX9_costOf_38 : decode cX9_costOf 38 = .ok (.iload_n 2, 1) := by decide +kernel
theorem dX9_costOf_39 : decode cX9_costOf 39 = .ok (.ireturn, 1) := by decide +kernel
theorem dX9_bestVictims_0 : decode cX9_bestVictims 0 = .ok (.aload_n 0, 1) := by decide +kernel
theorem dX9_bestVictims_1 : decode cX9_bestVictims 1 = .ok (.iconst 0, 1) := by decide +kernel
theorem dX9_bestVictims_2 : decode cX9_bestVictims 2 = .ok (.putfield 48, 3) := by decide +kernel
theorem dX9_bestVictims_5 : decode cX9_bestVictims 5 = .ok (.aload_n 0, 1) := by decide +kernel
theorem dX9_bestVictims_6 : decode cX9_bestVictims 6 = .ok (.invokevirtual 158, 3) := by decide +kernel
theorem dX9_bestVictims_9 : decode cX9_bestVictims 9 = .ok (.istore_n 1, 1) := by decide +kernel
theorem dX9_bestVictims_10 : decode cX9_bestVictims 10 = .ok (.iconst (-1), 1) := by decide +kernel
theorem dX9_bestVictims_11 : decode cX9_bestVictims 11 = .ok (.istore_n 2, 1) := by decide +kernel
theorem dX9_bestVictims_12 : decode cX9_bestVictims 12 = .ok (.iconst 0, 1) := by decide +kernel
theorem dX9_bestVictims_13 : decode cX9_bestVictims 13 = .ok (.istore_n 3, 1) := by decide +kernel
theorem dX9_bestVictims_14 : decode cX9_bestVictims 14 = .ok (.iload_n 3, 1) := by decide +kernel
theorem dX9_bestVictims_15 : decode cX9_bestVictims 15 = .ok (.sipush 1024, 3) := by decide +kernel
theorem dX9_bestVictims_18 : decode cX9_bestVictims 18 = .ok (.if_icmp .ge 90, 3) := by decide +kernel
theorem dX9_bestVictims_21 : decode cX9_bestVictims 21 = .ok (.iload_n 3, 1) := by decide +kernel
theorem dX9_bestVictims_22 : decode cX9_bestVictims 22 = .ok (.iload_n 1, 1) := by decide +kernel
theorem dX9_bestVictims_23 : decode cX9_bestVictims 23 = .ok (.iconst (-1), 1) := by decide +kernel
theorem dX9_bestVictims_24 : decode cX9_bestVictims 24 = .ok (.ixor, 1) := by decide +kernel
theorem dX9_bestVictims_25 : decode cX9_bestVictims 25 = .ok (.iand, 1) := by decide +kernel
theorem dX9_bestVictims_26 : decode cX9_bestVictims 26 = .ok (.ifCond .ne 76, 3) := by decide +kernel
theorem dX9_bestVictims_29 : decode cX9_bestVictims 29 = .ok (.aload_n 0, 1) := by decide +kernel
theorem dX9_bestVictims_30 : decode cX9_bestVictims 30 = .ok (.iload_n 1, 1) := by decide +kernel
theorem dX9_bestVictims_31 : decode cX9_bestVictims 31 = .ok (.iload_n 3, 1) := by decide +kernel
theorem dX9_bestVictims_32 : decode cX9_bestVictims 32 = .ok (.iconst (-1), 1) := by decide +kernel
theorem dX9_bestVictims_33 : decode cX9_bestVictims 33 = .ok (.ixor, 1) := by decide +kernel
theorem dX9_bestVictims_34 : decode cX9_bestVictims 34 = .ok (.iand, 1) := by decide +kernel
theorem dX9_bestVictims_35 : decode cX9_bestVictims 35 = .ok (.invokevirtual 196, 3) := by decide +kernel
theorem dX9_bestVictims_38 : decode cX9_bestVictims 38 = .ok (.ifCond .ne 64, 3) := by decide +kernel
theorem dX9_bestVictims_41 : decode cX9_bestVictims 41 = .ok (.iload_n 2, 1) := by decide +kernel
theorem dX9_bestVictims_42 : decode cX9_bestVictims 42 = .ok (.iconst (-1), 1) := by decide +kernel
theorem dX9_bestVictims_43 : decode cX9_bestVictims 43 = .ok (.if_icmp .ne 7, 3) := by decide +kernel
theorem dX9_bestVictims_46 : decode cX9_bestVictims 46 = .ok (.iconst 1, 1) := by decide +kernel
theorem dX9_bestVictims_47 : decode cX9_bestVictims 47 = .ok (.goto 14, 3) := by decide +kernel
theorem dX9_bestVictims_50 : decode cX9_bestVictims 50 = .ok (.aload_n 0, 1) := by decide +kernel
theorem dX9_bestVictims_51 : decode cX9_bestVictims 51 = .ok (.iload_n 2, 1) := by decide +kernel
theorem dX9_bestVictims_52 : decode cX9_bestVictims 52 = .ok (.invokevirtual 214, 3) := by decide +kernel
theorem dX9_bestVictims_55 : decode cX9_bestVictims 55 = .ok (.aload_n 0, 1) := by decide +kernel
theorem dX9_bestVictims_56 : decode cX9_bestVictims 56 = .ok (.iload_n 3, 1) := by decide +kernel
theorem dX9_bestVictims_57 : decode cX9_bestVictims 57 = .ok (.invokevirtual 214, 3) := by decide +kernel
theorem dX9_bestVictims_60 : decode cX9_bestVictims 60 = .ok (.isub, 1) := by decide +kernel
theorem dX9_bestVictims_61 : decode cX9_bestVictims 61 = .ok (.istore 4, 2) := by decide +kernel
theorem dX9_bestVictims_63 : decode cX9_bestVictims 63 = .ok (.iload 4, 2) := by decide +kernel
theorem dX9_bestVictims_65 : decode cX9_bestVictims 65 = .ok (.ifCond .gt 19, 3) := by decide +kernel
theorem dX9_bestVictims_68 : decode cX9_bestVictims 68 = .ok (.iload 4, 2) := by decide +kernel
theorem dX9_bestVictims_70 : decode cX9_bestVictims 70 = .ok (.ifCond .ne 18, 3) := by decide +kernel
theorem dX9_bestVictims_73 : decode cX9_bestVictims 73 = .ok (.iload_n 3, 1) := by decide +kernel
theorem dX9_bestVictims_74 : decode cX9_bestVictims 74 = .ok (.invokestatic 140, 3) := by decide +kernel
theorem dX9_bestVictims_77 : decode cX9_bestVictims 77 = .ok (.iload_n 2, 1) := by decide +kernel
theorem dX9_bestVictims_78 : decode cX9_bestVictims 78 = .ok (.invokestatic 140, 3) := by decide +kernel
theorem dX9_bestVictims_81 : decode cX9_bestVictims 81 = .ok (.if_icmp .ge 7, 3) := by decide +kernel
theorem dX9_bestVictims_84 : decode cX9_bestVictims 84 = .ok (.iconst 1, 1) := by decide +kernel
theorem dX9_bestVictims_85 : decode cX9_bestVictims 85 = .ok (.goto 4, 3) := by decide +kernel
theorem dX9_bestVictims_88 : decode cX9_bestVictims 88 = .ok (.iconst 0, 1) := by decide +kernel
theorem dX9_bestVictims_89 : decode cX9_bestVictims 89 = .ok (.istore 5, 2) := by decide +kernel
theorem dX9_bestVictims_91 : decode cX9_bestVictims 91 = .ok (.iload 5, 2) := by decide +kernel
theorem dX9_bestVictims_93 : decode cX9_bestVictims 93 = .ok (.ifCond .eq 7, 3) := by decide +kernel
theorem dX9_bestVictims_96 : decode cX9_bestVictims 96 = .ok (.iload_n 3, 1) := by decide +kernel
theorem dX9_bestVictims_97 : decode cX9_bestVictims 97 = .ok (.goto 4, 3) := by decide +kernel
theorem dX9_bestVictims_100 : decode cX9_bestVictims 100 = .ok (.iload_n 2, 1) := by decide +kernel
theorem dX9_bestVictims_101 : decode cX9_bestVictims 101 = .ok (.istore_n 2, 1) := by decide +kernel
theorem dX9_bestVictims_102 : decode cX9_bestVictims 102 = .ok (.iinc 3 1, 3) := by decide +kernel
theorem dX9_bestVictims_105 : decode cX9_bestVictims 105 = .ok (.goto (-91), 3) := by decide +kernel
theorem dX9_bestVictims_108 : decode cX9_bestVictims 108 = .ok (.iload_n 2, 1) := by decide +kernel
theorem dX9_bestVictims_109 : decode cX9_bestVictims 109 = .ok (.ireturn, 1) := by decide +kernel
theorem dX9_wouldEnd_0 : decode cX9_wouldEnd 0 = .ok (.aload_n 0, 1) := by decide +kernel
theorem dX9_wouldEnd_1 : decode cX9_wouldEnd 1 = .ok (.iconst 0, 1) := by decide +kernel
theorem dX9_wouldEnd_2 : decode cX9_wouldEnd 2 = .ok (.putfield 48, 3) := by decide +kernel
theorem dX9_wouldEnd_5 : decode cX9_wouldEnd 5 = .ok (.aload_n 0, 1) := by decide +kernel
theorem dX9_wouldEnd_6 : decode cX9_wouldEnd 6 = .ok (.invokevirtual 66, 3) := by decide +kernel
theorem dX9_wouldEnd_9 : decode cX9_wouldEnd 9 = .ok (.aload_n 0, 1) := by decide +kernel
theorem dX9_wouldEnd_10 : decode cX9_wouldEnd 10 = .ok (.getfield 16, 3) := by decide +kernel
theorem dX9_wouldEnd_13 : decode cX9_wouldEnd 13 = .ok (.bipush 7, 2) := by decide +kernel
theorem dX9_wouldEnd_15 : decode cX9_wouldEnd 15 = .ok (.iaload, 1) := by decide +kernel
theorem dX9_wouldEnd_16 : decode cX9_wouldEnd 16 = .ok (.istore_n 1, 1) := by decide +kernel
theorem dX9_wouldEnd_17 : decode cX9_wouldEnd 17 = .ok (.iconst 0, 1) := by decide +kernel
theorem dX9_wouldEnd_18 : decode cX9_wouldEnd 18 = .ok (.istore_n 2, 1) := by decide +kernel
theorem dX9_wouldEnd_19 : decode cX9_wouldEnd 19 = .ok (.iconst 0, 1) := by decide +kernel
theorem dX9_wouldEnd_20 : decode cX9_wouldEnd 20 = .ok (.istore_n 3, 1) := by decide +kernel
theorem dX9_wouldEnd_21 : decode cX9_wouldEnd 21 = .ok (.iload_n 3, 1) := by decide +kernel
theorem dX9_wouldEnd_22 : decode cX9_wouldEnd 22 = .ok (.bipush 10, 2) := by decide +kernel
theorem dX9_wouldEnd_24 : decode cX9_wouldEnd 24 = .ok (.if_icmp .ge 39, 3) := by decide +kernel
theorem dX9_wouldEnd_27 : decode cX9_wouldEnd 27 = .ok (.aload_n 0, 1) := by decide +kernel
theorem dX9_wouldEnd_28 : decode cX9_wouldEnd 28 = .ok (.iload_n 3, 1) := by decide +kernel
theorem dX9_wouldEnd_29 : decode cX9_wouldEnd 29 = .ok (.invokevirtual 113, 3) := by decide +kernel
theorem dX9_wouldEnd_32 : decode cX9_wouldEnd 32 = .ok (.istore 4, 2) := by decide +kernel
theorem dX9_wouldEnd_34 : decode cX9_wouldEnd 34 = .ok (.iload 4, 2) := by decide +kernel
theorem dX9_wouldEnd_36 : decode cX9_wouldEnd 36 = .ok (.ifCond .eq 11, 3) := by decide +kernel
theorem dX9_wouldEnd_39 : decode cX9_wouldEnd 39 = .ok (.aload_n 0, 1) := by decide +kernel
theorem dX9_wouldEnd_40 : decode cX9_wouldEnd 40 = .ok (.iload_n 3, 1) := by decide +kernel
theorem dX9_wouldEnd_41 : decode cX9_wouldEnd 41 = .ok (.invokevirtual 146, 3) := by decide +kernel
theorem dX9_wouldEnd_44 : decode cX9_wouldEnd 44 = .ok (.iinc 2 1, 3) := by decide +kernel
theorem dX9_wouldEnd_47 : decode cX9_wouldEnd 47 = .ok (.iload 4, 2) := by decide +kernel
theorem dX9_wouldEnd_49 : decode cX9_wouldEnd 49 = .ok (.ifCond .eq 7, 3) := by decide +kernel
theorem dX9_wouldEnd_52 : decode cX9_wouldEnd 52 = .ok (.iconst 0, 1) := by decide +kernel
theorem dX9_wouldEnd_53 : decode cX9_wouldEnd 53 = .ok (.goto 6, 3) := by decide +kernel
theorem dX9_wouldEnd_56 : decode cX9_wouldEnd 56 = .ok (.iload_n 3, 1) := by decide +kernel
theorem dX9_wouldEnd_57 : decode cX9_wouldEnd 57 = .ok (.iconst 1, 1) := by decide +kernel
theorem dX9_wouldEnd_58 : decode cX9_wouldEnd 58 = .ok (.iadd, 1) := by decide +kernel
theorem dX9_wouldEnd_59 : decode cX9_wouldEnd 59 = .ok (.istore_n 3, 1) := by decide +kernel
theorem dX9_wouldEnd_60 : decode cX9_wouldEnd 60 = .ok (.goto (-39), 3) := by decide +kernel
theorem dX9_wouldEnd_63 : decode cX9_wouldEnd 63 = .ok (.iconst 0, 1) := by decide +kernel
theorem dX9_wouldEnd_64 : decode cX9_wouldEnd 64 = .ok (.istore 4, 2) := by decide +kernel
theorem dX9_wouldEnd_66 : decode cX9_wouldEnd 66 = .ok (.iload 4, 2) := by decide +kernel
theorem dX9_wouldEnd_68 : decode cX9_wouldEnd 68 = .ok (.sipush 613, 3) := by decide +kernel
theorem dX9_wouldEnd_71 : decode cX9_wouldEnd 71 = .ok (.if_icmp .ge 23, 3) := by decide +kernel
theorem dX9_wouldEnd_74 : decode cX9_wouldEnd 74 = .ok (.aload_n 0, 1) := by decide +kernel
theorem dX9_wouldEnd_75 : decode cX9_wouldEnd 75 = .ok (.getfield 7, 3) := by decide +kernel
theorem dX9_wouldEnd_78 : decode cX9_wouldEnd 78 = .ok (.iload 4, 2) := by decide +kernel
theorem dX9_wouldEnd_80 : decode cX9_wouldEnd 80 = .ok (.aload_n 0, 1) := by decide +kernel
theorem dX9_wouldEnd_81 : decode cX9_wouldEnd 81 = .ok (.getfield 33, 3) := by decide +kernel
theorem dX9_wouldEnd_84 : decode cX9_wouldEnd 84 = .ok (.iload 4, 2) := by decide +kernel
theorem dX9_wouldEnd_86 : decode cX9_wouldEnd 86 = .ok (.iaload, 1) := by decide +kernel
theorem dX9_wouldEnd_87 : decode cX9_wouldEnd 87 = .ok (.iastore, 1) := by decide +kernel
theorem dX9_wouldEnd_88 : decode cX9_wouldEnd 88 = .ok (.iinc 4 1, 3) := by decide +kernel
theorem dX9_wouldEnd_91 : decode cX9_wouldEnd 91 = .ok (.goto (-25), 3) := by decide +kernel
theorem dX9_wouldEnd_94 : decode cX9_wouldEnd 94 = .ok (.aload_n 0, 1) := by decide +kernel
theorem dX9_wouldEnd_95 : decode cX9_wouldEnd 95 = .ok (.getfield 16, 3) := by decide +kernel
theorem dX9_wouldEnd_98 : decode cX9_wouldEnd 98 = .ok (.bipush 7, 2) := by decide +kernel
theorem dX9_wouldEnd_100 : decode cX9_wouldEnd 100 = .ok (.iload_n 1, 1) := by decide +kernel
theorem dX9_wouldEnd_101 : decode cX9_wouldEnd 101 = .ok (.iastore, 1) := by decide +kernel
theorem dX9_wouldEnd_102 : decode cX9_wouldEnd 102 = .ok (.iload_n 2, 1) := by decide +kernel
theorem dX9_wouldEnd_103 : decode cX9_wouldEnd 103 = .ok (.ireturn, 1) := by decide +kernel
theorem dX9_type_0 : decode cX9_type 0 = .ok (.aload_n 0, 1) := by decide +kernel
theorem dX9_type_1 : decode cX9_type 1 = .ok (.iload_n 1, 1) := by decide +kernel
theorem dX9_type_2 : decode cX9_type 2 = .ok (.bipush 32, 2) := by decide +kernel
theorem dX9_type_4 : decode cX9_type 4 = .ok (.bipush 126, 2) := by decide +kernel
theorem dX9_type_6 : decode cX9_type 6 = .ok (.invokestatic 54, 3) := by decide +kernel
theorem dX9_type_9 : decode cX9_type 9 = .ok (.ifCond .ne 7, 3) := by decide +kernel
theorem dX9_type_12 : decode cX9_type 12 = .ok (.iconst 1, 1) := by decide +kernel
theorem dX9_type_13 : decode cX9_type 13 = .ok (.goto 17, 3) := by decide +kernel
theorem dX9_type_16 : decode cX9_type 16 = .ok (.aload_n 0, 1) := by decide +kernel
theorem dX9_type_17 : decode cX9_type 17 = .ok (.getfield 217, 3) := by decide +kernel
theorem dX9_type_20 : decode cX9_type 20 = .ok (.bipush 120, 2) := by decide +kernel
theorem dX9_type_22 : decode cX9_type 22 = .ok (.if_icmp .ne 7, 3) := by decide +kernel
theorem dX9_type_25 : decode cX9_type 25 = .ok (.iconst 2, 1) := by decide +kernel
theorem dX9_type_26 : decode cX9_type 26 = .ok (.goto 4, 3) := by decide +kernel
theorem dX9_type_29 : decode cX9_type 29 = .ok (.iconst 0, 1) := by decide +kernel
theorem dX9_type_30 : decode cX9_type 30 = .ok (.putfield 48, 3) := by decide +kernel
theorem dX9_type_33 : decode cX9_type 33 = .ok (.aload_n 0, 1) := by decide +kernel
theorem dX9_type_34 : decode cX9_type 34 = .ok (.getfield 48, 3) := by decide +kernel
theorem dX9_type_37 : decode cX9_type 37 = .ok (.ifCond .le 5, 3) := by decide +kernel
theorem dX9_type_40 : decode cX9_type 40 = .ok (.iconst 0, 1) := by decide +kernel
theorem dX9_type_41 : decode cX9_type 41 = .ok (.ireturn, 1) := by decide +kernel
theorem dX9_type_42 : decode cX9_type 42 = .ok (.aload_n 0, 1) := by decide +kernel
theorem dX9_type_43 : decode cX9_type 43 = .ok (.getfield 19, 3) := by decide +kernel
theorem dX9_type_46 : decode cX9_type 46 = .ok (.aload_n 0, 1) := by decide +kernel
theorem dX9_type_47 : decode cX9_type 47 = .ok (.getfield 217, 3) := by decide +kernel
theorem dX9_type_50 : decode cX9_type 50 = .ok (.iload_n 1, 1) := by decide +kernel
theorem dX9_type_51 : decode cX9_type 51 = .ok (.i2b, 1) := by decide +kernel
theorem dX9_type_52 : decode cX9_type 52 = .ok (.bastore, 1) := by decide +kernel
theorem dX9_type_53 : decode cX9_type 53 = .ok (.aload_n 0, 1) := by decide +kernel
theorem dX9_type_54 : decode cX9_type 54 = .ok (.dup, 1) := by decide +kernel
theorem dX9_type_55 : decode cX9_type 55 = .ok (.getfield 217, 3) := by decide +kernel
theorem dX9_type_58 : decode cX9_type 58 = .ok (.iconst 1, 1) := by decide +kernel
theorem dX9_type_59 : decode cX9_type 59 = .ok (.iadd, 1) := by decide +kernel
theorem dX9_type_60 : decode cX9_type 60 = .ok (.putfield 217, 3) := by decide +kernel
theorem dX9_type_63 : decode cX9_type 63 = .ok (.aload_n 0, 1) := by decide +kernel
theorem dX9_type_64 : decode cX9_type 64 = .ok (.getfield 217, 3) := by decide +kernel
theorem dX9_type_67 : decode cX9_type 67 = .ok (.ireturn, 1) := by decide +kernel
theorem dX9_clearText_0 : decode cX9_clearText 0 = .ok (.aload_n 0, 1) := by decide +kernel
theorem dX9_clearText_1 : decode cX9_clearText 1 = .ok (.iconst 0, 1) := by decide +kernel
theorem dX9_clearText_2 : decode cX9_clearText 2 = .ok (.putfield 48, 3) := by decide +kernel
theorem dX9_clearText_5 : decode cX9_clearText 5 = .ok (.aload_n 0, 1) := by decide +kernel
theorem dX9_clearText_6 : decode cX9_clearText 6 = .ok (.getfield 217, 3) := by decide +kernel
theorem dX9_clearText_9 : decode cX9_clearText 9 = .ok (.istore_n 1, 1) := by decide +kernel
theorem dX9_clearText_10 : decode cX9_clearText 10 = .ok (.aload_n 0, 1) := by decide +kernel
theorem dX9_clearText_11 : decode cX9_clearText 11 = .ok (.iconst 0, 1) := by decide +kernel
theorem dX9_clearText_12 : decode cX9_clearText 12 = .ok (.putfield 217, 3) := by decide +kernel
theorem dX9_clearText_15 : decode cX9_clearText 15 = .ok (.iload_n 1, 1) := by decide +kernel
theorem dX9_clearText_16 : decode cX9_clearText 16 = .ok (.ireturn, 1) := by decide +kernel
theorem dX9_here_0 : decode cX9_here 0 = .ok (.iload_n 1, 1) := by decide +kernel
theorem dX9_here_1 : decode cX9_here 1 = .ok (.aload_n 0, 1) := by decide +kernel
theorem dX9_here_2 : decode cX9_here 2 = .ok (.getfield 217, 3) := by decide +kernel
theorem dX9_here_5 : decode cX9_here 5 = .ok (.if_icmp .ge 12, 3) := by decide +kernel
theorem dX9_here_8 : decode cX9_here 8 = .ok (.aload_n 0, 1) := by decide +kernel
theorem dX9_here_9 : decode cX9_here 9 = .ok (.getfield 19, 3) := by decide +kernel
theorem dX9_here_12 : decode cX9_here 12 = .ok (.iload_n 1, 1) := by decide +kernel
theorem dX9_here_13 : decode cX9_here 13 = .ok (.baload, 1) := by decide +kernel
theorem dX9_here_14 : decode cX9_here 14 = .ok (.goto 4, 3) := by decide +kernel
theorem dX9_here_17 : decode cX9_here 17 = .ok (.iconst (-1), 1) := by decide +kernel
theorem dX9_here_18 : decode cX9_here 18 = .ok (.ireturn, 1) := by decide +kernel
theorem dX9_arguments_0 : decode cX9_arguments 0 = .ok (.iload_n 0, 1) := by decide +kernel
theorem dX9_arguments_1 : decode cX9_arguments 1 = .ok (.tableswitch 99 97 116 #[97, 97, 99, 97, 99, 97, 99, 99, 99, 99, 99, 95, 99, 99, 99, 97, 95, 99, 99, 97], 95) := by decide +kernel
theorem dX9_arguments_96 : decode cX9_arguments 96 = .ok (.iconst 2, 1) := by decide +kernel
theorem dX9_arguments_97 : decode cX9_arguments 97 = .ok (.ireturn, 1) := by decide +kernel
theorem dX9_arguments_98 : decode cX9_arguments 98 = .ok (.iconst 1, 1) := by decide +kernel
theorem dX9_arguments_99 : decode cX9_arguments 99 = .ok (.ireturn, 1) := by decide +kernel
theorem dX9_arguments_100 : decode cX9_arguments 100 = .ok (.iconst 0, 1) := by decide +kernel
theorem dX9_arguments_101 : decode cX9_arguments 101 = .ok (.ireturn, 1) := by decide +kernel
theorem dX9_readsNumber_0 : decode cX9_readsNumber 0 = .ok (.aload_n 0, 1) := by decide +kernel
theorem dX9_readsNumber_1 : decode cX9_readsNumber 1 = .ok (.iconst 0, 1) := by decide +kernel
theorem dX9_readsNumber_2 : decode cX9_readsNumber 2 = .ok (.putfield 220, 3) := by decide +kernel
theorem dX9_readsNumber_5 : decode cX9_readsNumber 5 = .ok (.aload_n 0, 1) := by decide +kernel
theorem dX9_readsNumber_6 : decode cX9_readsNumber 6 = .ok (.getfield 223, 3) := by decide +kernel
theorem dX9_readsNumber_9 : decode cX9_readsNumber 9 = .ok (.istore_n 1, 1) := by decide +kernel
theorem dX9_readsNumber_10 : decode cX9_readsNumber 10 = .ok (.aload_n 0, 1) := by decide +kernel
theorem dX9_readsNumber_11 : decode cX9_readsNumber 11 = .ok (.getfield 223, 3) := by decide +kernel
theorem dX9_readsNumber_14 : decode cX9_readsNumber 14 = .ok (.iload_n 1, 1) := by decide +kernel
theorem dX9_readsNumber_15 : decode cX9_readsNumber 15 = .ok (.iconst 2, 1) := by decide +kernel
theorem dX9_readsNumber_16 : decode cX9_readsNumber 16 = .ok (.iadd, 1) := by decide +kernel
theorem dX9_readsNumber_17 : decode cX9_readsNumber 17 = .ok (.if_icmp .ge 57, 3) := by decide +kernel
theorem dX9_readsNumber_20 : decode cX9_readsNumber 20 = .ok (.aload_n 0, 1) := by decide +kernel
theorem dX9_readsNumber_21 : decode cX9_readsNumber 21 = .ok (.aload_n 0, 1) := by decide +kernel
theorem dX9_readsNumber_22 : decode cX9_readsNumber 22 = .ok (.getfield 223, 3) := by decide +kernel
theorem dX9_readsNumber_25 : decode cX9_readsNumber 25 = .ok (.invokevirtual 226, 3) := by decide +kernel
theorem dX9_readsNumber_28 : decode cX9_readsNumber 28 = .ok (.bipush 48, 2) := by decide +kernel
theorem dX9_readsNumber_30 : decode cX9_readsNumber 30 = .ok (.bipush 57, 2) := by decide +kernel
theorem dX9_readsNumber_32 : decode cX9_readsNumber 32 = .ok (.invokestatic 54, 3) := by decide +kernel
theorem dX9_readsNumber_35 : decode cX9_readsNumber 35 = .ok (.ifCond .eq 39, 3) := by decide +kernel
theorem dX9_readsNumber_38 : decode cX9_readsNumber 38 = .ok (.aload_n 0, 1) := by decide +kernel
theorem dX9_readsNumber_39 : decode cX9_readsNumber 39 = .ok (.bipush 10, 2) := by decide +kernel
theorem dX9_readsNumber_41 : decode cX9_readsNumber 41 = .ok (.aload_n 0, 1) := by decide +kernel
theorem dX9_readsNumber_42 : decode cX9_readsNumber 42 = .ok (.getfield 220, 3) := by decide +kernel
theorem dX9_readsNumber_45 : decode cX9_readsNumber 45 = .ok (.imul, 1) := by decide +kernel
theorem dX9_readsNumber_46 : decode cX9_readsNumber 46 = .ok (.aload_n 0, 1) := by decide +kernel
theorem dX9_readsNumber_47 : decode cX9_readsNumber 47 = .ok (.aload_n 0, 1) := by decide +kernel
theorem dX9_readsNumber_48 : decode cX9_readsNumber 48 = .ok (.getfield 223, 3) := by decide +kernel
theorem dX9_readsNumber_51 : decode cX9_readsNumber 51 = .ok (.invokevirtual 226, 3) := by decide +kernel
theorem dX9_readsNumber_54 : decode cX9_readsNumber 54 = .ok (.iadd, 1) := by decide +kernel
theorem dX9_readsNumber_55 : decode cX9_readsNumber 55 = .ok (.bipush 48, 2) := by decide +kernel
theorem dX9_readsNumber_57 : decode cX9_readsNumber 57 = .ok (.isub, 1) := by decide +kernel
theorem dX9_readsNumber_58 : decode cX9_readsNumber 58 = .ok (.putfield 220, 3) := by decide +kernel
theorem dX9_readsNumber_61 : decode cX9_readsNumber 61 = .ok (.aload_n 0, 1) := by decide +kernel
theorem dX9_readsNumber_62 : decode cX9_readsNumber 62 = .ok (.dup, 1) := by decide +kernel
theorem dX9_readsNumber_63 : decode cX9_readsNumber 63 = .ok (.getfield 223, 3) := by decide +kernel
theorem dX9_readsNumber_66 : decode cX9_readsNumber 66 = .ok (.iconst 1, 1) := by decide +kernel
theorem dX9_readsNumber_67 : decode cX9_readsNumber 67 = .ok (.iadd, 1) := by decide +kernel
theorem dX9_readsNumber_68 : decode cX9_readsNumber 68 = .ok (.putfield 223, 3) := by decide +kernel
theorem dX9_readsNumber_71 : decode cX9_readsNumber 71 = .ok (.goto (-61), 3) := by decide +kernel
theorem dX9_readsNumber_74 : decode cX9_readsNumber 74 = .ok (.aload_n 0, 1) := by decide +kernel
theorem dX9_readsNumber_75 : decode cX9_readsNumber 75 = .ok (.getfield 223, 3) := by decide +kernel
theorem dX9_readsNumber_78 : decode cX9_readsNumber 78 = .ok (.iload_n 1, 1) := by decide +kernel
theorem dX9_readsNumber_79 : decode cX9_readsNumber 79 = .ok (.if_icmp .le 7, 3) := by decide +kernel
theorem dX9_readsNumber_82 : decode cX9_readsNumber 82 = .ok (.iconst 1, 1) := by decide +kernel
theorem dX9_readsNumber_83 : decode cX9_readsNumber 83 = .ok (.goto 4, 3) := by decide +kernel
theorem dX9_readsNumber_86 : decode cX9_readsNumber 86 = .ok (.iconst 0, 1) := by decide +kernel
theorem dX9_readsNumber_87 : decode cX9_readsNumber 87 = .ok (.ireturn, 1) := by decide +kernel
theorem dX9_readsCommand_0 : decode cX9_readsCommand 0 = .ok (.aload_n 0, 1) := by decide +kernel
theorem dX9_readsCommand_1 : decode cX9_readsCommand 1 = .ok (.dup, 1) := by decide +kernel
theorem dX9_readsCommand_2 : decode cX9_readsCommand 2 = .ok (.getfield 223, 3) := by decide +kernel
theorem dX9_readsCommand_5 : decode cX9_readsCommand 5 = .ok (.iconst 1, 1) := by decide +kernel
theorem dX9_readsCommand_6 : decode cX9_readsCommand 6 = .ok (.iadd, 1) := by decide +kernel
theorem dX9_readsCommand_7 : decode cX9_readsCommand 7 = .ok (.putfield 223, 3) := by decide +kernel
theorem dX9_readsCommand_10 : decode cX9_readsCommand 10 = .ok (.aload_n 0, 1) := by decide +kernel
theorem dX9_readsCommand_11 : decode cX9_readsCommand 11 = .ok (.invokevirtual 229, 3) := by decide +kernel
theorem dX9_readsCommand_14 : decode cX9_readsCommand 14 = .ok (.ifCond .ne 5, 3) := by decide +kernel
theorem dX9_readsCommand_17 : decode cX9_readsCommand 17 = .ok (.iconst 0, 1) := by decide +kernel
theorem dX9_readsCommand_18 : decode cX9_readsCommand 18 = .ok (.ireturn, 1) := by decide +kernel
theorem dX9_readsCommand_19 : decode cX9_readsCommand 19 = .ok (.aload_n 0, 1) := by decide +kernel
theorem dX9_readsCommand_20 : decode cX9_readsCommand 20 = .ok (.getfield 220, 3) := by decide +kernel
theorem dX9_readsCommand_23 : decode cX9_readsCommand 23 = .ok (.istore_n 2, 1) := by decide +kernel
theorem dX9_readsCommand_24 : decode cX9_readsCommand 24 = .ok (.iload_n 1, 1) := by decide +kernel
theorem dX9_readsCommand_25 : decode cX9_readsCommand 25 = .ok (.invokestatic 233, 3) := by decide +kernel
theorem dX9_readsCommand_28 : decode cX9_readsCommand 28 = .ok (.iconst 2, 1) := by decide +kernel
theorem dX9_readsCommand_29 : decode cX9_readsCommand 29 = .ok (.if_icmp .ne 50, 3) := by decide +kernel
theorem dX9_readsCommand_32 : decode cX9_readsCommand 32 = .ok (.aload_n 0, 1) := by decide +kernel
theorem dX9_readsCommand_33 : decode cX9_readsCommand 33 = .ok (.aload_n 0, 1) := by decide +kernel
theorem dX9_readsCommand_34 : decode cX9_readsCommand 34 = .ok (.getfield 223, 3) := by decide +kernel
theorem dX9_readsCommand_37 : decode cX9_readsCommand 37 = .ok (.invokevirtual 226, 3) := by decide +kernel
theorem dX9_readsCommand_40 : decode cX9_readsCommand 40 = .ok (.bipush 44, 2) := by decide +kernel
theorem dX9_readsCommand_42 : decode cX9_readsCommand 42 = .ok (.if_icmp .eq 5, 3) := by decide +kernel
theorem dX9_readsCommand_45 : decode cX9_readsCommand 45 = .ok (.iconst 0, 1) := by decide +kernel
theorem dX9_readsCommand_46 : decode cX9_readsCommand 46 = .ok (.ireturn, 1) := by decide +kernel
theorem dX9_readsCommand_47 : decode cX9_readsCommand 47 = .ok (.aload_n 0, 1) := by decide +kernel
theorem dX9_readsCommand_48 : decode cX9_readsCommand 48 = .ok (.dup, 1) := by decide +kernel
theorem dX9_readsCommand_49 : decode cX9_readsCommand 49 = .ok (.getfield 223, 3) := by decide +kernel
theorem dX9_readsCommand_52 : decode cX9_readsCommand 52 = .ok (.iconst 1, 1) := by decide +kernel
theorem dX9_readsCommand_53 : decode cX9_readsCommand 53 = .ok (.iadd, 1) := by decide +kernel
theorem dX9_readsCommand_54 : decode cX9_readsCommand 54 = .ok (.putfield 223, 3) := by decide +kernel
theorem dX9_readsCommand_57 : decode cX9_readsCommand 57 = .ok (.aload_n 0, 1) := by decide +kernel
theorem dX9_readsCommand_58 : decode cX9_readsCommand 58 = .ok (.invokevirtual 229, 3) := by decide +kernel
theorem dX9_readsCommand_61 : decode cX9_readsCommand 61 = .ok (.ifCond .ne 5, 3) := by decide +kernel
theorem dX9_readsCommand_64 : decode cX9_readsCommand 64 = .ok (.iconst 0, 1) := by decide +kernel
theorem dX9_readsCommand_65 : decode cX9_readsCommand 65 = .ok (.ireturn, 1) := by decide +kernel
theorem dX9_readsCommand_66 : decode cX9_readsCommand 66 = .ok (.aload_n 0, 1) := by decide +kernel
theorem dX9_readsCommand_67 : decode cX9_readsCommand 67 = .ok (.aload_n 0, 1) := by decide +kernel
theorem dX9_readsCommand_68 : decode cX9_readsCommand 68 = .ok (.getfield 220, 3) := by decide +kernel
theorem dX9_readsCommand_71 : decode cX9_readsCommand 71 = .ok (.putfield 236, 3) := by decide +kernel
theorem dX9_readsCommand_74 : decode cX9_readsCommand 74 = .ok (.aload_n 0, 1) := by decide +kernel
theorem dX9_readsCommand_75 : decode cX9_readsCommand 75 = .ok (.iload_n 2, 1) := by decide +kernel
theorem dX9_readsCommand_76 : decode cX9_readsCommand 76 = .ok (.putfield 220, 3) := by decide +kernel
theorem dX9_readsCommand_79 : decode cX9_readsCommand 79 = .ok (.aload_n 0, 1) := by decide +kernel
theorem dX9_readsCommand_80 : decode cX9_readsCommand 80 = .ok (.aload_n 0, 1) := by decide +kernel
theorem dX9_readsCommand_81 : decode cX9_readsCommand 81 = .ok (.getfield 223, 3) := by decide +kernel
theorem dX9_readsCommand_84 : decode cX9_readsCommand 84 = .ok (.invokevirtual 226, 3) := by decide +kernel
theorem dX9_readsCommand_87 : decode cX9_readsCommand 87 = .ok (.bipush 59, 2) := by decide +kernel
theorem dX9_readsCommand_89 : decode cX9_readsCommand 89 = .ok (.if_icmp .eq 5, 3) := by decide +kernel
theorem dX9_readsCommand_92 : decode cX9_readsCommand 92 = .ok (.iconst 0, 1) := by decide +kernel
theorem dX9_readsCommand_93 : decode cX9_readsCommand 93 = .ok (.ireturn, 1) := by decide +kernel
theorem dX9_readsCommand_94 : decode cX9_readsCommand 94 = .ok (.aload_n 0, 1) := by decide +kernel
theorem dX9_readsCommand_95 : decode cX9_readsCommand 95 = .ok (.dup, 1) := by decide +kernel
theorem dX9_readsCommand_96 : decode cX9_readsCommand 96 = .ok (.getfield 223, 3) := by decide +kernel
theorem dX9_readsCommand_99 : decode cX9_readsCommand 99 = .ok (.iconst 1, 1) := by decide +kernel
theorem dX9_readsCommand_100 : decode cX9_readsCommand 100 = .ok (.iadd, 1) := by decide +kernel
theorem dX9_readsCommand_101 : decode cX9_readsCommand 101 = .ok (.putfield 223, 3) := by decide +kernel
theorem dX9_readsCommand_104 : decode cX9_readsCommand 104 = .ok (.iconst 1, 1) := by decide +kernel
theorem dX9_readsCommand_105 : decode cX9_readsCommand 105 = .ok (.ireturn, 1) := by decide +kernel
theorem dX9_faultOf_0 : decode cX9_faultOf 0 = .ok (.aload_n 0, 1) := by decide +kernel
theorem dX9_faultOf_1 : decode cX9_faultOf 1 = .ok (.iconst 0, 1) := by decide +kernel
theorem dX9_faultOf_2 : decode cX9_faultOf 2 = .ok (.putfield 223, 3) := by decide +kernel
theorem dX9_faultOf_5 : decode cX9_faultOf 5 = .ok (.aload_n 0, 1) := by decide +kernel
theorem dX9_faultOf_6 : decode cX9_faultOf 6 = .ok (.getfield 223, 3) := by decide +kernel
theorem dX9_faultOf_9 : decode cX9_faultOf 9 = .ok (.aload_n 0, 1) := by decide +kernel
theorem dX9_faultOf_10 : decode cX9_faultOf 10 = .ok (.getfield 217, 3) := by decide +kernel
theorem dX9_faultOf_13 : decode cX9_faultOf 13 = .ok (.if_icmp .ge 35, 3) := by decide +kernel
theorem dX9_faultOf_16 : decode cX9_faultOf 16 = .ok (.aload_n 0, 1) := by decide +kernel
theorem dX9_faultOf_17 : decode cX9_faultOf 17 = .ok (.aload_n 0, 1) := by decide +kernel
theorem dX9_faultOf_18 : decode cX9_faultOf 18 = .ok (.getfield 223, 3) := by decide +kernel
theorem dX9_faultOf_21 : decode cX9_faultOf 21 = .ok (.invokevirtual 226, 3) := by decide +kernel
theorem dX9_faultOf_24 : decode cX9_faultOf 24 = .ok (.istore_n 1, 1) := by decide +kernel
theorem dX9_faultOf_25 : decode cX9_faultOf 25 = .ok (.iload_n 1, 1) := by decide +kernel
theorem dX9_faultOf_26 : decode cX9_faultOf 26 = .ok (.invokestatic 233, 3) := by decide +kernel
theorem dX9_faultOf_29 : decode cX9_faultOf 29 = .ok (.ifCond .eq 11, 3) := by decide +kernel
theorem dX9_faultOf_32 : decode cX9_faultOf 32 = .ok (.aload_n 0, 1) := by decide +kernel
theorem dX9_faultOf_33 : decode cX9_faultOf 33 = .ok (.iload_n 1, 1) := by decide +kernel
theorem dX9_faultOf_34 : decode cX9_faultOf 34 = .ok (.invokevirtual 239, 3) := by decide +kernel
theorem dX9_faultOf_37 : decode cX9_faultOf 37 = .ok (.ifCond .ne 8, 3) := by decide +kernel
theorem dX9_faultOf_40 : decode cX9_faultOf 40 = .ok (.aload_n 0, 1) := by decide +kernel
theorem dX9_faultOf_41 : decode cX9_faultOf 41 = .ok (.getfield 223, 3) := by decide +kernel
theorem dX9_faultOf_44 : decode cX9_faultOf 44 = .ok (.ireturn, 1) := by decide +kernel
theorem dX9_faultOf_45 : decode cX9_faultOf 45 = .ok (.goto (-40), 3) := by decide +kernel
theorem dX9_faultOf_48 : decode cX9_faultOf 48 = .ok (.iconst (-1), 1) := by decide +kernel
theorem dX9_faultOf_49 : decode cX9_faultOf 49 = .ok (.ireturn, 1) := by decide +kernel
theorem dX9_fault_0 : decode cX9_fault 0 = .ok (.aload_n 0, 1) := by decide +kernel
theorem dX9_fault_1 : decode cX9_fault 1 = .ok (.iconst 0, 1) := by decide +kernel
theorem dX9_fault_2 : decode cX9_fault 2 = .ok (.putfield 48, 3) := by decide +kernel
theorem dX9_fault_5 : decode cX9_fault 5 = .ok (.aload_n 0, 1) := by decide +kernel
theorem dX9_fault_6 : decode cX9_fault 6 = .ok (.invokevirtual 242, 3) := by decide +kernel
theorem dX9_fault_9 : decode cX9_fault 9 = .ok (.ireturn, 1) := by decide +kernel
theorem dX9_does_0 : decode cX9_does 0 = .ok (.iconst 0, 1) := by decide +kernel
theorem dX9_does_1 : decode cX9_does 1 = .ok (.istore 4, 2) := by decide +kernel
theorem dX9_does_3 : decode cX9_does 3 = .ok (.iload_n 1, 1) := by decide +kernel
theorem dX9_does_4 : decode cX9_does 4 = .ok (.tableswitch 336 97 116 #[274, 294, 336, 336, 336, 254, 336, 336, 336, 336, 336, 232, 336, 336, 336, 316, 210, 336, 336, 96], 96) := by decide +kernel
theorem dX9_does_100 : decode cX9_does 100 = .ok (.iconst 0, 1) := by decide +kernel
theorem dX9_does_101 : decode cX9_does 101 = .ok (.istore 5, 2) := by decide +kernel
theorem dX9_does_103 : decode cX9_does 103 = .ok (.iload 5, 2) := by decide +kernel
theorem dX9_does_105 : decode cX9_does 105 = .ok (.bipush 10, 2) := by decide +kernel
theorem dX9_does_107 : decode cX9_does 107 = .ok (.if_icmp .ge 18, 3) := by decide +kernel
theorem dX9_does_110 : decode cX9_does 110 = .ok (.aload_n 0, 1) := by decide +kernel
theorem dX9_does_111 : decode cX9_does 111 = .ok (.iload 5, 2) := by decide +kernel
theorem dX9_does_113 : decode cX9_does 113 = .ok (.invokevirtual 72, 3) := by decide +kernel
theorem dX9_does_116 : decode cX9_does 116 = .ok (.ifCond .eq 9, 3) := by decide +kernel
theorem dX9_does_119 : decode cX9_does 119 = .ok (.iinc 5 1, 3) := by decide +kernel
theorem dX9_does_122 : decode cX9_does 122 = .ok (.goto (-19), 3) := by decide +kernel
theorem dX9_does_125 : decode cX9_does 125 = .ok (.iload_n 2, 1) := by decide +kernel
theorem dX9_does_126 : decode cX9_does 126 = .ok (.iconst 1, 1) := by decide +kernel
theorem dX9_does_127 : decode cX9_does 127 = .ok (.bipush 99, 2) := by decide +kernel
theorem dX9_does_129 : decode cX9_does 129 = .ok (.invokestatic 54, 3) := by decide +kernel
theorem dX9_does_132 : decode cX9_does 132 = .ok (.ifCond .eq 10, 3) := by decide +kernel
theorem dX9_does_135 : decode cX9_does 135 = .ok (.iload 5, 2) := by decide +kernel
theorem dX9_does_137 : decode cX9_does 137 = .ok (.bipush 10, 2) := by decide +kernel
theorem dX9_does_139 : decode cX9_does 139 = .ok (.if_icmp .ne 7, 3) := by decide +kernel
theorem dX9_does_142 : decode cX9_does 142 = .ok (.iconst 1, 1) := by decide +kernel
theorem dX9_does_143 : decode cX9_does 143 = .ok (.goto 4, 3) := by decide +kernel
theorem dX9_does_146 : decode cX9_does 146 = .ok (.iconst 0, 1) := by decide +kernel
theorem dX9_does_147 : decode cX9_does 147 = .ok (.istore 4, 2) := by decide +kernel
theorem dX9_does_149 : decode cX9_does 149 = .ok (.iload 4, 2) := by decide +kernel
theorem dX9_does_151 : decode cX9_does 151 = .ok (.ifCond .ne 230, 3) := by decide +kernel
theorem dX9_does_154 : decode cX9_does 154 = .ok (.aload_n 0, 1) := by decide +kernel
theorem dX9_does_155 : decode cX9_does 155 = .ok (.iload 5, 2) := by decide +kernel
theorem dX9_does_157 : decode cX9_does 157 = .ok (.iconst 0, 1) := by decide +kernel
theorem dX9_does_158 : decode cX9_does 158 = .ok (.iconst 1, 1) := by decide +kernel
theorem dX9_does_159 : decode cX9_does 159 = .ok (.invokevirtual 88, 3) := by decide +kernel
theorem dX9_does_162 : decode cX9_does 162 = .ok (.aload_n 0, 1) := by decide +kernel
theorem dX9_does_163 : decode cX9_does 163 = .ok (.iload 5, 2) := by decide +kernel
theorem dX9_does_165 : decode cX9_does 165 = .ok (.iconst 1, 1) := by decide +kernel
theorem dX9_does_166 : decode cX9_does 166 = .ok (.iload_n 2, 1) := by decide +kernel
theorem dX9_does_167 : decode cX9_does 167 = .ok (.invokevirtual 88, 3) := by decide +kernel
theorem dX9_does_170 : decode cX9_does 170 = .ok (.aload_n 0, 1) := by decide +kernel
theorem dX9_does_171 : decode cX9_does 171 = .ok (.iload 5, 2) := by decide +kernel
theorem dX9_does_173 : decode cX9_does 173 = .ok (.iconst 2, 1) := by decide +kernel
theorem dX9_does_174 : decode cX9_does 174 = .ok (.aload_n 0, 1) := by decide +kernel
theorem dX9_does_175 : decode cX9_does 175 = .ok (.getfield 7, 3) := by decide +kernel
theorem dX9_does_178 : decode cX9_does 178 = .ok (.bipush 20, 2) := by decide +kernel
theorem dX9_does_180 : decode cX9_does 180 = .ok (.iaload, 1) := by decide +kernel
theorem dX9_does_181 : decode cX9_does 181 = .ok (.invokevirtual 88, 3) := by decide +kernel
theorem dX9_does_184 : decode cX9_does 184 = .ok (.aload_n 0, 1) := by decide +kernel
theorem dX9_does_185 : decode cX9_does 185 = .ok (.iload 5, 2) := by decide +kernel
theorem dX9_does_187 : decode cX9_does 187 = .ok (.iconst 3, 1) := by decide +kernel
theorem dX9_does_188 : decode cX9_does 188 = .ok (.iconst 0, 1) := by decide +kernel
theorem dX9_does_189 : decode cX9_does 189 = .ok (.invokevirtual 88, 3) := by decide +kernel
theorem dX9_does_192 : decode cX9_does 192 = .ok (.aload_n 0, 1) := by decide +kernel
theorem dX9_does_193 : decode cX9_does 193 = .ok (.iload 5, 2) := by decide +kernel
theorem dX9_does_195 : decode cX9_does 195 = .ok (.iconst 4, 1) := by decide +kernel
theorem dX9_does_196 : decode cX9_does 196 = .ok (.iconst 0, 1) := by decide +kernel
theorem dX9_does_197 : decode cX9_does 197 = .ok (.invokevirtual 88, 3) := by decide +kernel
theorem dX9_does_200 : decode cX9_does 200 = .ok (.aload_n 0, 1) := by decide +kernel
theorem dX9_does_201 : decode cX9_does 201 = .ok (.getfield 7, 3) := by decide +kernel
theorem dX9_does_204 : decode cX9_does 204 = .ok (.bipush 20, 2) := by decide +kernel
theorem dX9_does_206 : decode cX9_does 206 = .ok (.dup2, 1) := by decide +kernel
theorem dX9_does_207 : decode cX9_does 207 = .ok (.iaload, 1) := by decide +kernel
theorem dX9_does_208 : decode cX9_does 208 = .ok (.iconst 1, 1) := by decide +kernel
theorem dX9_does_209 : decode cX9_does 209 = .ok (.iadd, 1) := by decide +kernel
theorem dX9_does_210 : decode cX9_does 210 = .ok (.iastore, 1) := by decide +kernel
theorem dX9_does_211 : decode cX9_does 211 = .ok (.goto 170, 3) := by decide +kernel
theorem dX9_does_214 : decode cX9_does 214 = .ok (.aload_n 0, 1) := by decide +kernel
theorem dX9_does_215 : decode cX9_does 215 = .ok (.iload_n 2, 1) := by decide +kernel
theorem dX9_does_216 : decode cX9_does 216 = .ok (.iload_n 3, 1) := by decide +kernel
theorem dX9_does_217 : decode cX9_does 217 = .ok (.invokevirtual 128, 3) := by decide +kernel
theorem dX9_does_220 : decode cX9_does 220 = .ok (.istore 4, 2) := by decide +kernel
theorem dX9_does_222 : decode cX9_does 222 = .ok (.iload 4, 2) := by decide +kernel
theorem dX9_does_224 : decode cX9_does 224 = .ok (.ifCond .ne 157, 3) := by decide +kernel
theorem dX9_does_227 : decode cX9_does 227 = .ok (.aload_n 0, 1) := by decide +kernel
theorem dX9_does_228 : decode cX9_does 228 = .ok (.iload_n 2, 1) := by decide +kernel
theorem dX9_does_229 : decode cX9_does 229 = .ok (.iload_n 3, 1) := by decide +kernel
theorem dX9_does_230 : decode cX9_does 230 = .ok (.invokevirtual 131, 3) := by decide +kernel
theorem dX9_does_233 : decode cX9_does 233 = .ok (.goto 148, 3) := by decide +kernel
theorem dX9_does_236 : decode cX9_does 236 = .ok (.aload_n 0, 1) := by decide +kernel
theorem dX9_does_237 : decode cX9_does 237 = .ok (.iload_n 2, 1) := by decide +kernel
theorem dX9_does_238 : decode cX9_does 238 = .ok (.iload_n 3, 1) := by decide +kernel
theorem dX9_does_239 : decode cX9_does 239 = .ok (.invokevirtual 134, 3) := by decide +kernel
theorem dX9_does_242 : decode cX9_does 242 = .ok (.istore 4, 2) := by decide +kernel
theorem dX9_does_244 : decode cX9_does 244 = .ok (.iload 4, 2) := by decide +kernel
theorem dX9_does_246 : decode cX9_does 246 = .ok (.ifCond .ne 135, 3) := by decide +kernel
theorem dX9_does_249 : decode cX9_does 249 = .ok (.aload_n 0, 1) := by decide +kernel
theorem dX9_does_250 : decode cX9_does 250 = .ok (.iload_n 2, 1) := by decide +kernel
theorem dX9_does_251 : decode cX9_does 251 = .ok (.iload_n 3, 1) := by decide +kernel
theorem dX9_does_252 : decode cX9_does 252 = .ok (.invokevirtual 137, 3) := by decide +kernel
theorem dX9_does_255 : decode cX9_does 255 = .ok (.goto 126, 3) := by decide +kernel
theorem dX9_does_258 : decode cX9_does 258 = .ok (.aload_n 0, 1) := by decide +kernel
theorem dX9_does_259 : decode cX9_does 259 = .ok (.iload_n 2, 1) := by decide +kernel
theorem dX9_does_260 : decode cX9_does 260 = .ok (.invokevirtual 143, 3) := by decide +kernel
theorem dX9_does_263 : decode cX9_does 263 = .ok (.istore 4, 2) := by decide +kernel
theorem dX9_does_265 : decode cX9_does 265 = .ok (.iload 4, 2) := by decide +kernel
theorem dX9_does_267 : decode cX9_does 267 = .ok (.ifCond .ne 114, 3) := by decide +kernel
theorem dX9_does_270 : decode cX9_does 270 = .ok (.aload_n 0, 1) := by decide +kernel
theorem dX9_does_271 : decode cX9_does 271 = .ok (.iload_n 2, 1) := by decide +kernel
theorem dX9_does_272 : decode cX9_does 272 = .ok (.invokevirtual 146, 3) := by decide +kernel
theorem dX9_does_275 : decode cX9_does 275 = .ok (.goto 106, 3) := by decide +kernel
theorem dX9_does_278 : decode cX9_does 278 = .ok (.aload_n 0, 1) := by decide +kernel
theorem dX9_does_279 : decode cX9_does 279 = .ok (.iload_n 2, 1) := by decide +kernel
theorem dX9_does_280 : decode cX9_does 280 = .ok (.invokevirtual 149, 3) := by decide +kernel
theorem dX9_does_283 : decode cX9_does 283 = .ok (.istore 4, 2) := by decide +kernel
theorem dX9_does_285 : decode cX9_does 285 = .ok (.iload 4, 2) := by decide +kernel
theorem dX9_does_287 : decode cX9_does 287 = .ok (.ifCond .ne 94, 3) := by decide +kernel
theorem dX9_does_290 : decode cX9_does 290 = .ok (.aload_n 0, 1) := by decide +kernel
theorem dX9_does_291 : decode cX9_does 291 = .ok (.iload_n 2, 1) := by decide +kernel
theorem dX9_does_292 : decode cX9_does 292 = .ok (.invokevirtual 152, 3) := by decide +kernel
theorem dX9_does_295 : decode cX9_does 295 = .ok (.goto 86, 3) := by decide +kernel
theorem dX9_does_298 : decode cX9_does 298 = .ok (.aload_n 0, 1) := by decide +kernel
theorem dX9_does_299 : decode cX9_does 299 = .ok (.iload_n 2, 1) := by decide +kernel
theorem dX9_does_300 : decode cX9_does 300 = .ok (.invokevirtual 155, 3) := by decide +kernel
theorem dX9_does_303 : decode cX9_does 303 = .ok (.istore 4, 2) := by decide +kernel
theorem dX9_does_305 : decode cX9_does 305 = .ok (.iload 4, 2) := by decide +kernel
theorem dX9_does_307 : decode cX9_does 307 = .ok (.ifCond .ne 74, 3) := by decide +kernel
theorem dX9_does_310 : decode cX9_does 310 = .ok (.aload_n 0, 1) := by decide +kernel
theorem dX9_does_311 : decode cX9_does 311 = .ok (.iload_n 2, 1) := by decide +kernel
theorem dX9_does_312 : decode cX9_does 312 = .ok (.iconst 4, 1) := by decide +kernel
theorem dX9_does_313 : decode cX9_does 313 = .ok (.iconst 0, 1) := by decide +kernel
theorem dX9_does_314 : decode cX9_does 314 = .ok (.invokevirtual 88, 3) := by decide +kernel
theorem dX9_does_317 : decode cX9_does 317 = .ok (.goto 64, 3) := by decide +kernel
theorem dX9_does_320 : decode cX9_does 320 = .ok (.aload_n 0, 1) := by decide +kernel
theorem dX9_does_321 : decode cX9_does 321 = .ok (.iload_n 2, 1) := by decide +kernel
theorem dX9_does_322 : decode cX9_does 322 = .ok (.invokevirtual 178, 3) := by decide +kernel
theorem dX9_does_325 : decode cX9_does 325 = .ok (.istore 4, 2) := by decide +kernel
theorem dX9_does_327 : decode cX9_does 327 = .ok (.iload 4, 2) := by decide +kernel
theorem dX9_does_329 : decode cX9_does 329 = .ok (.ifCond .ne 52, 3) := by decide +kernel
theorem dX9_does_332 : decode cX9_does 332 = .ok (.aload_n 0, 1) := by decide +kernel
theorem dX9_does_333 : decode cX9_does 333 = .ok (.iload_n 2, 1) := by decide +kernel
theorem dX9_does_334 : decode cX9_does 334 = .ok (.invokevirtual 181, 3) := by decide +kernel
theorem dX9_does_337 : decode cX9_does 337 = .ok (.goto 44, 3) := by decide +kernel
theorem dX9_does_340 : decode cX9_does 340 = .ok (.iload_n 2, 1) := by decide +kernel
theorem dX9_does_341 : decode cX9_does 341 = .ok (.iconst 1, 1) := by decide +kernel
theorem dX9_does_342 : decode cX9_does 342 = .ok (.bipush 99, 2) := by decide +kernel
theorem dX9_does_344 : decode cX9_does 344 = .ok (.invokestatic 54, 3) := by decide +kernel
theorem dX9_does_347 : decode cX9_does 347 = .ok (.ifCond .eq 7, 3) := by decide +kernel
theorem dX9_does_350 : decode cX9_does 350 = .ok (.iconst 0, 1) := by decide +kernel
theorem dX9_does_351 : decode cX9_does 351 = .ok (.goto 4, 3) := by decide +kernel
theorem dX9_does_354 : decode cX9_does 354 = .ok (.iconst 1, 1) := by decide +kernel
theorem dX9_does_355 : decode cX9_does 355 = .ok (.istore 4, 2) := by decide +kernel
theorem dX9_does_357 : decode cX9_does 357 = .ok (.iload 4, 2) := by decide +kernel
theorem dX9_does_359 : decode cX9_does 359 = .ok (.ifCond .ne 22, 3) := by decide +kernel
theorem dX9_does_362 : decode cX9_does 362 = .ok (.aload_n 0, 1) := by decide +kernel
theorem dX9_does_363 : decode cX9_does 363 = .ok (.iload_n 2, 1) := by decide +kernel
theorem dX9_does_364 : decode cX9_does 364 = .ok (.invokevirtual 202, 3) := by decide +kernel
theorem dX9_does_367 : decode cX9_does 367 = .ok (.istore 6, 2) := by decide +kernel
theorem dX9_does_369 : decode cX9_does 369 = .ok (.iload 6, 2) := by decide +kernel
theorem dX9_does_371 : decode cX9_does 371 = .ok (.ifCond .ge 7, 3) := by decide +kernel
theorem dX9_does_374 : decode cX9_does 374 = .ok (.iconst 1, 1) := by decide +kernel
theorem dX9_does_375 : decode cX9_does 375 = .ok (.goto 4, 3) := by decide +kernel
theorem dX9_does_378 : decode cX9_does 378 = .ok (.iconst 0, 1) := by decide +kernel
theorem dX9_does_379 : decode cX9_does 379 = .ok (.istore 4, 2) := by decide +kernel
theorem dX9_does_381 : decode cX9_does 381 = .ok (.iload 4, 2) := by decide +kernel
theorem dX9_does_383 : decode cX9_does 383 = .ok (.ifCond .ne 7, 3) := by decide +kernel
theorem dX9_does_386 : decode cX9_does 386 = .ok (.iconst 1, 1) := by decide +kernel
theorem dX9_does_387 : decode cX9_does 387 = .ok (.goto 4, 3) := by decide +kernel
theorem dX9_does_390 : decode cX9_does 390 = .ok (.iconst 0, 1) := by decide +kernel
theorem dX9_does_391 : decode cX9_does 391 = .ok (.ireturn, 1) := by decide +kernel
theorem dX9_run_0 : decode cX9_run 0 = .ok (.aload_n 0, 1) := by decide +kernel
theorem dX9_run_1 : decode cX9_run 1 = .ok (.aload_n 0, 1) := by decide +kernel
theorem dX9_run_2 : decode cX9_run 2 = .ok (.invokevirtual 242, 3) := by decide +kernel
theorem dX9_run_5 : decode cX9_run 5 = .ok (.iconst (-1), 1) := by decide +kernel
theorem dX9_run_6 : decode cX9_run 6 = .ok (.if_icmp .eq 7, 3) := by decide +kernel
theorem dX9_run_9 : decode cX9_run 9 = .ok (.iconst 1, 1) := by decide +kernel
theorem dX9_run_10 : decode cX9_run 10 = .ok (.goto 4, 3) := by decide +kernel
theorem dX9_run_13 : decode cX9_run 13 = .ok (.iconst 0, 1) := by decide +kernel
theorem dX9_run_14 : decode cX9_run 14 = .ok (.putfield 48, 3) := by decide +kernel
theorem dX9_run_17 : decode cX9_run 17 = .ok (.aload_n 0, 1) := by decide +kernel
theorem dX9_run_18 : decode cX9_run 18 = .ok (.getfield 48, 3) := by decide +kernel
theorem dX9_run_21 : decode cX9_run 21 = .ok (.ifCond .le 5, 3) := by decide +kernel
theorem dX9_run_24 : decode cX9_run 24 = .ok (.iconst 0, 1) := by decide +kernel
theorem dX9_run_25 : decode cX9_run 25 = .ok (.ireturn, 1) := by decide +kernel
theorem dX9_run_26 : decode cX9_run 26 = .ok (.aload_n 0, 1) := by decide +kernel
theorem dX9_run_27 : decode cX9_run 27 = .ok (.invokevirtual 66, 3) := by decide +kernel
theorem dX9_run_30 : decode cX9_run 30 = .ok (.iconst 0, 1) := by decide +kernel
theorem dX9_run_31 : decode cX9_run 31 = .ok (.istore_n 1, 1) := by decide +kernel
theorem dX9_run_32 : decode cX9_run 32 = .ok (.aload_n 0, 1) := by decide +kernel
theorem dX9_run_33 : decode cX9_run 33 = .ok (.iconst 0, 1) := by decide +kernel
theorem dX9_run_34 : decode cX9_run 34 = .ok (.putfield 223, 3) := by decide +kernel
theorem dX9_run_37 : decode cX9_run 37 = .ok (.aload_n 0, 1) := by decide +kernel
theorem dX9_run_38 : decode cX9_run 38 = .ok (.getfield 223, 3) := by decide +kernel
theorem dX9_run_41 : decode cX9_run 41 = .ok (.aload_n 0, 1) := by decide +kernel
theorem dX9_run_42 : decode cX9_run 42 = .ok (.getfield 217, 3) := by decide +kernel
theorem dX9_run_45 : decode cX9_run 45 = .ok (.if_icmp .ge 49, 3) := by decide +kernel
theorem dX9_run_48 : decode cX9_run 48 = .ok (.aload_n 0, 1) := by decide +kernel
theorem dX9_run_49 : decode cX9_run 49 = .ok (.aload_n 0, 1) := by decide +kernel
theorem dX9_run_50 : decode cX9_run 50 = .ok (.getfield 223, 3) := by decide +kernel
theorem dX9_run_53 : decode cX9_run 53 = .ok (.invokevirtual 226, 3) := by decide +kernel
theorem dX9_run_56 : decode cX9_run 56 = .ok (.istore_n 2, 1) := by decide +kernel
theorem dX9_run_57 : decode cX9_run 57 = .ok (.aload_n 0, 1) := by decide +kernel
theorem dX9_run_58 : decode cX9_run 58 = .ok (.iload_n 2, 1) := by decide +kernel
theorem dX9_run_59 : decode cX9_run 59 = .ok (.invokevirtual 239, 3) := by decide +kernel
theorem dX9_run_62 : decode cX9_run 62 = .ok (.istore_n 3, 1) := by decide +kernel
theorem dX9_run_63 : decode cX9_run 63 = .ok (.iload_n 1, 1) := by decide +kernel
theorem dX9_run_64 : decode cX9_run 64 = .ok (.iload_n 3, 1) := by decide +kernel
theorem dX9_run_65 : decode cX9_run 65 = .ok (.ifCond .eq 23, 3) := by decide +kernel
theorem dX9_run_68 : decode cX9_run 68 = .ok (.aload_n 0, 1) := by decide +kernel
theorem dX9_run_69 : decode cX9_run 69 = .ok (.iload_n 2, 1) := by decide +kernel
theorem dX9_run_70 : decode cX9_run 70 = .ok (.aload_n 0, 1) := by decide +kernel
theorem dX9_run_71 : decode cX9_run 71 = .ok (.getfield 220, 3) := by decide +kernel
theorem dX9_run_74 : decode cX9_run 74 = .ok (.aload_n 0, 1) := by decide +kernel
theorem dX9_run_75 : decode cX9_run 75 = .ok (.getfield 236, 3) := by decide +kernel
theorem dX9_run_78 : decode cX9_run 78 = .ok (.invokevirtual 245, 3) := by decide +kernel
theorem dX9_run_81 : decode cX9_run 81 = .ok (.ifCond .eq 7, 3) := by decide +kernel
theorem dX9_run_84 : decode cX9_run 84 = .ok (.iconst 1, 1) := by decide +kernel
theorem dX9_run_85 : decode cX9_run 85 = .ok (.goto 4, 3) := by decide +kernel
theorem dX9_run_88 : decode cX9_run 88 = .ok (.iconst 0, 1) := by decide +kernel
theorem dX9_run_89 : decode cX9_run 89 = .ok (.iadd, 1) := by decide +kernel
theorem dX9_run_90 : decode cX9_run 90 = .ok (.istore_n 1, 1) := by decide +kernel
theorem dX9_run_91 : decode cX9_run 91 = .ok (.goto (-54), 3) := by decide +kernel
theorem dX9_run_94 : decode cX9_run 94 = .ok (.aload_n 0, 1) := by decide +kernel
theorem dX9_run_95 : decode cX9_run 95 = .ok (.invokevirtual 69, 3) := by decide +kernel
theorem dX9_run_98 : decode cX9_run 98 = .ok (.iload_n 1, 1) := by decide +kernel
theorem dX9_run_99 : decode cX9_run 99 = .ok (.ireturn, 1) := by decide +kernel
theorem dX9_mixes_0 : decode cX9_mixes 0 = .ok (.aload_n 0, 1) := by decide +kernel
theorem dX9_mixes_1 : decode cX9_mixes 1 = .ok (.ldc2_w 248, 3) := by decide +kernel
theorem dX9_mixes_4 : decode cX9_mixes 4 = .ok (.aload_n 0, 1) := by decide +kernel
theorem dX9_mixes_5 : decode cX9_mixes 5 = .ok (.getfield 250, 3) := by decide +kernel
theorem dX9_mixes_8 : decode cX9_mixes 8 = .ok (.lmul, 1) := by decide +kernel
theorem dX9_mixes_9 : decode cX9_mixes 9 = .ok (.iload_n 1, 1) := by decide +kernel
theorem dX9_mixes_10 : decode cX9_mixes 10 = .ok (.i2l, 1) := by decide +kernel
theorem dX9_mixes_11 : decode cX9_mixes 11 = .ok (.ladd, 1) := by decide +kernel
theorem dX9_mixes_12 : decode cX9_mixes 12 = .ok (.putfield 250, 3) := by decide +kernel
theorem dX9_mixes_15 : decode cX9_mixes 15 = .ok (.return_, 1) := by decide +kernel
theorem dX9_checksum_0 : decode cX9_checksum 0 = .ok (.aload_n 0, 1) := by decide +kernel
theorem dX9_checksum_1 : decode cX9_checksum 1 = .ok (.iconst 0, 1) := by decide +kernel
theorem dX9_checksum_2 : decode cX9_checksum 2 = .ok (.putfield 48, 3) := by decide +kernel
theorem dX9_checksum_5 : decode cX9_checksum 5 = .ok (.aload_n 0, 1) := by decide +kernel
theorem dX9_checksum_6 : decode cX9_checksum 6 = .ok (.ldc2_w 254, 3) := by decide +kernel
theorem dX9_checksum_9 : decode cX9_checksum 9 = .ok (.putfield 250, 3) := by decide +kernel
theorem dX9_checksum_12 : decode cX9_checksum 12 = .ok (.aload_n 0, 1) := by decide +kernel
theorem dX9_checksum_13 : decode cX9_checksum 13 = .ok (.aload_n 0, 1) := by decide +kernel
theorem dX9_checksum_14 : decode cX9_checksum 14 = .ok (.getfield 7, 3) := by decide +kernel
theorem dX9_checksum_17 : decode cX9_checksum 17 = .ok (.iconst 0, 1) := by decide +kernel
theorem dX9_checksum_18 : decode cX9_checksum 18 = .ok (.iaload, 1) := by decide +kernel
theorem dX9_checksum_19 : decode cX9_checksum 19 = .ok (.invokevirtual 256, 3) := by decide +kernel
theorem dX9_checksum_22 : decode cX9_checksum 22 = .ok (.iconst 0, 1) := by decide +kernel
theorem dX9_checksum_23 : decode cX9_checksum 23 = .ok (.istore_n 1, 1) := by decide +kernel
theorem dX9_checksum_24 : decode cX9_checksum 24 = .ok (.iload_n 1, 1) := by decide +kernel
theorem dX9_checksum_25 : decode cX9_checksum 25 = .ok (.aload_n 0, 1) := by decide +kernel
theorem dX9_checksum_26 : decode cX9_checksum 26 = .ok (.getfield 7, 3) := by decide +kernel
theorem dX9_checksum_29 : decode cX9_checksum 29 = .ok (.iconst 0, 1) := by decide +kernel
theorem dX9_checksum_30 : decode cX9_checksum 30 = .ok (.iaload, 1) := by decide +kernel
theorem dX9_checksum_31 : decode cX9_checksum 31 = .ok (.if_icmp .ge 21, 3) := by decide +kernel
theorem dX9_checksum_34 : decode cX9_checksum 34 = .ok (.aload_n 0, 1) := by decide +kernel
theorem dX9_checksum_35 : decode cX9_checksum 35 = .ok (.aload_n 0, 1) := by decide +kernel
theorem dX9_checksum_36 : decode cX9_checksum 36 = .ok (.getfield 7, 3) := by decide +kernel
theorem dX9_checksum_39 : decode cX9_checksum 39 = .ok (.iconst 1, 1) := by decide +kernel
theorem dX9_checksum_40 : decode cX9_checksum 40 = .ok (.iload_n 1, 1) := by decide +kernel
theorem dX9_checksum_41 : decode cX9_checksum 41 = .ok (.iadd, 1) := by decide +kernel
theorem dX9_checksum_42 : decode cX9_checksum 42 = .ok (.iaload, 1) := by decide +kernel
theorem dX9_checksum_43 : decode cX9_checksum 43 = .ok (.invokevirtual 256, 3) := by decide +kernel
theorem dX9_checksum_46 : decode cX9_checksum 46 = .ok (.iinc 1 1, 3) := by decide +kernel
theorem dX9_checksum_49 : decode cX9_checksum 49 = .ok (.goto (-25), 3) := by decide +kernel
theorem dX9_checksum_52 : decode cX9_checksum 52 = .ok (.aload_n 0, 1) := by decide +kernel
theorem dX9_checksum_53 : decode cX9_checksum 53 = .ok (.aload_n 0, 1) := by decide +kernel
theorem dX9_checksum_54 : decode cX9_checksum 54 = .ok (.invokevirtual 158, 3) := by decide +kernel
theorem dX9_checksum_57 : decode cX9_checksum 57 = .ok (.invokevirtual 256, 3) := by decide +kernel
theorem dX9_checksum_60 : decode cX9_checksum 60 = .ok (.iconst 0, 1) := by decide +kernel
theorem dX9_checksum_61 : decode cX9_checksum 61 = .ok (.istore_n 1, 1) := by decide +kernel
theorem dX9_checksum_62 : decode cX9_checksum 62 = .ok (.iload_n 1, 1) := by decide +kernel
theorem dX9_checksum_63 : decode cX9_checksum 63 = .ok (.bipush 10, 2) := by decide +kernel
theorem dX9_checksum_65 : decode cX9_checksum 65 = .ok (.if_icmp .ge 41, 3) := by decide +kernel
theorem dX9_checksum_68 : decode cX9_checksum 68 = .ok (.iconst 0, 1) := by decide +kernel
theorem dX9_checksum_69 : decode cX9_checksum 69 = .ok (.istore_n 2, 1) := by decide +kernel
theorem dX9_checksum_70 : decode cX9_checksum 70 = .ok (.iload_n 2, 1) := by decide +kernel
theorem dX9_checksum_71 : decode cX9_checksum 71 = .ok (.bipush 7, 2) := by decide +kernel
theorem dX9_checksum_73 : decode cX9_checksum 73 = .ok (.if_icmp .ge 27, 3) := by decide +kernel
theorem dX9_checksum_76 : decode cX9_checksum 76 = .ok (.aload_n 0, 1) := by decide +kernel
theorem dX9_checksum_77 : decode cX9_checksum 77 = .ok (.iload_n 1, 1) := by decide +kernel
theorem dX9_checksum_78 : decode cX9_checksum 78 = .ok (.invokevirtual 72, 3) := by decide +kernel
theorem dX9_checksum_81 : decode cX9_checksum 81 = .ok (.ifCond .eq 19, 3) := by decide +kernel
theorem dX9_checksum_84 : decode cX9_checksum 84 = .ok (.aload_n 0, 1) := by decide +kernel
theorem dX9_checksum_85 : decode cX9_checksum 85 = .ok (.aload_n 0, 1) := by decide +kernel
theorem dX9_checksum_86 : decode cX9_checksum 86 = .ok (.iload_n 1, 1) := by decide +kernel
theorem dX9_checksum_87 : decode cX9_checksum 87 = .ok (.iload_n 2, 1) := by decide +kernel
theorem dX9_checksum_88 : decode cX9_checksum 88 = .ok (.invokevirtual 162, 3) := by decide +kernel
theorem dX9_checksum_91 : decode cX9_checksum 91 = .ok (.invokevirtual 256, 3) := by decide +kernel
theorem dX9_checksum_94 : decode cX9_checksum 94 = .ok (.iinc 2 1, 3) := by decide +kernel
theorem dX9_checksum_97 : decode cX9_checksum 97 = .ok (.goto (-27), 3) := by decide +kernel
theorem dX9_checksum_100 : decode cX9_checksum 100 = .ok (.iinc 1 1, 3) := by decide +kernel
theorem dX9_checksum_103 : decode cX9_checksum 103 = .ok (.goto (-41), 3) := by decide +kernel
theorem dX9_checksum_106 : decode cX9_checksum 106 = .ok (.aload_n 0, 1) := by decide +kernel
theorem dX9_checksum_107 : decode cX9_checksum 107 = .ok (.aload_n 0, 1) := by decide +kernel
theorem dX9_checksum_108 : decode cX9_checksum 108 = .ok (.getfield 7, 3) := by decide +kernel
theorem dX9_checksum_111 : decode cX9_checksum 111 = .ok (.bipush 17, 2) := by decide +kernel
theorem dX9_checksum_113 : decode cX9_checksum 113 = .ok (.iaload, 1) := by decide +kernel
theorem dX9_checksum_114 : decode cX9_checksum 114 = .ok (.invokevirtual 256, 3) := by decide +kernel
theorem dX9_checksum_117 : decode cX9_checksum 117 = .ok (.aload_n 0, 1) := by decide +kernel
theorem dX9_checksum_118 : decode cX9_checksum 118 = .ok (.aload_n 0, 1) := by decide +kernel
theorem dX9_checksum_119 : decode cX9_checksum 119 = .ok (.getfield 7, 3) := by decide +kernel
theorem dX9_checksum_122 : decode cX9_checksum 122 = .ok (.bipush 18, 2) := by decide +kernel
theorem dX9_checksum_124 : decode cX9_checksum 124 = .ok (.iaload, 1) := by decide +kernel
theorem dX9_checksum_125 : decode cX9_checksum 125 = .ok (.invokevirtual 256, 3) := by decide +kernel
theorem dX9_checksum_128 : decode cX9_checksum 128 = .ok (.aload_n 0, 1) := by decide +kernel
theorem dX9_checksum_129 : decode cX9_checksum 129 = .ok (.aload_n 0, 1) := by decide +kernel
theorem dX9_checksum_130 : decode cX9_checksum 130 = .ok (.getfield 7, 3) := by decide +kernel
theorem dX9_checksum_133 : decode cX9_checksum 133 = .ok (.bipush 19, 2) := by decide +kernel
theorem dX9_checksum_135 : decode cX9_checksum 135 = .ok (.iaload, 1) := by decide +kernel
theorem dX9_checksum_136 : decode cX9_checksum 136 = .ok (.invokevirtual 256, 3) := by decide +kernel
theorem dX9_checksum_139 : decode cX9_checksum 139 = .ok (.aload_n 0, 1) := by decide +kernel
theorem dX9_checksum_140 : decode cX9_checksum 140 = .ok (.aload_n 0, 1) := by decide +kernel
theorem dX9_checksum_141 : decode cX9_checksum 141 = .ok (.getfield 7, 3) := by decide +kernel
theorem dX9_checksum_144 : decode cX9_checksum 144 = .ok (.bipush 92, 2) := by decide +kernel
theorem dX9_checksum_146 : decode cX9_checksum 146 = .ok (.iaload, 1) := by decide +kernel
theorem dX9_checksum_147 : decode cX9_checksum 147 = .ok (.invokevirtual 256, 3) := by decide +kernel
theorem dX9_checksum_150 : decode cX9_checksum 150 = .ok (.iconst 0, 1) := by decide +kernel
theorem dX9_checksum_151 : decode cX9_checksum 151 = .ok (.istore_n 1, 1) := by decide +kernel
theorem dX9_checksum_152 : decode cX9_checksum 152 = .ok (.iload_n 1, 1) := by decide +kernel
theorem dX9_checksum_153 : decode cX9_checksum 153 = .ok (.aload_n 0, 1) := by decide +kernel
theorem dX9_checksum_154 : decode cX9_checksum 154 = .ok (.getfield 7, 3) := by decide +kernel
theorem dX9_checksum_157 : decode cX9_checksum 157 = .ok (.bipush 92, 2) := by decide +kernel
theorem dX9_checksum_159 : decode cX9_checksum 159 = .ok (.iaload, 1) := by decide +kernel
theorem dX9_checksum_160 : decode cX9_checksum 160 = .ok (.if_icmp .ge 32, 3) := by decide +kernel
theorem dX9_checksum_163 : decode cX9_checksum 163 = .ok (.iconst 0, 1) := by decide +kernel
theorem dX9_checksum_164 : decode cX9_checksum 164 = .ok (.istore_n 2, 1) := by decide +kernel
theorem dX9_checksum_165 : decode cX9_checksum 165 = .ok (.iload_n 2, 1) := by decide +kernel
theorem dX9_checksum_166 : decode cX9_checksum 166 = .ok (.iconst 5, 1) := by decide +kernel
theorem dX9_checksum_167 : decode cX9_checksum 167 = .ok (.if_icmp .ge 19, 3) := by decide +kernel
theorem dX9_checksum_170 : decode cX9_checksum 170 = .ok (.aload_n 0, 1) := by decide +kernel
theorem dX9_checksum_171 : decode cX9_checksum 171 = .ok (.aload_n 0, 1) := by decide +kernel
theorem dX9_checksum_172 : decode cX9_checksum 172 = .ok (.iload_n 1, 1) := by decide +kernel
theorem dX9_checksum_173 : decode cX9_checksum 173 = .ok (.iload_n 2, 1) := by decide +kernel
theorem dX9_checksum_174 : decode cX9_checksum 174 = .ok (.invokevirtual 205, 3) := by decide +kernel
theorem dX9_checksum_177 : decode cX9_checksum 177 = .ok (.invokevirtual 256, 3) := by decide +kernel
theorem dX9_checksum_180 : decode cX9_checksum 180 = .ok (.iinc 2 1, 3) := by decide +kernel
theorem dX9_checksum_183 : decode cX9_checksum 183 = .ok (.goto (-18), 3) := by decide +kernel
theorem dX9_checksum_186 : decode cX9_checksum 186 = .ok (.iinc 1 1, 3) := by decide +kernel
theorem dX9_checksum_189 : decode cX9_checksum 189 = .ok (.goto (-37), 3) := by decide +kernel
theorem dX9_checksum_192 : decode cX9_checksum 192 = .ok (.aload_n 0, 1) := by decide +kernel
theorem dX9_checksum_193 : decode cX9_checksum 193 = .ok (.aload_n 0, 1) := by decide +kernel
theorem dX9_checksum_194 : decode cX9_checksum 194 = .ok (.sipush 1023, 3) := by decide +kernel
theorem dX9_checksum_197 : decode cX9_checksum 197 = .ok (.invokevirtual 196, 3) := by decide +kernel
theorem dX9_checksum_200 : decode cX9_checksum 200 = .ok (.invokevirtual 256, 3) := by decide +kernel
theorem dX9_checksum_203 : decode cX9_checksum 203 = .ok (.aload_n 0, 1) := by decide +kernel
theorem dX9_checksum_204 : decode cX9_checksum 204 = .ok (.aload_n 0, 1) := by decide +kernel
theorem dX9_checksum_205 : decode cX9_checksum 205 = .ok (.invokevirtual 211, 3) := by decide +kernel
theorem dX9_checksum_208 : decode cX9_checksum 208 = .ok (.invokevirtual 256, 3) := by decide +kernel
theorem dX9_checksum_211 : decode cX9_checksum 211 = .ok (.aload_n 0, 1) := by decide +kernel
theorem dX9_checksum_212 : decode cX9_checksum 212 = .ok (.aload_n 0, 1) := by decide +kernel
theorem dX9_checksum_213 : decode cX9_checksum 213 = .ok (.getfield 217, 3) := by decide +kernel
theorem dX9_checksum_216 : decode cX9_checksum 216 = .ok (.invokevirtual 256, 3) := by decide +kernel
theorem dX9_checksum_219 : decode cX9_checksum 219 = .ok (.aload_n 0, 1) := by decide +kernel
theorem dX9_checksum_220 : decode cX9_checksum 220 = .ok (.aload_n 0, 1) := by decide +kernel
theorem dX9_checksum_221 : decode cX9_checksum 221 = .ok (.getfield 51, 3) := by decide +kernel
theorem dX9_checksum_224 : decode cX9_checksum 224 = .ok (.invokevirtual 256, 3) := by decide +kernel
theorem dX9_checksum_227 : decode cX9_checksum 227 = .ok (.aload_n 0, 1) := by decide +kernel
theorem dX9_checksum_228 : decode cX9_checksum 228 = .ok (.getfield 250, 3) := by decide +kernel
theorem dX9_checksum_231 : decode cX9_checksum 231 = .ok (.lreturn, 1) := by decide +kernel
