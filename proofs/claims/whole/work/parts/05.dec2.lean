theorem dX8_init_0 : decode cX8_init 0 = .ok (.aload_n 0, 1) := by decide +kernel
theorem dX8_init_1 : decode cX8_init 1 = .ok (.invokespecial 1, 3) := by decide +kernel
theorem dX8_init_4 : decode cX8_init 4 = .ok (.aload_n 0, 1) := by decide +kernel
theorem dX8_init_5 : decode cX8_init 5 = .ok (.new 7, 3) := by decide +kernel
theorem dX8_init_8 : decode cX8_init 8 = .ok (.dup, 1) := by decide +kernel
theorem dX8_init_9 : decode cX8_init 9 = .ok (.invokespecial 9, 3) := by decide +kernel
theorem dX8_init_12 : decode cX8_init 12 = .ok (.putfield 10, 3) := by decide +kernel
theorem dX8_init_15 : decode cX8_init 15 = .ok (.aload_n 0, 1) := by decide +kernel
theorem dX8_init_16 : decode cX8_init 16 = .ok (.new 7, 3) := by decide +kernel
theorem dX8_init_19 : decode cX8_init 19 = .ok (.dup, 1) := by decide +kernel
theorem dX8_init_20 : decode cX8_init 20 = .ok (.invokespecial 9, 3) := by decide +kernel
theorem dX8_init_23 : decode cX8_init 23 = .ok (.putfield 16, 3) := by decide +kernel
theorem dX8_init_26 : decode cX8_init 26 = .ok (.aload_n 0, 1) := by decide +kernel
theorem dX8_init_27 : decode cX8_init 27 = .ok (.new 19, 3) := by decide +kernel
theorem dX8_init_30 : decode cX8_init 30 = .ok (.dup, 1) := by decide +kernel
theorem dX8_init_31 : decode cX8_init 31 = .ok (.invokespecial 21, 3) := by decide +kernel
theorem dX8_init_34 : decode cX8_init 34 = .ok (.putfield 22, 3) := by decide +kernel
theorem dX8_init_37 : decode cX8_init 37 = .ok (.aload_n 0, 1) := by decide +kernel
theorem dX8_init_38 : decode cX8_init 38 = .ok (.new 26, 3) := by decide +kernel
theorem dX8_init_41 : decode cX8_init 41 = .ok (.dup, 1) := by decide +kernel
theorem dX8_init_42 : decode cX8_init 42 = .ok (.invokespecial 28, 3) := by decide +kernel
theorem dX8_init_45 : decode cX8_init 45 = .ok (.putfield 29, 3) := by decide +kernel
theorem dX8_init_48 : decode cX8_init 48 = .ok (.aload_n 0, 1) := by decide +kernel
theorem dX8_init_49 : decode cX8_init 49 = .ok (.new 33, 3) := by decide +kernel
theorem dX8_init_52 : decode cX8_init 52 = .ok (.dup, 1) := by decide +kernel
theorem dX8_init_53 : decode cX8_init 53 = .ok (.aload_n 0, 1) := by decide +kernel
theorem dX8_init_54 : decode cX8_init 54 = .ok (.getfield 10, 3) := by decide +kernel
theorem dX8_init_57 : decode cX8_init 57 = .ok (.aload_n 0, 1) := by decide +kernel
theorem dX8_init_58 : decode cX8_init 58 = .ok (.getfield 22, 3) := by decide +kernel
theorem dX8_init_61 : decode cX8_init 61 = .ok (.aload_n 0, 1) := by decide +kernel
theorem dX8_init_62 : decode cX8_init 62 = .ok (.getfield 29, 3) := by decide +kernel
theorem dX8_init_65 : decode cX8_init 65 = .ok (.invokespecial 35, 3) := by decide +kernel
theorem dX8_init_68 : decode cX8_init 68 = .ok (.putfield 38, 3) := by decide +kernel
theorem dX8_init_71 : decode cX8_init 71 = .ok (.aload_n 0, 1) := by decide +kernel
theorem dX8_init_72 : decode cX8_init 72 = .ok (.new 42, 3) := by decide +kernel
theorem dX8_init_75 : decode cX8_init 75 = .ok (.dup, 1) := by decide +kernel
theorem dX8_init_76 : decode cX8_init 76 = .ok (.invokespecial 44, 3) := by decide +kernel
theorem dX8_init_79 : decode cX8_init 79 = .ok (.putfield 45, 3) := by decide +kernel
theorem dX8_init_82 : decode cX8_init 82 = .ok (.aload_n 0, 1) := by decide +kernel
theorem dX8_init_83 : decode cX8_init 83 = .ok (.new 49, 3) := by decide +kernel
theorem dX8_init_86 : decode cX8_init 86 = .ok (.dup, 1) := by decide +kernel
theorem dX8_init_87 : decode cX8_init 87 = .ok (.invokespecial 51, 3) := by decide +kernel
theorem dX8_init_90 : decode cX8_init 90 = .ok (.putfield 52, 3) := by decide +kernel
theorem dX8_init_93 : decode cX8_init 93 = .ok (.return_, 1) := by decide +kernel
theorem dX8_addResource_0 : decode cX8_addResource 0 = .ok (.iload_n 1, 1) := by decide +kernel
theorem dX8_addResource_1 : decode cX8_addResource 1 = .ok (.iconst (-1), 1) := by decide +kernel
theorem dX8_addResource_2 : decode cX8_addResource 2 = .ok (.if_icmp .eq 17, 3) := by decide +kernel
theorem dX8_addResource_5 : decode cX8_addResource 5 = .ok (.aload_n 0, 1) := by decide +kernel
theorem dX8_addResource_6 : decode cX8_addResource 6 = .ok (.getfield 10, 3) := by decide +kernel
theorem dX8_addResource_9 : decode cX8_addResource 9 = .ok (.getfield 56, 3) := by decide +kernel
theorem dX8_addResource_12 : decode cX8_addResource 12 = .ok (.iload_n 1, 1) := by decide +kernel
theorem dX8_addResource_13 : decode cX8_addResource 13 = .ok (.invokevirtual 60, 3) := by decide +kernel
theorem dX8_addResource_16 : decode cX8_addResource 16 = .ok (.ifCond .eq 7, 3) := by decide +kernel
theorem dX8_addResource_19 : decode cX8_addResource 19 = .ok (.iconst 1, 1) := by decide +kernel
theorem dX8_addResource_20 : decode cX8_addResource 20 = .ok (.goto 4, 3) := by decide +kernel
theorem dX8_addResource_23 : decode cX8_addResource 23 = .ok (.iconst 0, 1) := by decide +kernel
theorem dX8_addResource_24 : decode cX8_addResource 24 = .ok (.invokestatic 66, 3) := by decide +kernel
theorem dX8_addResource_27 : decode cX8_addResource 27 = .ok (.aload_n 0, 1) := by decide +kernel
theorem dX8_addResource_28 : decode cX8_addResource 28 = .ok (.getfield 10, 3) := by decide +kernel
theorem dX8_addResource_31 : decode cX8_addResource 31 = .ok (.getfield 56, 3) := by decide +kernel
theorem dX8_addResource_34 : decode cX8_addResource 34 = .ok (.getfield 70, 3) := by decide +kernel
theorem dX8_addResource_37 : decode cX8_addResource 37 = .ok (.bipush 16, 2) := by decide +kernel
theorem dX8_addResource_39 : decode cX8_addResource 39 = .ok (.if_icmp .ge 7, 3) := by decide +kernel
theorem dX8_addResource_42 : decode cX8_addResource 42 = .ok (.iconst 1, 1) := by decide +kernel
theorem dX8_addResource_43 : decode cX8_addResource 43 = .ok (.goto 4, 3) := by decide +kernel
theorem dX8_addResource_46 : decode cX8_addResource 46 = .ok (.iconst 0, 1) := by decide +kernel
theorem dX8_addResource_47 : decode cX8_addResource 47 = .ok (.invokestatic 74, 3) := by decide +kernel
theorem dX8_addResource_50 : decode cX8_addResource 50 = .ok (.aload_n 0, 1) := by decide +kernel
theorem dX8_addResource_51 : decode cX8_addResource 51 = .ok (.getfield 45, 3) := by decide +kernel
theorem dX8_addResource_54 : decode cX8_addResource 54 = .ok (.aload_n 0, 1) := by decide +kernel
theorem dX8_addResource_55 : decode cX8_addResource 55 = .ok (.getfield 10, 3) := by decide +kernel
theorem dX8_addResource_58 : decode cX8_addResource 58 = .ok (.invokevirtual 77, 3) := by decide +kernel
theorem dX8_addResource_61 : decode cX8_addResource 61 = .ok (.aload_n 0, 1) := by decide +kernel
theorem dX8_addResource_62 : decode cX8_addResource 62 = .ok (.getfield 10, 3) := by decide +kernel
theorem dX8_addResource_65 : decode cX8_addResource 65 = .ok (.getfield 56, 3) := by decide +kernel
theorem dX8_addResource_68 : decode cX8_addResource 68 = .ok (.iload_n 1, 1) := by decide +kernel
theorem dX8_addResource_69 : decode cX8_addResource 69 = .ok (.invokevirtual 81, 3) := by decide +kernel
theorem dX8_addResource_72 : decode cX8_addResource 72 = .ok (.ireturn, 1) := by decide +kernel
theorem dX8_resources_0 : decode cX8_resources 0 = .ok (.aload_n 0, 1) := by decide +kernel
theorem dX8_resources_1 : decode cX8_resources 1 = .ok (.getfield 10, 3) := by decide +kernel
theorem dX8_resources_4 : decode cX8_resources 4 = .ok (.getfield 56, 3) := by decide +kernel
theorem dX8_resources_7 : decode cX8_resources 7 = .ok (.getfield 70, 3) := by decide +kernel
theorem dX8_resources_10 : decode cX8_resources 10 = .ok (.ireturn, 1) := by decide +kernel
theorem dX8_resource_0 : decode cX8_resource 0 = .ok (.aload_n 0, 1) := by decide +kernel
theorem dX8_resource_1 : decode cX8_resource 1 = .ok (.getfield 10, 3) := by decide +kernel
theorem dX8_resource_4 : decode cX8_resource 4 = .ok (.getfield 56, 3) := by decide +kernel
theorem dX8_resource_7 : decode cX8_resource 7 = .ok (.iload_n 1, 1) := by decide +kernel
theorem dX8_resource_8 : decode cX8_resource 8 = .ok (.invokevirtual 60, 3) := by decide +kernel
theorem dX8_resource_11 : decode cX8_resource 11 = .ok (.invokestatic 66, 3) := by decide +kernel
theorem dX8_resource_14 : decode cX8_resource 14 = .ok (.iload_n 2, 1) := by decide +kernel
theorem dX8_resource_15 : decode cX8_resource 15 = .ok (.iconst 0, 1) := by decide +kernel
theorem dX8_resource_16 : decode cX8_resource 16 = .ok (.iconst 4, 1) := by decide +kernel
theorem dX8_resource_17 : decode cX8_resource 17 = .ok (.invokestatic 85, 3) := by decide +kernel
theorem dX8_resource_20 : decode cX8_resource 20 = .ok (.invokestatic 89, 3) := by decide +kernel
theorem dX8_resource_23 : decode cX8_resource 23 = .ok (.iload_n 2, 1) := by decide +kernel
theorem dX8_resource_24 : decode cX8_resource 24 = .ok (.tableswitch 85 0 3 #[32, 45, 63, 76], 32) := by decide +kernel
theorem dX8_resource_56 : decode cX8_resource 56 = .ok (.aload_n 0, 1) := by decide +kernel
theorem dX8_resource_57 : decode cX8_resource 57 = .ok (.getfield 10, 3) := by decide +kernel
theorem dX8_resource_60 : decode cX8_resource 60 = .ok (.getfield 56, 3) := by decide +kernel
theorem dX8_resource_63 : decode cX8_resource 63 = .ok (.getfield 92, 3) := by decide +kernel
theorem dX8_resource_66 : decode cX8_resource 66 = .ok (.iload_n 1, 1) := by decide +kernel
theorem dX8_resource_67 : decode cX8_resource 67 = .ok (.iaload, 1) := by decide +kernel
theorem dX8_resource_68 : decode cX8_resource 68 = .ok (.ireturn, 1) := by decide +kernel
theorem dX8_resource_69 : decode cX8_resource 69 = .ok (.aload_n 0, 1) := by decide +kernel
theorem dX8_resource_70 : decode cX8_resource 70 = .ok (.getfield 10, 3) := by decide +kernel
theorem dX8_resource_73 : decode cX8_resource 73 = .ok (.getfield 56, 3) := by decide +kernel
theorem dX8_resource_76 : decode cX8_resource 76 = .ok (.getfield 96, 3) := by decide +kernel
theorem dX8_resource_79 : decode cX8_resource 79 = .ok (.iload_n 1, 1) := by decide +kernel
theorem dX8_resource_80 : decode cX8_resource 80 = .ok (.iaload, 1) := by decide +kernel
theorem dX8_resource_81 : decode cX8_resource 81 = .ok (.invokestatic 99, 3) := by decide +kernel
theorem dX8_resource_84 : decode cX8_resource 84 = .ok (.iconst 1, 1) := by decide +kernel
theorem dX8_resource_85 : decode cX8_resource 85 = .ok (.isub, 1) := by decide +kernel
theorem dX8_resource_86 : decode cX8_resource 86 = .ok (.ireturn, 1) := by decide +kernel
theorem dX8_resource_87 : decode cX8_resource 87 = .ok (.aload_n 0, 1) := by decide +kernel
theorem dX8_resource_88 : decode cX8_resource 88 = .ok (.getfield 10, 3) := by decide +kernel
theorem dX8_resource_91 : decode cX8_resource 91 = .ok (.getfield 56, 3) := by decide +kernel
theorem dX8_resource_94 : decode cX8_resource 94 = .ok (.getfield 104, 3) := by decide +kernel
theorem dX8_resource_97 : decode cX8_resource 97 = .ok (.iload_n 1, 1) := by decide +kernel
theorem dX8_resource_98 : decode cX8_resource 98 = .ok (.iaload, 1) := by decide +kernel
theorem dX8_resource_99 : decode cX8_resource 99 = .ok (.ireturn, 1) := by decide +kernel
theorem dX8_resource_100 : decode cX8_resource 100 = .ok (.aload_n 0, 1) := by decide +kernel
theorem dX8_resource_101 : decode cX8_resource 101 = .ok (.getfield 10, 3) := by decide +kernel
theorem dX8_resource_104 : decode cX8_resource 104 = .ok (.iload_n 1, 1) := by decide +kernel
theorem dX8_resource_105 : decode cX8_resource 105 = .ok (.invokevirtual 107, 3) := by decide +kernel
theorem dX8_resource_108 : decode cX8_resource 108 = .ok (.ireturn, 1) := by decide +kernel
theorem dX8_resource_109 : decode cX8_resource 109 = .ok (.aload_n 0, 1) := by decide +kernel
theorem dX8_resource_110 : decode cX8_resource 110 = .ok (.getfield 10, 3) := by decide +kernel
theorem dX8_resource_113 : decode cX8_resource 113 = .ok (.iconst (-1), 1) := by decide +kernel
theorem dX8_resource_114 : decode cX8_resource 114 = .ok (.iload_n 1, 1) := by decide +kernel
theorem dX8_resource_115 : decode cX8_resource 115 = .ok (.invokevirtual 110, 3) := by decide +kernel
theorem dX8_resource_118 : decode cX8_resource 118 = .ok (.ireturn, 1) := by decide +kernel
theorem dX8_overlap_0 : decode cX8_overlap 0 = .ok (.aload_n 0, 1) := by decide +kernel
theorem dX8_overlap_1 : decode cX8_overlap 1 = .ok (.getfield 10, 3) := by decide +kernel
theorem dX8_overlap_4 : decode cX8_overlap 4 = .ok (.getfield 56, 3) := by decide +kernel
theorem dX8_overlap_7 : decode cX8_overlap 7 = .ok (.iload_n 1, 1) := by decide +kernel
theorem dX8_overlap_8 : decode cX8_overlap 8 = .ok (.invokevirtual 60, 3) := by decide +kernel
theorem dX8_overlap_11 : decode cX8_overlap 11 = .ok (.ifCond .eq 21, 3) := by decide +kernel
theorem dX8_overlap_14 : decode cX8_overlap 14 = .ok (.aload_n 0, 1) := by decide +kernel
theorem dX8_overlap_15 : decode cX8_overlap 15 = .ok (.getfield 10, 3) := by decide +kernel
theorem dX8_overlap_18 : decode cX8_overlap 18 = .ok (.getfield 56, 3) := by decide +kernel
theorem dX8_overlap_21 : decode cX8_overlap 21 = .ok (.iload_n 2, 1) := by decide +kernel
theorem dX8_overlap_22 : decode cX8_overlap 22 = .ok (.invokevirtual 60, 3) := by decide +kernel
theorem dX8_overlap_25 : decode cX8_overlap 25 = .ok (.ifCond .eq 7, 3) := by decide +kernel
theorem dX8_overlap_28 : decode cX8_overlap 28 = .ok (.iconst 1, 1) := by decide +kernel
theorem dX8_overlap_29 : decode cX8_overlap 29 = .ok (.goto 4, 3) := by decide +kernel
theorem dX8_overlap_32 : decode cX8_overlap 32 = .ok (.iconst 0, 1) := by decide +kernel
theorem dX8_overlap_33 : decode cX8_overlap 33 = .ok (.invokestatic 66, 3) := by decide +kernel
theorem dX8_overlap_36 : decode cX8_overlap 36 = .ok (.aload_n 0, 1) := by decide +kernel
theorem dX8_overlap_37 : decode cX8_overlap 37 = .ok (.getfield 10, 3) := by decide +kernel
theorem dX8_overlap_40 : decode cX8_overlap 40 = .ok (.getfield 56, 3) := by decide +kernel
theorem dX8_overlap_43 : decode cX8_overlap 43 = .ok (.getfield 96, 3) := by decide +kernel
theorem dX8_overlap_46 : decode cX8_overlap 46 = .ok (.iload_n 1, 1) := by decide +kernel
theorem dX8_overlap_47 : decode cX8_overlap 47 = .ok (.iaload, 1) := by decide +kernel
theorem dX8_overlap_48 : decode cX8_overlap 48 = .ok (.aload_n 0, 1) := by decide +kernel
theorem dX8_overlap_49 : decode cX8_overlap 49 = .ok (.getfield 10, 3) := by decide +kernel
theorem dX8_overlap_52 : decode cX8_overlap 52 = .ok (.getfield 56, 3) := by decide +kernel
theorem dX8_overlap_55 : decode cX8_overlap 55 = .ok (.getfield 104, 3) := by decide +kernel
theorem dX8_overlap_58 : decode cX8_overlap 58 = .ok (.iload_n 1, 1) := by decide +kernel
theorem dX8_overlap_59 : decode cX8_overlap 59 = .ok (.iaload, 1) := by decide +kernel
theorem dX8_overlap_60 : decode cX8_overlap 60 = .ok (.ior, 1) := by decide +kernel
theorem dX8_overlap_61 : decode cX8_overlap 61 = .ok (.iload_n 2, 1) := by decide +kernel
theorem dX8_overlap_62 : decode cX8_overlap 62 = .ok (.invokestatic 114, 3) := by decide +kernel
theorem dX8_overlap_65 : decode cX8_overlap 65 = .ok (.ireturn, 1) := by decide +kernel
theorem dX8_create_0 : decode cX8_create 0 = .ok (.iload_n 1, 1) := by decide +kernel
theorem dX8_create_1 : decode cX8_create 1 = .ok (.iconst 1, 1) := by decide +kernel
theorem dX8_create_2 : decode cX8_create 2 = .ok (.bipush 99, 2) := by decide +kernel
theorem dX8_create_4 : decode cX8_create 4 = .ok (.invokestatic 85, 3) := by decide +kernel
theorem dX8_create_7 : decode cX8_create 7 = .ok (.invokestatic 89, 3) := by decide +kernel
theorem dX8_create_10 : decode cX8_create 10 = .ok (.aload_n 0, 1) := by decide +kernel
theorem dX8_create_11 : decode cX8_create 11 = .ok (.getfield 10, 3) := by decide +kernel
theorem dX8_create_14 : decode cX8_create 14 = .ok (.invokevirtual 118, 3) := by decide +kernel
theorem dX8_create_17 : decode cX8_create 17 = .ok (.iconst (-1), 1) := by decide +kernel
theorem dX8_create_18 : decode cX8_create 18 = .ok (.if_icmp .eq 7, 3) := by decide +kernel
theorem dX8_create_21 : decode cX8_create 21 = .ok (.iconst 1, 1) := by decide +kernel
theorem dX8_create_22 : decode cX8_create 22 = .ok (.goto 4, 3) := by decide +kernel
theorem dX8_create_25 : decode cX8_create 25 = .ok (.iconst 0, 1) := by decide +kernel
theorem dX8_create_26 : decode cX8_create 26 = .ok (.invokestatic 74, 3) := by decide +kernel
theorem dX8_create_29 : decode cX8_create 29 = .ok (.aload_n 0, 1) := by decide +kernel
theorem dX8_create_30 : decode cX8_create 30 = .ok (.getfield 45, 3) := by decide +kernel
theorem dX8_create_33 : decode cX8_create 33 = .ok (.aload_n 0, 1) := by decide +kernel
theorem dX8_create_34 : decode cX8_create 34 = .ok (.getfield 10, 3) := by decide +kernel
theorem dX8_create_37 : decode cX8_create 37 = .ok (.invokevirtual 77, 3) := by decide +kernel
theorem dX8_create_40 : decode cX8_create 40 = .ok (.aload_n 0, 1) := by decide +kernel
theorem dX8_create_41 : decode cX8_create 41 = .ok (.getfield 10, 3) := by decide +kernel
theorem dX8_create_44 : decode cX8_create 44 = .ok (.iload_n 1, 1) := by decide +kernel
theorem dX8_create_45 : decode cX8_create 45 = .ok (.invokevirtual 122, 3) := by decide +kernel
theorem dX8_create_48 : decode cX8_create 48 = .ok (.ireturn, 1) := by decide +kernel
theorem dX8_request_0 : decode cX8_request 0 = .ok (.aload_n 0, 1) := by decide +kernel
theorem dX8_request_1 : decode cX8_request 1 = .ok (.getfield 10, 3) := by decide +kernel
theorem dX8_request_4 : decode cX8_request 4 = .ok (.iload_n 1, 1) := by decide +kernel
theorem dX8_request_5 : decode cX8_request 5 = .ok (.invokevirtual 125, 3) := by decide +kernel
theorem dX8_request_8 : decode cX8_request 8 = .ok (.ifCond .eq 21, 3) := by decide +kernel
theorem dX8_request_11 : decode cX8_request 11 = .ok (.aload_n 0, 1) := by decide +kernel
theorem dX8_request_12 : decode cX8_request 12 = .ok (.getfield 10, 3) := by decide +kernel
theorem dX8_request_15 : decode cX8_request 15 = .ok (.getfield 56, 3) := by decide +kernel
theorem dX8_request_18 : decode cX8_request 18 = .ok (.iload_n 2, 1) := by decide +kernel
theorem dX8_request_19 : decode cX8_request 19 = .ok (.invokevirtual 60, 3) := by decide +kernel
theorem dX8_request_22 : decode cX8_request 22 = .ok (.ifCond .eq 7, 3) := by decide +kernel
theorem dX8_request_25 : decode cX8_request 25 = .ok (.iconst 1, 1) := by decide +kernel
theorem dX8_request_26 : decode cX8_request 26 = .ok (.goto 4, 3) := by decide +kernel
theorem dX8_request_29 : decode cX8_request 29 = .ok (.iconst 0, 1) := by decide +kernel
theorem dX8_request_30 : decode cX8_request 30 = .ok (.invokestatic 66, 3) := by decide +kernel
theorem dX8_request_33 : decode cX8_request 33 = .ok (.aload_n 0, 1) := by decide +kernel
theorem dX8_request_34 : decode cX8_request 34 = .ok (.getfield 10, 3) := by decide +kernel
theorem dX8_request_37 : decode cX8_request 37 = .ok (.iload_n 1, 1) := by decide +kernel
theorem dX8_request_38 : decode cX8_request 38 = .ok (.iconst 0, 1) := by decide +kernel
theorem dX8_request_39 : decode cX8_request 39 = .ok (.invokevirtual 126, 3) := by decide +kernel
theorem dX8_request_42 : decode cX8_request 42 = .ok (.invokestatic 74, 3) := by decide +kernel
theorem dX8_request_45 : decode cX8_request 45 = .ok (.aload_n 0, 1) := by decide +kernel
theorem dX8_request_46 : decode cX8_request 46 = .ok (.getfield 45, 3) := by decide +kernel
theorem dX8_request_49 : decode cX8_request 49 = .ok (.aload_n 0, 1) := by decide +kernel
theorem dX8_request_50 : decode cX8_request 50 = .ok (.getfield 10, 3) := by decide +kernel
theorem dX8_request_53 : decode cX8_request 53 = .ok (.invokevirtual 77, 3) := by decide +kernel
theorem dX8_request_56 : decode cX8_request 56 = .ok (.aload_n 0, 1) := by decide +kernel
theorem dX8_request_57 : decode cX8_request 57 = .ok (.getfield 38, 3) := by decide +kernel
theorem dX8_request_60 : decode cX8_request 60 = .ok (.iload_n 1, 1) := by decide +kernel
theorem dX8_request_61 : decode cX8_request 61 = .ok (.iload_n 2, 1) := by decide +kernel
theorem dX8_request_62 : decode cX8_request 62 = .ok (.invokevirtual 129, 3) := by decide +kernel
theorem dX8_request_65 : decode cX8_request 65 = .ok (.ireturn, 1) := by decide +kernel
theorem dX8_release_0 : decode cX8_release 0 = .ok (.aload_n 0, 1) := by decide +kernel
theorem dX8_release_1 : decode cX8_release 1 = .ok (.getfield 10, 3) := by decide +kernel
theorem dX8_release_4 : decode cX8_release 4 = .ok (.iload_n 1, 1) := by decide +kernel
theorem dX8_release_5 : decode cX8_release 5 = .ok (.invokevirtual 125, 3) := by decide +kernel
theorem dX8_release_8 : decode cX8_release 8 = .ok (.ifCond .eq 21, 3) := by decide +kernel
theorem dX8_release_11 : decode cX8_release 11 = .ok (.aload_n 0, 1) := by decide +kernel
theorem dX8_release_12 : decode cX8_release 12 = .ok (.getfield 10, 3) := by decide +kernel
theorem dX8_release_15 : decode cX8_release 15 = .ok (.getfield 56, 3) := by decide +kernel
theorem dX8_release_18 : decode cX8_release 18 = .ok (.iload_n 2, 1) := by decide +kernel
theorem dX8_release_19 : decode cX8_release 19 = .ok (.invokevirtual 60, 3) := by decide +kernel
theorem dX8_release_22 : decode cX8_release 22 = .ok (.ifCond .eq 7, 3) := by decide +kernel
theorem dX8_release_25 : decode cX8_release 25 = .ok (.iconst 1, 1) := by decide +kernel
theorem dX8_release_26 : decode cX8_release 26 = .ok (.goto 4, 3) := by decide +kernel
theorem dX8_release_29 : decode cX8_release 29 = .ok (.iconst 0, 1) := by decide +kernel
theorem dX8_release_30 : decode cX8_release 30 = .ok (.invokestatic 66, 3) := by decide +kernel
theorem dX8_release_33 : decode cX8_release 33 = .ok (.aload_n 0, 1) := by decide +kernel
theorem dX8_release_34 : decode cX8_release 34 = .ok (.getfield 10, 3) := by decide +kernel
theorem dX8_release_37 : decode cX8_release 37 = .ok (.iload_n 1, 1) := by decide +kernel
theorem dX8_release_38 : decode cX8_release 38 = .ok (.iload_n 2, 1) := by decide +kernel
theorem dX8_release_39 : decode cX8_release 39 = .ok (.invokevirtual 132, 3) := by decide +kernel
theorem dX8_release_42 : decode cX8_release 42 = .ok (.invokestatic 74, 3) := by decide +kernel
theorem dX8_release_45 : decode cX8_release 45 = .ok (.aload_n 0, 1) := by decide +kernel
theorem dX8_release_46 : decode cX8_release 46 = .ok (.getfield 45, 3) := by decide +kernel
theorem dX8_release_49 : decode cX8_release 49 = .ok (.aload_n 0, 1) := by decide +kernel
theorem dX8_release_50 : decode cX8_release 50 = .ok (.getfield 10, 3) := by decide +kernel
theorem dX8_release_53 : decode cX8_release 53 = .ok (.invokevirtual 77, 3) := by decide +kernel
theorem dX8_release_56 : decode cX8_release 56 = .ok (.aload_n 0, 1) := by decide +kernel
theorem dX8_release_57 : decode cX8_release 57 = .ok (.getfield 38, 3) := by decide +kernel
theorem dX8_release_60 : decode cX8_release 60 = .ok (.iload_n 1, 1) := by decide +kernel
theorem dX8_release_61 : decode cX8_release 61 = .ok (.iload_n 2, 1) := by decide +kernel
theorem dX8_release_62 : decode cX8_release 62 = .ok (.invokevirtual 135, 3) := by decide +kernel
theorem dX8_release_65 : decode cX8_release 65 = .ok (.ireturn, 1) := by decide +kernel
theorem dX8_finish_0 : decode cX8_finish 0 = .ok (.aload_n 0, 1) := by decide +kernel
theorem dX8_finish_1 : decode cX8_finish 1 = .ok (.getfield 10, 3) := by decide +kernel
theorem dX8_finish_4 : decode cX8_finish 4 = .ok (.iload_n 1, 1) := by decide +kernel
theorem dX8_finish_5 : decode cX8_finish 5 = .ok (.invokevirtual 125, 3) := by decide +kernel
theorem dX8_finish_8 : decode cX8_finish 8 = .ok (.invokestatic 66, 3) := by decide +kernel
theorem dX8_finish_11 : decode cX8_finish 11 = .ok (.aload_n 0, 1) := by decide +kernel
theorem dX8_finish_12 : decode cX8_finish 12 = .ok (.getfield 10, 3) := by decide +kernel
theorem dX8_finish_15 : decode cX8_finish 15 = .ok (.iload_n 1, 1) := by decide +kernel
theorem dX8_finish_16 : decode cX8_finish 16 = .ok (.iconst 0, 1) := by decide +kernel
theorem dX8_finish_17 : decode cX8_finish 17 = .ok (.invokevirtual 126, 3) := by decide +kernel
theorem dX8_finish_20 : decode cX8_finish 20 = .ok (.invokestatic 74, 3) := by decide +kernel
theorem dX8_finish_23 : decode cX8_finish 23 = .ok (.aload_n 0, 1) := by decide +kernel
theorem dX8_finish_24 : decode cX8_finish 24 = .ok (.getfield 45, 3) := by decide +kernel
theorem dX8_finish_27 : decode cX8_finish 27 = .ok (.aload_n 0, 1) := by decide +kernel
theorem dX8_finish_28 : decode cX8_finish 28 = .ok (.getfield 10, 3) := by decide +kernel
theorem dX8_finish_31 : decode cX8_finish 31 = .ok (.invokevirtual 77, 3) := by decide +kernel
theorem dX8_finish_34 : decode cX8_finish 34 = .ok (.aload_n 0, 1) := by decide +kernel
theorem dX8_finish_35 : decode cX8_finish 35 = .ok (.getfield 38, 3) := by decide +kernel
theorem dX8_finish_38 : decode cX8_finish 38 = .ok (.iload_n 1, 1) := by decide +kernel
theorem dX8_finish_39 : decode cX8_finish 39 = .ok (.invokevirtual 138, 3) := by decide +kernel
theorem dX8_finish_42 : decode cX8_finish 42 = .ok (.ireturn, 1) := by decide +kernel
theorem dX8_abort_0 : decode cX8_abort 0 = .ok (.aload_n 0, 1) := by decide +kernel
theorem dX8_abort_1 : decode cX8_abort 1 = .ok (.getfield 10, 3) := by decide +kernel
theorem dX8_abort_4 : decode cX8_abort 4 = .ok (.iload_n 1, 1) := by decide +kernel
theorem dX8_abort_5 : decode cX8_abort 5 = .ok (.invokevirtual 125, 3) := by decide +kernel
theorem dX8_abort_8 : decode cX8_abort 8 = .ok (.invokestatic 66, 3) := by decide +kernel
theorem dX8_abort_11 : decode cX8_abort 11 = .ok (.aload_n 0, 1) := by decide +kernel
theorem dX8_abort_12 : decode cX8_abort 12 = .ok (.getfield 10, 3) := by decide +kernel
theorem dX8_abort_15 : decode cX8_abort 15 = .ok (.iload_n 1, 1) := by decide +kernel
theorem dX8_abort_16 : decode cX8_abort 16 = .ok (.iconst 2, 1) := by decide +kernel
theorem dX8_abort_17 : decode cX8_abort 17 = .ok (.invokevirtual 126, 3) := by decide +kernel
theorem dX8_abort_20 : decode cX8_abort 20 = .ok (.ifCond .ne 7, 3) := by decide +kernel
theorem dX8_abort_23 : decode cX8_abort 23 = .ok (.iconst 1, 1) := by decide +kernel
theorem dX8_abort_24 : decode cX8_abort 24 = .ok (.goto 4, 3) := by decide +kernel
theorem dX8_abort_27 : decode cX8_abort 27 = .ok (.iconst 0, 1) := by decide +kernel
theorem dX8_abort_28 : decode cX8_abort 28 = .ok (.invokestatic 74, 3) := by decide +kernel
theorem dX8_abort_31 : decode cX8_abort 31 = .ok (.aload_n 0, 1) := by decide +kernel
theorem dX8_abort_32 : decode cX8_abort 32 = .ok (.getfield 45, 3) := by decide +kernel
theorem dX8_abort_35 : decode cX8_abort 35 = .ok (.aload_n 0, 1) := by decide +kernel
theorem dX8_abort_36 : decode cX8_abort 36 = .ok (.getfield 10, 3) := by decide +kernel
theorem dX8_abort_39 : decode cX8_abort 39 = .ok (.invokevirtual 77, 3) := by decide +kernel
theorem dX8_abort_42 : decode cX8_abort 42 = .ok (.aload_n 0, 1) := by decide +kernel
theorem dX8_abort_43 : decode cX8_abort 43 = .ok (.getfield 38, 3) := by decide +kernel
theorem dX8_abort_46 : decode cX8_abort 46 = .ok (.iload_n 1, 1) := by decide +kernel
theorem dX8_abort_47 : decode cX8_abort 47 = .ok (.invokevirtual 141, 3) := by decide +kernel
theorem dX8_abort_50 : decode cX8_abort 50 = .ok (.ireturn, 1) := by decide +kernel
theorem dX8_restart_0 : decode cX8_restart 0 = .ok (.aload_n 0, 1) := by decide +kernel
theorem dX8_restart_1 : decode cX8_restart 1 = .ok (.getfield 10, 3) := by decide +kernel
theorem dX8_restart_4 : decode cX8_restart 4 = .ok (.iload_n 1, 1) := by decide +kernel
theorem dX8_restart_5 : decode cX8_restart 5 = .ok (.invokevirtual 125, 3) := by decide +kernel
theorem dX8_restart_8 : decode cX8_restart 8 = .ok (.invokestatic 66, 3) := by decide +kernel
theorem dX8_restart_11 : decode cX8_restart 11 = .ok (.aload_n 0, 1) := by decide +kernel
theorem dX8_restart_12 : decode cX8_restart 12 = .ok (.getfield 10, 3) := by decide +kernel
theorem dX8_restart_15 : decode cX8_restart 15 = .ok (.iload_n 1, 1) := by decide +kernel
theorem dX8_restart_16 : decode cX8_restart 16 = .ok (.iconst 2, 1) := by decide +kernel
theorem dX8_restart_17 : decode cX8_restart 17 = .ok (.invokevirtual 126, 3) := by decide +kernel
theorem dX8_restart_20 : decode cX8_restart 20 = .ok (.invokestatic 74, 3) := by decide +kernel
theorem dX8_restart_23 : decode cX8_restart 23 = .ok (.aload_n 0, 1) := by decide +kernel
theorem dX8_restart_24 : decode cX8_restart 24 = .ok (.getfield 45, 3) := by decide +kernel
theorem dX8_restart_27 : decode cX8_restart 27 = .ok (.aload_n 0, 1) := by decide +kernel
theorem dX8_restart_28 : decode cX8_restart 28 = .ok (.getfield 10, 3) := by decide +kernel
theorem dX8_restart_31 : decode cX8_restart 31 = .ok (.invokevirtual 77, 3) := by decide +kernel
theorem dX8_restart_34 : decode cX8_restart 34 = .ok (.aload_n 0, 1) := by decide +kernel
theorem dX8_restart_35 : decode cX8_restart 35 = .ok (.getfield 10, 3) := by decide +kernel
theorem dX8_restart_38 : decode cX8_restart 38 = .ok (.iload_n 1, 1) := by decide +kernel
theorem dX8_restart_39 : decode cX8_restart 39 = .ok (.invokevirtual 144, 3) := by decide +kernel
theorem dX8_restart_42 : decode cX8_restart 42 = .ok (.ireturn, 1) := by decide +kernel
theorem dX8_tasks_0 : decode cX8_tasks 0 = .ok (.aload_n 0, 1) := by decide +kernel
theorem dX8_tasks_1 : decode cX8_tasks 1 = .ok (.getfield 10, 3) := by decide +kernel
theorem dX8_tasks_4 : decode cX8_tasks 4 = .ok (.getfield 147, 3) := by decide +kernel
theorem dX8_tasks_7 : decode cX8_tasks 7 = .ok (.ireturn, 1) := by decide +kernel
theorem dX8_task_0 : decode cX8_task 0 = .ok (.aload_n 0, 1) := by decide +kernel
theorem dX8_task_1 : decode cX8_task 1 = .ok (.getfield 10, 3) := by decide +kernel
theorem dX8_task_4 : decode cX8_task 4 = .ok (.iload_n 1, 1) := by decide +kernel
theorem dX8_task_5 : decode cX8_task 5 = .ok (.invokevirtual 125, 3) := by decide +kernel
theorem dX8_task_8 : decode cX8_task 8 = .ok (.invokestatic 66, 3) := by decide +kernel
theorem dX8_task_11 : decode cX8_task 11 = .ok (.iload_n 2, 1) := by decide +kernel
theorem dX8_task_12 : decode cX8_task 12 = .ok (.iconst 0, 1) := by decide +kernel
theorem dX8_task_13 : decode cX8_task 13 = .ok (.bipush 6, 2) := by decide +kernel
theorem dX8_task_15 : decode cX8_task 15 = .ok (.invokestatic 85, 3) := by decide +kernel
theorem dX8_task_18 : decode cX8_task 18 = .ok (.invokestatic 89, 3) := by decide +kernel
theorem dX8_task_21 : decode cX8_task 21 = .ok (.iload_n 2, 1) := by decide +kernel
theorem dX8_task_22 : decode cX8_task 22 = .ok (.tableswitch 97 0 5 #[38, 48, 58, 68, 78, 88], 38) := by decide +kernel
theorem dX8_task_60 : decode cX8_task 60 = .ok (.aload_n 0, 1) := by decide +kernel
theorem dX8_task_61 : decode cX8_task 61 = .ok (.getfield 10, 3) := by decide +kernel
theorem dX8_task_64 : decode cX8_task 64 = .ok (.getfield 150, 3) := by decide +kernel
theorem dX8_task_67 : decode cX8_task 67 = .ok (.iload_n 1, 1) := by decide +kernel
theorem dX8_task_68 : decode cX8_task 68 = .ok (.iaload, 1) := by decide +kernel
theorem dX8_task_69 : decode cX8_task 69 = .ok (.ireturn, 1) := by decide +kernel
theorem dX8_task_70 : decode cX8_task 70 = .ok (.aload_n 0, 1) := by decide +kernel
theorem dX8_task_71 : decode cX8_task 71 = .ok (.getfield 10, 3) := by decide +kernel
theorem dX8_task_74 : decode cX8_task 74 = .ok (.getfield 153, 3) := by decide +kernel
theorem dX8_task_77 : decode cX8_task 77 = .ok (.iload_n 1, 1) := by decide +kernel
theorem dX8_task_78 : decode cX8_task 78 = .ok (.iaload, 1) := by decide +kernel
theorem dX8_task_79 : decode cX8_task 79 = .ok (.ireturn, 1) := by decide +kernel
theorem dX8_task_80 : decode cX8_task 80 = .ok (.aload_n 0, 1) := by decide +kernel
theorem dX8_task_81 : decode cX8_task 81 = .ok (.getfield 10, 3) := by decide +kernel
theorem dX8_task_84 : decode cX8_task 84 = .ok (.getfield 156, 3) := by decide +kernel
theorem dX8_task_87 : decode cX8_task 87 = .ok (.iload_n 1, 1) := by decide +kernel
theorem dX8_task_88 : decode cX8_task 88 = .ok (.iaload, 1) := by decide +kernel
theorem dX8_task_89 : decode cX8_task 89 = .ok (.ireturn, 1) := by decide +kernel
theorem dX8_task_90 : decode cX8_task 90 = .ok (.aload_n 0, 1) := by decide +kernel
theorem dX8_task_91 : decode cX8_task 91 = .ok (.getfield 10, 3) := by decide +kernel
theorem dX8_task_94 : decode cX8_task 94 = .ok (.getfield 159, 3) := by decide +kernel
theorem dX8_task_97 : decode cX8_task 97 = .ok (.iload_n 1, 1) := by decide +kernel
theorem dX8_task_98 : decode cX8_task 98 = .ok (.iaload, 1) := by decide +kernel
theorem dX8_task_99 : decode cX8_task 99 = .ok (.ireturn, 1) := by decide +kernel
theorem dX8_task_100 : decode cX8_task 100 = .ok (.aload_n 0, 1) := by decide +kernel
theorem dX8_task_101 : decode cX8_task 101 = .ok (.getfield 10, 3) := by decide +kernel
theorem dX8_task_104 : decode cX8_task 104 = .ok (.getfield 162, 3) := by decide +kernel
theorem dX8_task_107 : decode cX8_task 107 = .ok (.iload_n 1, 1) := by decide +kernel
theorem dX8_task_108 : decode cX8_task 108 = .ok (.iaload, 1) := by decide +kernel
theorem dX8_task_109 : decode cX8_task 109 = .ok (.ireturn, 1) := by decide +kernel
theorem dX8_task_110 : decode cX8_task 110 = .ok (.aload_n 0, 1) := by decide +kernel
theorem dX8_task_111 : decode cX8_task 111 = .ok (.getfield 10, 3) := by decide +kernel
theorem dX8_task_114 : decode cX8_task 114 = .ok (.iload_n 1, 1) := by decide +kernel
theorem dX8_task_115 : decode cX8_task 115 = .ok (.invokevirtual 165, 3) := by decide +kernel
theorem dX8_task_118 : decode cX8_task 118 = .ok (.ireturn, 1) := by decide +kernel
theorem dX8_task_119 : decode cX8_task 119 = .ok (.aload_n 0, 1) := by decide +kernel
theorem dX8_task_120 : decode cX8_task 120 = .ok (.getfield 10, 3) := by decide +kernel
theorem dX8_task_123 : decode cX8_task 123 = .ok (.iload_n 1, 1) := by decide +kernel
theorem dX8_task_124 : decode cX8_task 124 = .ok (.invokevirtual 168, 3) := by decide +kernel
theorem dX8_task_127 : decode cX8_task 127 = .ok (.ireturn, 1) := by decide +kernel
theorem dX8_waiting_0 : decode cX8_waiting 0 = .ok (.iload_n 1, 1) := by decide +kernel
theorem dX8_waiting_1 : decode cX8_waiting 1 = .ok (.iconst 0, 1) := by decide +kernel
theorem dX8_waiting_2 : decode cX8_waiting 2 = .ok (.aload_n 0, 1) := by decide +kernel
theorem dX8_waiting_3 : decode cX8_waiting 3 = .ok (.getfield 10, 3) := by decide +kernel
theorem dX8_waiting_6 : decode cX8_waiting 6 = .ok (.getfield 171, 3) := by decide +kernel
theorem dX8_waiting_9 : decode cX8_waiting 9 = .ok (.iconst 1, 1) := by decide +kernel
theorem dX8_waiting_10 : decode cX8_waiting 10 = .ok (.isub, 1) := by decide +kernel
theorem dX8_waiting_11 : decode cX8_waiting 11 = .ok (.invokestatic 85, 3) := by decide +kernel
theorem dX8_waiting_14 : decode cX8_waiting 14 = .ok (.ifCond .eq 15, 3) := by decide +kernel
theorem dX8_waiting_17 : decode cX8_waiting 17 = .ok (.aload_n 0, 1) := by decide +kernel
theorem dX8_waiting_18 : decode cX8_waiting 18 = .ok (.getfield 10, 3) := by decide +kernel
theorem dX8_waiting_21 : decode cX8_waiting 21 = .ok (.getfield 174, 3) := by decide +kernel
theorem dX8_waiting_24 : decode cX8_waiting 24 = .ok (.iload_n 1, 1) := by decide +kernel
theorem dX8_waiting_25 : decode cX8_waiting 25 = .ok (.iaload, 1) := by decide +kernel
theorem dX8_waiting_26 : decode cX8_waiting 26 = .ok (.goto 4, 3) := by decide +kernel
theorem dX8_waiting_29 : decode cX8_waiting 29 = .ok (.iconst (-1), 1) := by decide +kernel
theorem dX8_waiting_30 : decode cX8_waiting 30 = .ok (.ireturn, 1) := by decide +kernel
theorem dX8_wouldHappen_0 : decode cX8_wouldHappen 0 = .ok (.aload_n 0, 1) := by decide +kernel
theorem dX8_wouldHappen_1 : decode cX8_wouldHappen 1 = .ok (.getfield 10, 3) := by decide +kernel
theorem dX8_wouldHappen_4 : decode cX8_wouldHappen 4 = .ok (.iload_n 1, 1) := by decide +kernel
theorem dX8_wouldHappen_5 : decode cX8_wouldHappen 5 = .ok (.invokevirtual 125, 3) := by decide +kernel
theorem dX8_wouldHappen_8 : decode cX8_wouldHappen 8 = .ok (.ifCond .eq 21, 3) := by decide +kernel
theorem dX8_wouldHappen_11 : decode cX8_wouldHappen 11 = .ok (.aload_n 0, 1) := by decide +kernel
theorem dX8_wouldHappen_12 : decode cX8_wouldHappen 12 = .ok (.getfield 10, 3) := by decide +kernel
theorem dX8_wouldHappen_15 : decode cX8_wouldHappen 15 = .ok (.getfield 56, 3) := by decide +kernel
theorem dX8_wouldHappen_18 : decode cX8_wouldHappen 18 = .ok (.iload_n 2, 1) := by decide +kernel
theorem dX8_wouldHappen_19 : decode cX8_wouldHappen 19 = .ok (.invokevirtual 60, 3) := by decide +kernel
theorem dX8_wouldHappen_22 : decode cX8_wouldHappen 22 = .ok (.ifCond .eq 7, 3) := by decide +kernel
theorem dX8_wouldHappen_25 : decode cX8_wouldHappen 25 = .ok (.iconst 1, 1) := by decide +kernel
theorem dX8_wouldHappen_26 : decode cX8_wouldHappen 26 = .ok (.goto 4, 3) := by decide +kernel
theorem dX8_wouldHappen_29 : decode cX8_wouldHappen 29 = .ok (.iconst 0, 1) := by decide +kernel
theorem dX8_wouldHappen_30 : decode cX8_wouldHappen 30 = .ok (.invokestatic 66, 3) := by decide +kernel
theorem dX8_wouldHappen_33 : decode cX8_wouldHappen 33 = .ok (.aload_n 0, 1) := by decide +kernel
theorem dX8_wouldHappen_34 : decode cX8_wouldHappen 34 = .ok (.getfield 10, 3) := by decide +kernel
theorem dX8_wouldHappen_37 : decode cX8_wouldHappen 37 = .ok (.iload_n 1, 1) := by decide +kernel
theorem dX8_wouldHappen_38 : decode cX8_wouldHappen 38 = .ok (.iconst 0, 1) := by decide +kernel
theorem dX8_wouldHappen_39 : decode cX8_wouldHappen 39 = .ok (.invokevirtual 126, 3) := by decide +kernel
theorem dX8_wouldHappen_42 : decode cX8_wouldHappen 42 = .ok (.invokestatic 74, 3) := by decide +kernel
theorem dX8_wouldHappen_45 : decode cX8_wouldHappen 45 = .ok (.aload_n 0, 1) := by decide +kernel
theorem dX8_wouldHappen_46 : decode cX8_wouldHappen 46 = .ok (.getfield 38, 3) := by decide +kernel
theorem dX8_wouldHappen_49 : decode cX8_wouldHappen 49 = .ok (.iload_n 1, 1) := by decide +kernel
theorem dX8_wouldHappen_50 : decode cX8_wouldHappen 50 = .ok (.iload_n 2, 1) := by decide +kernel
theorem dX8_wouldHappen_51 : decode cX8_wouldHappen 51 = .ok (.invokevirtual 177, 3) := by decide +kernel
theorem dX8_wouldHappen_54 : decode cX8_wouldHappen 54 = .ok (.ireturn, 1) := by decide +kernel
theorem dX8_setPolicy_0 : decode cX8_setPolicy 0 = .ok (.iload_n 1, 1) := by decide +kernel
theorem dX8_setPolicy_1 : decode cX8_setPolicy 1 = .ok (.iconst 0, 1) := by decide +kernel
theorem dX8_setPolicy_2 : decode cX8_setPolicy 2 = .ok (.iconst 2, 1) := by decide +kernel
theorem dX8_setPolicy_3 : decode cX8_setPolicy 3 = .ok (.invokestatic 85, 3) := by decide +kernel
theorem dX8_setPolicy_6 : decode cX8_setPolicy 6 = .ok (.invokestatic 89, 3) := by decide +kernel
theorem dX8_setPolicy_9 : decode cX8_setPolicy 9 = .ok (.aload_n 0, 1) := by decide +kernel
theorem dX8_setPolicy_10 : decode cX8_setPolicy 10 = .ok (.getfield 45, 3) := by decide +kernel
theorem dX8_setPolicy_13 : decode cX8_setPolicy 13 = .ok (.aload_n 0, 1) := by decide +kernel
theorem dX8_setPolicy_14 : decode cX8_setPolicy 14 = .ok (.getfield 10, 3) := by decide +kernel
theorem dX8_setPolicy_17 : decode cX8_setPolicy 17 = .ok (.invokevirtual 77, 3) := by decide +kernel
theorem dX8_setPolicy_20 : decode cX8_setPolicy 20 = .ok (.aload_n 0, 1) := by decide +kernel
theorem dX8_setPolicy_21 : decode cX8_setPolicy 21 = .ok (.getfield 10, 3) := by decide +kernel
theorem dX8_setPolicy_24 : decode cX8_setPolicy 24 = .ok (.getfield 180, 3) := by decide +kernel
theorem dX8_setPolicy_27 : decode cX8_setPolicy 27 = .ok (.istore_n 2, 1) := by decide +kernel
theorem dX8_setPolicy_28 : decode cX8_setPolicy 28 = .ok (.aload_n 0, 1) := by decide +kernel
theorem dX8_setPolicy_29 : decode cX8_setPolicy 29 = .ok (.getfield 10, 3) := by decide +kernel
theorem dX8_setPolicy_32 : decode cX8_setPolicy 32 = .ok (.iload_n 1, 1) := by decide +kernel
theorem dX8_setPolicy_33 : decode cX8_setPolicy 33 = .ok (.putfield 180, 3) := by decide +kernel
theorem dX8_setPolicy_36 : decode cX8_setPolicy 36 = .ok (.iload_n 2, 1) := by decide +kernel
theorem dX8_setPolicy_37 : decode cX8_setPolicy 37 = .ok (.ireturn, 1) := by decide +kernel
theorem dX8_setRule_0 : decode cX8_setRule 0 = .ok (.iload_n 1, 1) := by decide +kernel
theorem dX8_setRule_1 : decode cX8_setRule 1 = .ok (.iconst 0, 1) := by decide +kernel
theorem dX8_setRule_2 : decode cX8_setRule 2 = .ok (.iconst 2, 1) := by decide +kernel
theorem dX8_setRule_3 : decode cX8_setRule 3 = .ok (.invokestatic 85, 3) := by decide +kernel
theorem dX8_setRule_6 : decode cX8_setRule 6 = .ok (.invokestatic 89, 3) := by decide +kernel
theorem dX8_setRule_9 : decode cX8_setRule 9 = .ok (.aload_n 0, 1) := by decide +kernel
theorem dX8_setRule_10 : decode cX8_setRule 10 = .ok (.getfield 45, 3) := by decide +kernel
theorem dX8_setRule_13 : decode cX8_setRule 13 = .ok (.aload_n 0, 1) := by decide +kernel
theorem dX8_setRule_14 : decode cX8_setRule 14 = .ok (.getfield 10, 3) := by decide +kernel
theorem dX8_setRule_17 : decode cX8_setRule 17 = .ok (.invokevirtual 77, 3) := by decide +kernel
theorem dX8_setRule_20 : decode cX8_setRule 20 = .ok (.aload_n 0, 1) := by decide +kernel
theorem dX8_setRule_21 : decode cX8_setRule 21 = .ok (.getfield 10, 3) := by decide +kernel
theorem dX8_setRule_24 : decode cX8_setRule 24 = .ok (.getfield 183, 3) := by decide +kernel
theorem dX8_setRule_27 : decode cX8_setRule 27 = .ok (.istore_n 2, 1) := by decide +kernel
theorem dX8_setRule_28 : decode cX8_setRule 28 = .ok (.aload_n 0, 1) := by decide +kernel
theorem dX8_setRule_29 : decode cX8_setRule 29 = .ok (.getfield 10, 3) := by decide +kernel
theorem dX8_setRule_32 : decode cX8_setRule 32 = .ok (.iload_n 1, 1) := by decide +kernel
theorem dX8_setRule_33 : decode cX8_setRule 33 = .ok (.putfield 183, 3) := by decide +kernel
theorem dX8_setRule_36 : decode cX8_setRule 36 = .ok (.iload_n 2, 1) := by decide +kernel
theorem dX8_setRule_37 : decode cX8_setRule 37 = .ok (.ireturn, 1) := by decide +kernel
theorem dX8_setBudget_0 : decode cX8_setBudget 0 = .ok (.iload_n 1, 1) := by decide +kernel
theorem dX8_setBudget_1 : decode cX8_setBudget 1 = .ok (.iconst 1, 1) := by decide +kernel
theorem dX8_setBudget_2 : decode cX8_setBudget 2 = .ok (.bipush 9, 2) := by decide +kernel
theorem dX8_setBudget_4 : decode cX8_setBudget 4 = .ok (.invokestatic 85, 3) := by decide +kernel
theorem dX8_setBudget_7 : decode cX8_setBudget 7 = .ok (.invokestatic 89, 3) := by decide +kernel
theorem dX8_setBudget_10 : decode cX8_setBudget 10 = .ok (.aload_n 0, 1) := by decide +kernel
theorem dX8_setBudget_11 : decode cX8_setBudget 11 = .ok (.getfield 45, 3) := by decide +kernel
theorem dX8_setBudget_14 : decode cX8_setBudget 14 = .ok (.aload_n 0, 1) := by decide +kernel
theorem dX8_setBudget_15 : decode cX8_setBudget 15 = .ok (.getfield 10, 3) := by decide +kernel
theorem dX8_setBudget_18 : decode cX8_setBudget 18 = .ok (.invokevirtual 77, 3) := by decide +kernel
theorem dX8_setBudget_21 : decode cX8_setBudget 21 = .ok (.aload_n 0, 1) := by decide +kernel
theorem dX8_setBudget_22 : decode cX8_setBudget 22 = .ok (.getfield 10, 3) := by decide +kernel
theorem dX8_setBudget_25 : decode cX8_setBudget 25 = .ok (.getfield 186, 3) := by decide +kernel
theorem dX8_setBudget_28 : decode cX8_setBudget 28 = .ok (.istore_n 2, 1) := by decide +kernel
theorem dX8_setBudget_29 : decode cX8_setBudget 29 = .ok (.aload_n 0, 1) := by decide +kernel
theorem dX8_setBudget_30 : decode cX8_setBudget 30 = .ok (.getfield 10, 3) := by decide +kernel
theorem dX8_setBudget_33 : decode cX8_setBudget 33 = .ok (.iload_n 1, 1) := by decide +kernel
theorem dX8_setBudget_34 : decode cX8_setBudget 34 = .ok (.putfield 186, 3) := by decide +kernel
theorem dX8_setBudget_37 : decode cX8_setBudget 37 = .ok (.iload_n 2, 1) := by decide +kernel
theorem dX8_setBudget_38 : decode cX8_setBudget 38 = .ok (.ireturn, 1) := by decide +kernel
theorem dX8_probe_0 : decode cX8_probe 0 = .ok (.aload_n 0, 1) := by decide +kernel
theorem dX8_probe_1 : decode cX8_probe 1 = .ok (.getfield 10, 3) := by decide +kernel
theorem dX8_probe_4 : decode cX8_probe 4 = .ok (.iload_n 1, 1) := by decide +kernel
theorem dX8_probe_5 : decode cX8_probe 5 = .ok (.invokevirtual 125, 3) := by decide +kernel
theorem dX8_probe_8 : decode cX8_probe 8 = .ok (.invokestatic 66, 3) := by decide +kernel
theorem dX8_probe_11 : decode cX8_probe 11 = .ok (.aload_n 0, 1) := by decide +kernel
theorem dX8_probe_12 : decode cX8_probe 12 = .ok (.getfield 10, 3) := by decide +kernel
theorem dX8_probe_15 : decode cX8_probe 15 = .ok (.iload_n 1, 1) := by decide +kernel
theorem dX8_probe_16 : decode cX8_probe 16 = .ok (.iconst 1, 1) := by decide +kernel
theorem dX8_probe_17 : decode cX8_probe 17 = .ok (.invokevirtual 126, 3) := by decide +kernel
theorem dX8_probe_20 : decode cX8_probe 20 = .ok (.invokestatic 74, 3) := by decide +kernel
theorem dX8_probe_23 : decode cX8_probe 23 = .ok (.aload_n 0, 1) := by decide +kernel
theorem dX8_probe_24 : decode cX8_probe 24 = .ok (.getfield 45, 3) := by decide +kernel
theorem dX8_probe_27 : decode cX8_probe 27 = .ok (.aload_n 0, 1) := by decide +kernel
theorem dX8_probe_28 : decode cX8_probe 28 = .ok (.getfield 10, 3) := by decide +kernel
theorem dX8_probe_31 : decode cX8_probe 31 = .ok (.invokevirtual 77, 3) := by decide +kernel
theorem dX8_probe_34 : decode cX8_probe 34 = .ok (.aload_n 0, 1) := by decide +kernel
theorem dX8_probe_35 : decode cX8_probe 35 = .ok (.getfield 38, 3) := by decide +kernel
theorem dX8_probe_38 : decode cX8_probe 38 = .ok (.iload_n 1, 1) := by decide +kernel
theorem dX8_probe_39 : decode cX8_probe 39 = .ok (.invokevirtual 189, 3) := by decide +kernel
theorem dX8_probe_42 : decode cX8_probe 42 = .ok (.ireturn, 1) := by decide +kernel
theorem dX8_deliver_0 : decode cX8_deliver 0 = .ok (.iload_n 1, 1) := by decide +kernel
theorem dX8_deliver_1 : decode cX8_deliver 1 = .ok (.iconst 1, 1) := by decide +kernel
theorem dX8_deliver_2 : decode cX8_deliver 2 = .ok (.bipush 99, 2) := by decide +kernel
theorem dX8_deliver_4 : decode cX8_deliver 4 = .ok (.invokestatic 85, 3) := by decide +kernel
theorem dX8_deliver_7 : decode cX8_deliver 7 = .ok (.invokestatic 89, 3) := by decide +kernel
theorem dX8_deliver_10 : decode cX8_deliver 10 = .ok (.aload_n 0, 1) := by decide +kernel
theorem dX8_deliver_11 : decode cX8_deliver 11 = .ok (.getfield 45, 3) := by decide +kernel
theorem dX8_deliver_14 : decode cX8_deliver 14 = .ok (.aload_n 0, 1) := by decide +kernel
theorem dX8_deliver_15 : decode cX8_deliver 15 = .ok (.getfield 10, 3) := by decide +kernel
theorem dX8_deliver_18 : decode cX8_deliver 18 = .ok (.invokevirtual 77, 3) := by decide +kernel
theorem dX8_deliver_21 : decode cX8_deliver 21 = .ok (.aload_n 0, 1) := by decide +kernel
theorem dX8_deliver_22 : decode cX8_deliver 22 = .ok (.getfield 38, 3) := by decide +kernel
theorem dX8_deliver_25 : decode cX8_deliver 25 = .ok (.iload_n 1, 1) := by decide +kernel
theorem dX8_deliver_26 : decode cX8_deliver 26 = .ok (.invokevirtual 192, 3) := by decide +kernel
theorem dX8_deliver_29 : decode cX8_deliver 29 = .ok (.ireturn, 1) := by decide +kernel
theorem dX8_messages_0 : decode cX8_messages 0 = .ok (.aload_n 0, 1) := by decide +kernel
theorem dX8_messages_1 : decode cX8_messages 1 = .ok (.getfield 10, 3) := by decide +kernel
theorem dX8_messages_4 : decode cX8_messages 4 = .ok (.getfield 195, 3) := by decide +kernel
theorem dX8_messages_7 : decode cX8_messages 7 = .ok (.getfield 199, 3) := by decide +kernel
theorem dX8_messages_10 : decode cX8_messages 10 = .ok (.ireturn, 1) := by decide +kernel
theorem dX8_message_0 : decode cX8_message 0 = .ok (.iload_n 2, 1) := by decide +kernel
theorem dX8_message_1 : decode cX8_message 1 = .ok (.iconst 0, 1) := by decide +kernel
theorem dX8_message_2 : decode cX8_message 2 = .ok (.iconst 4, 1) := by decide +kernel
theorem dX8_message_3 : decode cX8_message 3 = .ok (.invokestatic 85, 3) := by decide +kernel
theorem dX8_message_6 : decode cX8_message 6 = .ok (.invokestatic 89, 3) := by decide +kernel
theorem dX8_message_9 : decode cX8_message 9 = .ok (.aload_n 0, 1) := by decide +kernel
theorem dX8_message_10 : decode cX8_message 10 = .ok (.getfield 10, 3) := by decide +kernel
theorem dX8_message_13 : decode cX8_message 13 = .ok (.getfield 195, 3) := by decide +kernel
theorem dX8_message_16 : decode cX8_message 16 = .ok (.iload_n 1, 1) := by decide +kernel
theorem dX8_message_17 : decode cX8_message 17 = .ok (.iload_n 2, 1) := by decide +kernel
theorem dX8_message_18 : decode cX8_message 18 = .ok (.invokevirtual 202, 3) := by decide +kernel
theorem dX8_message_21 : decode cX8_message 21 = .ok (.ireturn, 1) := by decide +kernel
theorem dX8_told_0 : decode cX8_told 0 = .ok (.iload_n 1, 1) := by decide +kernel
theorem dX8_told_1 : decode cX8_told 1 = .ok (.iconst 0, 1) := by decide +kernel
theorem dX8_told_2 : decode cX8_told 2 = .ok (.bipush 7, 2) := by decide +kernel
theorem dX8_told_4 : decode cX8_told 4 = .ok (.invokestatic 85, 3) := by decide +kernel
theorem dX8_told_7 : decode cX8_told 7 = .ok (.invokestatic 89, 3) := by decide +kernel
theorem dX8_told_10 : decode cX8_told 10 = .ok (.aload_n 0, 1) := by decide +kernel
theorem dX8_told_11 : decode cX8_told 11 = .ok (.getfield 22, 3) := by decide +kernel
theorem dX8_told_14 : decode cX8_told 14 = .ok (.getfield 205, 3) := by decide +kernel
theorem dX8_told_17 : decode cX8_told 17 = .ok (.iload_n 1, 1) := by decide +kernel
theorem dX8_told_18 : decode cX8_told 18 = .ok (.iaload, 1) := by decide +kernel
theorem dX8_told_19 : decode cX8_told 19 = .ok (.ireturn, 1) := by decide +kernel
theorem dX8_onCycles_0 : decode cX8_onCycles 0 = .ok (.aload_n 0, 1) := by decide +kernel
theorem dX8_onCycles_1 : decode cX8_onCycles 1 = .ok (.getfield 29, 3) := by decide +kernel
theorem dX8_onCycles_4 : decode cX8_onCycles 4 = .ok (.aload_n 0, 1) := by decide +kernel
theorem dX8_onCycles_5 : decode cX8_onCycles 5 = .ok (.getfield 10, 3) := by decide +kernel
theorem dX8_onCycles_8 : decode cX8_onCycles 8 = .ok (.invokevirtual 208, 3) := by decide +kernel
theorem dX8_onCycles_11 : decode cX8_onCycles 11 = .ok (.aload_n 0, 1) := by decide +kernel
theorem dX8_onCycles_12 : decode cX8_onCycles 12 = .ok (.getfield 29, 3) := by decide +kernel
theorem dX8_onCycles_15 : decode cX8_onCycles 15 = .ok (.getfield 211, 3) := by decide +kernel
theorem dX8_onCycles_18 : decode cX8_onCycles 18 = .ok (.ireturn, 1) := by decide +kernel
theorem dX8_stuck_0 : decode cX8_stuck 0 = .ok (.aload_n 0, 1) := by decide +kernel
theorem dX8_stuck_1 : decode cX8_stuck 1 = .ok (.getfield 29, 3) := by decide +kernel
theorem dX8_stuck_4 : decode cX8_stuck 4 = .ok (.aload_n 0, 1) := by decide +kernel
theorem dX8_stuck_5 : decode cX8_stuck 5 = .ok (.getfield 10, 3) := by decide +kernel
theorem dX8_stuck_8 : decode cX8_stuck 8 = .ok (.invokevirtual 208, 3) := by decide +kernel
theorem dX8_stuck_11 : decode cX8_stuck 11 = .ok (.aload_n 0, 1) := by decide +kernel
theorem dX8_stuck_12 : decode cX8_stuck 12 = .ok (.getfield 29, 3) := by decide +kernel
theorem dX8_stuck_15 : decode cX8_stuck 15 = .ok (.invokevirtual 214, 3) := by decide +kernel
theorem dX8_stuck_18 : decode cX8_stuck 18 = .ok (.ireturn, 1) := by decide +kernel
theorem dX8_shortestCycle_0 : decode cX8_shortestCycle 0 = .ok (.aload_n 0, 1) := by decide +kernel
theorem dX8_shortestCycle_1 : decode cX8_shortestCycle 1 = .ok (.getfield 10, 3) := by decide +kernel
theorem dX8_shortestCycle_4 : decode cX8_shortestCycle 4 = .ok (.iload_n 1, 1) := by decide +kernel
theorem dX8_shortestCycle_5 : decode cX8_shortestCycle 5 = .ok (.invokevirtual 125, 3) := by decide +kernel
theorem dX8_shortestCycle_8 : decode cX8_shortestCycle 8 = .ok (.invokestatic 66, 3) := by decide +kernel
theorem dX8_shortestCycle_11 : decode cX8_shortestCycle 11 = .ok (.aload_n 0, 1) := by decide +kernel
theorem dX8_shortestCycle_12 : decode cX8_shortestCycle 12 = .ok (.getfield 29, 3) := by decide +kernel
theorem dX8_shortestCycle_15 : decode cX8_shortestCycle 15 = .ok (.aload_n 0, 1) := by decide +kernel
theorem dX8_shortestCycle_16 : decode cX8_shortestCycle 16 = .ok (.getfield 10, 3) := by decide +kernel
theorem dX8_shortestCycle_19 : decode cX8_shortestCycle 19 = .ok (.invokevirtual 208, 3) := by decide +kernel
theorem dX8_shortestCycle_22 : decode cX8_shortestCycle 22 = .ok (.aload_n 0, 1) := by decide +kernel
theorem dX8_shortestCycle_23 : decode cX8_shortestCycle 23 = .ok (.getfield 29, 3) := by decide +kernel
theorem dX8_shortestCycle_26 : decode cX8_shortestCycle 26 = .ok (.iload_n 1, 1) := by decide +kernel
theorem dX8_shortestCycle_27 : decode cX8_shortestCycle 27 = .ok (.invokevirtual 217, 3) := by decide +kernel
theorem dX8_shortestCycle_30 : decode cX8_shortestCycle 30 = .ok (.ireturn, 1) := by decide +kernel
theorem dX8_cycles_0 : decode cX8_cycles 0 = .ok (.aload_n 0, 1) := by decide +kernel
theorem dX8_cycles_1 : decode cX8_cycles 1 = .ok (.getfield 29, 3) := by decide +kernel
theorem dX8_cycles_4 : decode cX8_cycles 4 = .ok (.aload_n 0, 1) := by decide +kernel
theorem dX8_cycles_5 : decode cX8_cycles 5 = .ok (.getfield 10, 3) := by decide +kernel
theorem dX8_cycles_8 : decode cX8_cycles 8 = .ok (.invokevirtual 208, 3) := by decide +kernel
theorem dX8_cycles_11 : decode cX8_cycles 11 = .ok (.aload_n 0, 1) := by decide +kernel
theorem dX8_cycles_12 : decode cX8_cycles 12 = .ok (.getfield 29, 3) := by decide +kernel
theorem dX8_cycles_15 : decode cX8_cycles 15 = .ok (.invokevirtual 220, 3) := by decide +kernel
theorem dX8_cycles_18 : decode cX8_cycles 18 = .ok (.ireturn, 1) := by decide +kernel
theorem dX8_latest_0 : decode cX8_latest 0 = .ok (.iload_n 1, 1) := by decide +kernel
theorem dX8_latest_1 : decode cX8_latest 1 = .ok (.iconst 0, 1) := by decide +kernel
theorem dX8_latest_2 : decode cX8_latest 2 = .ok (.iconst 2, 1) := by decide +kernel
theorem dX8_latest_3 : decode cX8_latest 3 = .ok (.invokestatic 85, 3) := by decide +kernel
theorem dX8_latest_6 : decode cX8_latest 6 = .ok (.invokestatic 89, 3) := by decide +kernel
theorem dX8_latest_9 : decode cX8_latest 9 = .ok (.iload_n 1, 1) := by decide +kernel
theorem dX8_latest_10 : decode cX8_latest 10 = .ok (.lookupswitch 42 #[(0, 26), (1, 34)], 26) := by decide +kernel
theorem dX8_latest_36 : decode cX8_latest 36 = .ok (.aload_n 0, 1) := by decide +kernel
theorem dX8_latest_37 : decode cX8_latest 37 = .ok (.getfield 22, 3) := by decide +kernel
theorem dX8_latest_40 : decode cX8_latest 40 = .ok (.getfield 223, 3) := by decide +kernel
theorem dX8_latest_43 : decode cX8_latest 43 = .ok (.ireturn, 1) := by decide +kernel
theorem dX8_latest_44 : decode cX8_latest 44 = .ok (.aload_n 0, 1) := by decide +kernel
theorem dX8_latest_45 : decode cX8_latest 45 = .ok (.getfield 22, 3) := by decide +kernel
theorem dX8_latest_48 : decode cX8_latest 48 = .ok (.getfield 226, 3) := by decide +kernel
theorem dX8_latest_51 : decode cX8_latest 51 = .ok (.ireturn, 1) := by decide +kernel
theorem dX8_latest_52 : decode cX8_latest 52 = .ok (.aload_n 0, 1) := by decide +kernel
theorem dX8_latest_53 : decode cX8_latest 53 = .ok (.getfield 22, 3) := by decide +kernel
theorem dX8_latest_56 : decode cX8_latest 56 = .ok (.getfield 229, 3) := by decide +kernel
theorem dX8_latest_59 : decode cX8_latest 59 = .ok (.ireturn, 1) := by decide +kernel
theorem dX8_bestVictims_0 : decode cX8_bestVictims 0 = .ok (.aload_n 0, 1) := by decide +kernel
theorem dX8_bestVictims_1 : decode cX8_bestVictims 1 = .ok (.getfield 29, 3) := by decide +kernel
theorem dX8_bestVictims_4 : decode cX8_bestVictims 4 = .ok (.aload_n 0, 1) := by decide +kernel
theorem dX8_bestVictims_5 : decode cX8_bestVictims 5 = .ok (.getfield 10, 3) := by decide +kernel
theorem dX8_bestVictims_8 : decode cX8_bestVictims 8 = .ok (.invokevirtual 208, 3) := by decide +kernel
theorem dX8_bestVictims_11 : decode cX8_bestVictims 11 = .ok (.aload_n 0, 1) := by decide +kernel
theorem dX8_bestVictims_12 : decode cX8_bestVictims 12 = .ok (.getfield 29, 3) := by decide +kernel
theorem dX8_bestVictims_15 : decode cX8_bestVictims 15 = .ok (.aload_n 0, 1) := by decide +kernel
theorem dX8_bestVictims_16 : decode cX8_bestVictims 16 = .ok (.getfield 10, 3) := by decide +kernel
theorem dX8_bestVictims_19 : decode cX8_bestVictims 19 = .ok (.getfield 153, 3) := by decide +kernel
theorem dX8_bestVictims_22 : decode cX8_bestVictims 22 = .ok (.invokevirtual 232, 3) := by decide +kernel
theorem dX8_bestVictims_25 : decode cX8_bestVictims 25 = .ok (.ireturn, 1) := by decide +kernel
theorem dX8_wouldEnd_0 : decode cX8_wouldEnd 0 = .ok (.aload_n 0, 1) := by decide +kernel
theorem dX8_wouldEnd_1 : decode cX8_wouldEnd 1 = .ok (.getfield 16, 3) := by decide +kernel
theorem dX8_wouldEnd_4 : decode cX8_wouldEnd 4 = .ok (.aload_n 0, 1) := by decide +kernel
theorem dX8_wouldEnd_5 : decode cX8_wouldEnd 5 = .ok (.getfield 10, 3) := by decide +kernel
theorem dX8_wouldEnd_8 : decode cX8_wouldEnd 8 = .ok (.invokevirtual 236, 3) := by decide +kernel
theorem dX8_wouldEnd_11 : decode cX8_wouldEnd 11 = .ok (.iconst 0, 1) := by decide +kernel
theorem dX8_wouldEnd_12 : decode cX8_wouldEnd 12 = .ok (.istore_n 1, 1) := by decide +kernel
theorem dX8_wouldEnd_13 : decode cX8_wouldEnd 13 = .ok (.iconst 0, 1) := by decide +kernel
theorem dX8_wouldEnd_14 : decode cX8_wouldEnd 14 = .ok (.istore_n 2, 1) := by decide +kernel
theorem dX8_wouldEnd_15 : decode cX8_wouldEnd 15 = .ok (.iload_n 2, 1) := by decide +kernel
theorem dX8_wouldEnd_16 : decode cX8_wouldEnd 16 = .ok (.bipush 10, 2) := by decide +kernel
theorem dX8_wouldEnd_18 : decode cX8_wouldEnd 18 = .ok (.if_icmp .ge 43, 3) := by decide +kernel
theorem dX8_wouldEnd_21 : decode cX8_wouldEnd 21 = .ok (.aload_n 0, 1) := by decide +kernel
theorem dX8_wouldEnd_22 : decode cX8_wouldEnd 22 = .ok (.getfield 16, 3) := by decide +kernel
theorem dX8_wouldEnd_25 : decode cX8_wouldEnd 25 = .ok (.invokevirtual 239, 3) := by decide +kernel
theorem dX8_wouldEnd_28 : decode cX8_wouldEnd 28 = .ok (.istore_n 3, 1) := by decide +kernel
theorem dX8_wouldEnd_29 : decode cX8_wouldEnd 29 = .ok (.iload_n 3, 1) := by decide +kernel
theorem dX8_wouldEnd_30 : decode cX8_wouldEnd 30 = .ok (.iconst (-1), 1) := by decide +kernel
theorem dX8_wouldEnd_31 : decode cX8_wouldEnd 31 = .ok (.if_icmp .ne 5, 3) := by decide +kernel
theorem dX8_wouldEnd_34 : decode cX8_wouldEnd 34 = .ok (.iload_n 1, 1) := by decide +kernel
theorem dX8_wouldEnd_35 : decode cX8_wouldEnd 35 = .ok (.ireturn, 1) := by decide +kernel
theorem dX8_wouldEnd_36 : decode cX8_wouldEnd 36 = .ok (.aload_n 0, 1) := by decide +kernel
theorem dX8_wouldEnd_37 : decode cX8_wouldEnd 37 = .ok (.getfield 16, 3) := by decide +kernel
theorem dX8_wouldEnd_40 : decode cX8_wouldEnd 40 = .ok (.iload_n 3, 1) := by decide +kernel
theorem dX8_wouldEnd_41 : decode cX8_wouldEnd 41 = .ok (.invokevirtual 242, 3) := by decide +kernel
theorem dX8_wouldEnd_44 : decode cX8_wouldEnd 44 = .ok (.aload_n 0, 1) := by decide +kernel
theorem dX8_wouldEnd_45 : decode cX8_wouldEnd 45 = .ok (.getfield 16, 3) := by decide +kernel
theorem dX8_wouldEnd_48 : decode cX8_wouldEnd 48 = .ok (.invokevirtual 246, 3) := by decide +kernel
theorem dX8_wouldEnd_51 : decode cX8_wouldEnd 51 = .ok (.pop, 1) := by decide +kernel
theorem dX8_wouldEnd_52 : decode cX8_wouldEnd 52 = .ok (.iinc 1 1, 3) := by decide +kernel
theorem dX8_wouldEnd_55 : decode cX8_wouldEnd 55 = .ok (.iinc 2 1, 3) := by decide +kernel
theorem dX8_wouldEnd_58 : decode cX8_wouldEnd 58 = .ok (.goto (-43), 3) := by decide +kernel
theorem dX8_wouldEnd_61 : decode cX8_wouldEnd 61 = .ok (.iload_n 1, 1) := by decide +kernel
theorem dX8_wouldEnd_62 : decode cX8_wouldEnd 62 = .ok (.ireturn, 1) := by decide +kernel
theorem dX8_type_0 : decode cX8_type 0 = .ok (.iload_n 1, 1) := by decide +kernel
theorem dX8_type_1 : decode cX8_type 1 = .ok (.bipush 32, 2) := by decide +kernel
theorem dX8_type_3 : decode cX8_type 3 = .ok (.bipush 126, 2) := by decide +kernel
theorem dX8_type_5 : decode cX8_type 5 = .ok (.invokestatic 85, 3) := by decide +kernel
theorem dX8_type_8 : decode cX8_type 8 = .ok (.invokestatic 89, 3) := by decide +kernel
theorem dX8_type_11 : decode cX8_type 11 = .ok (.aload_n 0, 1) := by decide +kernel
theorem dX8_type_12 : decode cX8_type 12 = .ok (.getfield 52, 3) := by decide +kernel
theorem dX8_type_15 : decode cX8_type 15 = .ok (.getfield 249, 3) := by decide +kernel
theorem dX8_type_18 : decode cX8_type 18 = .ok (.bipush 120, 2) := by decide +kernel
theorem dX8_type_20 : decode cX8_type 20 = .ok (.if_icmp .ge 7, 3) := by decide +kernel
theorem dX8_type_23 : decode cX8_type 23 = .ok (.iconst 1, 1) := by decide +kernel
theorem dX8_type_24 : decode cX8_type 24 = .ok (.goto 4, 3) := by decide +kernel
theorem dX8_type_27 : decode cX8_type 27 = .ok (.iconst 0, 1) := by decide +kernel
theorem dX8_type_28 : decode cX8_type 28 = .ok (.invokestatic 74, 3) := by decide +kernel
theorem dX8_type_31 : decode cX8_type 31 = .ok (.aload_n 0, 1) := by decide +kernel
theorem dX8_type_32 : decode cX8_type 32 = .ok (.getfield 52, 3) := by decide +kernel
theorem dX8_type_35 : decode cX8_type 35 = .ok (.iload_n 1, 1) := by decide +kernel
theorem dX8_type_36 : decode cX8_type 36 = .ok (.invokevirtual 252, 3) := by decide +kernel
theorem dX8_type_39 : decode cX8_type 39 = .ok (.ireturn, 1) := by decide +kernel
theorem dX8_clearText_0 : decode cX8_clearText 0 = .ok (.aload_n 0, 1) := by decide +kernel
theorem dX8_clearText_1 : decode cX8_clearText 1 = .ok (.getfield 52, 3) := by decide +kernel
theorem dX8_clearText_4 : decode cX8_clearText 4 = .ok (.getfield 249, 3) := by decide +kernel
theorem dX8_clearText_7 : decode cX8_clearText 7 = .ok (.istore_n 1, 1) := by decide +kernel
theorem dX8_clearText_8 : decode cX8_clearText 8 = .ok (.aload_n 0, 1) := by decide +kernel
theorem dX8_clearText_9 : decode cX8_clearText 9 = .ok (.getfield 52, 3) := by decide +kernel
theorem dX8_clearText_12 : decode cX8_clearText 12 = .ok (.iconst 0, 1) := by decide +kernel
theorem dX8_clearText_13 : decode cX8_clearText 13 = .ok (.putfield 249, 3) := by decide +kernel
theorem dX8_clearText_16 : decode cX8_clearText 16 = .ok (.iload_n 1, 1) := by decide +kernel
theorem dX8_clearText_17 : decode cX8_clearText 17 = .ok (.ireturn, 1) := by decide +kernel
theorem dX8_fault_0 : decode cX8_fault 0 = .ok (.aload_n 0, 1) := by decide +kernel
theorem dX8_fault_1 : decode cX8_fault 1 = .ok (.getfield 52, 3) := by decide +kernel
theorem dX8_fault_4 : decode cX8_fault 4 = .ok (.invokevirtual 255, 3) := by decide +kernel
theorem dX8_fault_7 : decode cX8_fault 7 = .ok (.ireturn, 1) := by decide +kernel
theorem dX8_run_0 : decode cX8_run 0 = .ok (.aload_n 0, 1) := by decide +kernel
theorem dX8_run_1 : decode cX8_run 1 = .ok (.getfield 52, 3) := by decide +kernel
theorem dX8_run_4 : decode cX8_run 4 = .ok (.invokevirtual 255, 3) := by decide +kernel
theorem dX8_run_7 : decode cX8_run 7 = .ok (.iconst (-1), 1) := by decide +kernel
theorem dX8_run_8 : decode cX8_run 8 = .ok (.if_icmp .ne 7, 3) := by decide +kernel
theorem dX8_run_11 : decode cX8_run 11 = .ok (.iconst 1, 1) := by decide +kernel
theorem dX8_run_12 : decode cX8_run 12 = .ok (.goto 4, 3) := by decide +kernel
theorem dX8_run_15 : decode cX8_run 15 = .ok (.iconst 0, 1) := by decide +kernel
theorem dX8_run_16 : decode cX8_run 16 = .ok (.invokestatic 89, 3) := by decide +kernel
theorem dX8_run_19 : decode cX8_run 19 = .ok (.aload_n 0, 1) := by decide +kernel
theorem dX8_run_20 : decode cX8_run 20 = .ok (.getfield 45, 3) := by decide +kernel
theorem dX8_run_23 : decode cX8_run 23 = .ok (.aload_n 0, 1) := by decide +kernel
theorem dX8_run_24 : decode cX8_run 24 = .ok (.getfield 10, 3) := by decide +kernel
theorem dX8_run_27 : decode cX8_run 27 = .ok (.invokevirtual 77, 3) := by decide +kernel
theorem dX8_run_30 : decode cX8_run 30 = .ok (.iconst 0, 1) := by decide +kernel
theorem dX8_run_31 : decode cX8_run 31 = .ok (.istore_n 1, 1) := by decide +kernel
theorem dX8_run_32 : decode cX8_run 32 = .ok (.iconst 0, 1) := by decide +kernel
theorem dX8_run_33 : decode cX8_run 33 = .ok (.istore_n 2, 1) := by decide +kernel
theorem dX8_run_34 : decode cX8_run 34 = .ok (.iconst 0, 1) := by decide +kernel
theorem dX8_run_35 : decode cX8_run 35 = .ok (.istore_n 3, 1) := by decide +kernel
theorem dX8_run_36 : decode cX8_run 36 = .ok (.iconst 0, 1) := by decide +kernel
theorem dX8_run_37 : decode cX8_run 37 = .ok (.istore 4, 2) := by decide +kernel
theorem dX8_run_39 : decode cX8_run 39 = .ok (.iconst 0, 1) := by decide +kernel
theorem dX8_run_40 : decode cX8_run 40 = .ok (.istore 5, 2) := by decide +kernel
theorem dX8_run_42 : decode cX8_run 42 = .ok (.iload 5, 2) := by decide +kernel
theorem dX8_run_44 : decode cX8_run 44 = .ok (.aload_n 0, 1) := by decide +kernel
theorem dX8_run_45 : decode cX8_run 45 = .ok (.getfield 52, 3) := by decide +kernel
theorem dX8_run_48 : decode cX8_run 48 = .ok (.getfield 249, 3) := by decide +kernel
theorem dX8_run_51 : decode cX8_run 51 = .ok (.if_icmp .ge 106, 3) := by decide +kernel
theorem dX8_run_54 : decode cX8_run 54 = .ok (.iload 5, 2) := by decide +kernel
theorem dX8_run_56 : decode cX8_run 56 = .ok (.bipush 120, 2) := by decide +kernel
theorem dX8_run_58 : decode cX8_run 58 = .ok (.if_icmp .ge 99, 3) := by decide +kernel
theorem dX8_run_61 : decode cX8_run 61 = .ok (.aload_n 0, 1) := by decide +kernel
theorem dX8_run_62 : decode cX8_run 62 = .ok (.getfield 52, 3) := by decide +kernel
theorem dX8_run_65 : decode cX8_run 65 = .ok (.getfield 258, 3) := by decide +kernel
theorem dX8_run_68 : decode cX8_run 68 = .ok (.iload 5, 2) := by decide +kernel
theorem dX8_run_70 : decode cX8_run 70 = .ok (.caload, 1) := by decide +kernel
theorem dX8_run_71 : decode cX8_run 71 = .ok (.istore 6, 2) := by decide +kernel
theorem dX8_run_73 : decode cX8_run 73 = .ok (.iload 6, 2) := by decide +kernel
theorem dX8_run_75 : decode cX8_run 75 = .ok (.bipush 59, 2) := by decide +kernel
theorem dX8_run_77 : decode cX8_run 77 = .ok (.if_icmp .ne 28, 3) := by decide +kernel
theorem dX8_run_80 : decode cX8_run 80 = .ok (.aload_n 0, 1) := by decide +kernel
theorem dX8_run_81 : decode cX8_run 81 = .ok (.iload_n 2, 1) := by decide +kernel
theorem dX8_run_82 : decode cX8_run 82 = .ok (.iload_n 3, 1) := by decide +kernel
theorem dX8_run_83 : decode cX8_run 83 = .ok (.iload 4, 2) := by decide +kernel
theorem dX8_run_85 : decode cX8_run 85 = .ok (.invokevirtual 262, 3) := by decide +kernel
theorem dX8_run_88 : decode cX8_run 88 = .ok (.ifCond .eq 63, 3) := by decide +kernel
theorem dX8_run_91 : decode cX8_run 91 = .ok (.aload_n 0, 1) := by decide +kernel
theorem dX8_run_92 : decode cX8_run 92 = .ok (.iload_n 2, 1) := by decide +kernel
theorem dX8_run_93 : decode cX8_run 93 = .ok (.iload_n 3, 1) := by decide +kernel
theorem dX8_run_94 : decode cX8_run 94 = .ok (.iload 4, 2) := by decide +kernel
theorem dX8_run_96 : decode cX8_run 96 = .ok (.invokevirtual 265, 3) := by decide +kernel
theorem dX8_run_99 : decode cX8_run 99 = .ok (.iinc 1 1, 3) := by decide +kernel
theorem dX8_run_102 : decode cX8_run 102 = .ok (.goto 49, 3) := by decide +kernel
theorem dX8_run_105 : decode cX8_run 105 = .ok (.iload 6, 2) := by decide +kernel
theorem dX8_run_107 : decode cX8_run 107 = .ok (.bipush 44, 2) := by decide +kernel
theorem dX8_run_109 : decode cX8_run 109 = .ok (.if_icmp .ne 12, 3) := by decide +kernel
theorem dX8_run_112 : decode cX8_run 112 = .ok (.iload 4, 2) := by decide +kernel
theorem dX8_run_114 : decode cX8_run 114 = .ok (.istore_n 3, 1) := by decide +kernel
theorem dX8_run_115 : decode cX8_run 115 = .ok (.iconst 0, 1) := by decide +kernel
theorem dX8_run_116 : decode cX8_run 116 = .ok (.istore 4, 2) := by decide +kernel
theorem dX8_run_118 : decode cX8_run 118 = .ok (.goto 33, 3) := by decide +kernel
theorem dX8_run_121 : decode cX8_run 121 = .ok (.iload 6, 2) := by decide +kernel
theorem dX8_run_123 : decode cX8_run 123 = .ok (.invokestatic 269, 3) := by decide +kernel
theorem dX8_run_126 : decode cX8_run 126 = .ok (.ifCond .eq 19, 3) := by decide +kernel
theorem dX8_run_129 : decode cX8_run 129 = .ok (.iload 4, 2) := by decide +kernel
theorem dX8_run_131 : decode cX8_run 131 = .ok (.bipush 10, 2) := by decide +kernel
theorem dX8_run_133 : decode cX8_run 133 = .ok (.imul, 1) := by decide +kernel
theorem dX8_run_134 : decode cX8_run 134 = .ok (.iload 6, 2) := by decide +kernel
theorem dX8_run_136 : decode cX8_run 136 = .ok (.iadd, 1) := by decide +kernel
theorem dX8_run_137 : decode cX8_run 137 = .ok (.bipush 48, 2) := by decide +kernel
theorem dX8_run_139 : decode cX8_run 139 = .ok (.isub, 1) := by decide +kernel
theorem dX8_run_140 : decode cX8_run 140 = .ok (.istore 4, 2) := by decide +kernel
theorem dX8_run_142 : decode cX8_run 142 = .ok (.goto 9, 3) := by decide +kernel
theorem dX8_run_145 : decode cX8_run 145 = .ok (.iload 6, 2) := by decide +kernel
theorem dX8_run_147 : decode cX8_run 147 = .ok (.istore_n 2, 1) := by decide +kernel
theorem dX8_run_148 : decode cX8_run 148 = .ok (.iconst 0, 1) := by decide +kernel
theorem dX8_run_149 : decode cX8_run 149 = .ok (.istore 4, 2) := by decide +kernel
theorem dX8_run_151 : decode cX8_run 151 = .ok (.iinc 5 1, 3) := by decide +kernel
theorem dX8_run_154 : decode cX8_run 154 = .ok (.goto (-112), 3) := by decide +kernel
theorem dX8_run_157 : decode cX8_run 157 = .ok (.iload_n 1, 1) := by decide +kernel
theorem dX8_run_158 : decode cX8_run 158 = .ok (.ireturn, 1) := by decide +kernel
theorem dX8_undo_0 : decode cX8_undo 0 = .ok (.aload_n 0, 1) := by decide +kernel
theorem dX8_undo_1 : decode cX8_undo 1 = .ok (.getfield 45, 3) := by decide +kernel
theorem dX8_undo_4 : decode cX8_undo 4 = .ok (.getfield 272, 3) := by decide +kernel
theorem dX8_undo_7 : decode cX8_undo 7 = .ok (.ifCond .le 7, 3) := by decide +kernel
theorem dX8_undo_10 : decode cX8_undo 10 = .ok (.iconst 1, 1) := by decide +kernel
theorem dX8_undo_11 : decode cX8_undo 11 = .ok (.goto 4, 3) := by decide +kernel
theorem dX8_undo_14 : decode cX8_undo 14 = .ok (.iconst 0, 1) := by decide +kernel
theorem dX8_undo_15 : decode cX8_undo 15 = .ok (.invokestatic 74, 3) := by decide +kernel
theorem dX8_undo_18 : decode cX8_undo 18 = .ok (.aload_n 0, 1) := by decide +kernel
theorem dX8_undo_19 : decode cX8_undo 19 = .ok (.getfield 45, 3) := by decide +kernel
theorem dX8_undo_22 : decode cX8_undo 22 = .ok (.aload_n 0, 1) := by decide +kernel
theorem dX8_undo_23 : decode cX8_undo 23 = .ok (.getfield 10, 3) := by decide +kernel
theorem dX8_undo_26 : decode cX8_undo 26 = .ok (.invokevirtual 273, 3) := by decide +kernel
theorem dX8_undo_29 : decode cX8_undo 29 = .ok (.aload_n 0, 1) := by decide +kernel
theorem dX8_undo_30 : decode cX8_undo 30 = .ok (.getfield 45, 3) := by decide +kernel
theorem dX8_undo_33 : decode cX8_undo 33 = .ok (.getfield 272, 3) := by decide +kernel
theorem dX8_undo_36 : decode cX8_undo 36 = .ok (.ireturn, 1) := by decide +kernel
theorem dX8_checksum_0 : decode cX8_checksum 0 = .ok (.ldc2_w 276, 3) := by decide +kernel
theorem dX8_checksum_3 : decode cX8_checksum 3 = .ok (.aload_n 0, 1) := by decide +kernel
theorem dX8_checksum_4 : decode cX8_checksum 4 = .ok (.getfield 10, 3) := by decide +kernel
theorem dX8_checksum_7 : decode cX8_checksum 7 = .ok (.getfield 56, 3) := by decide +kernel
theorem dX8_checksum_10 : decode cX8_checksum 10 = .ok (.getfield 70, 3) := by decide +kernel
theorem dX8_checksum_13 : decode cX8_checksum 13 = .ok (.i2l, 1) := by decide +kernel
theorem dX8_checksum_14 : decode cX8_checksum 14 = .ok (.invokestatic 278, 3) := by decide +kernel
theorem dX8_checksum_17 : decode cX8_checksum 17 = .ok (.lstore_n 1, 1) := by decide +kernel
theorem dX8_checksum_18 : decode cX8_checksum 18 = .ok (.iconst 0, 1) := by decide +kernel
theorem dX8_checksum_19 : decode cX8_checksum 19 = .ok (.istore_n 3, 1) := by decide +kernel
theorem dX8_checksum_20 : decode cX8_checksum 20 = .ok (.iload_n 3, 1) := by decide +kernel
theorem dX8_checksum_21 : decode cX8_checksum 21 = .ok (.aload_n 0, 1) := by decide +kernel
theorem dX8_checksum_22 : decode cX8_checksum 22 = .ok (.getfield 10, 3) := by decide +kernel
theorem dX8_checksum_25 : decode cX8_checksum 25 = .ok (.getfield 56, 3) := by decide +kernel
theorem dX8_checksum_28 : decode cX8_checksum 28 = .ok (.getfield 70, 3) := by decide +kernel
theorem dX8_checksum_31 : decode cX8_checksum 31 = .ok (.if_icmp .ge 33, 3) := by decide +kernel
theorem dX8_checksum_34 : decode cX8_checksum 34 = .ok (.iload_n 3, 1) := by decide +kernel
theorem dX8_checksum_35 : decode cX8_checksum 35 = .ok (.bipush 16, 2) := by decide +kernel
theorem dX8_checksum_37 : decode cX8_checksum 37 = .ok (.if_icmp .ge 27, 3) := by decide +kernel
theorem dX8_checksum_40 : decode cX8_checksum 40 = .ok (.lload_n 1, 1) := by decide +kernel
theorem dX8_checksum_41 : decode cX8_checksum 41 = .ok (.aload_n 0, 1) := by decide +kernel
theorem dX8_checksum_42 : decode cX8_checksum 42 = .ok (.getfield 10, 3) := by decide +kernel
theorem dX8_checksum_45 : decode cX8_checksum 45 = .ok (.getfield 56, 3) := by decide +kernel
theorem dX8_checksum_48 : decode cX8_checksum 48 = .ok (.getfield 92, 3) := by decide +kernel
theorem dX8_checksum_51 : decode cX8_checksum 51 = .ok (.iload_n 3, 1) := by decide +kernel
theorem dX8_checksum_52 : decode cX8_checksum 52 = .ok (.iaload, 1) := by decide +kernel
theorem dX8_checksum_53 : decode cX8_checksum 53 = .ok (.i2l, 1) := by decide +kernel
theorem dX8_checksum_54 : decode cX8_checksum 54 = .ok (.invokestatic 278, 3) := by decide +kernel
theorem dX8_checksum_57 : decode cX8_checksum 57 = .ok (.lstore_n 1, 1) := by decide +kernel
theorem dX8_checksum_58 : decode cX8_checksum 58 = .ok (.iinc 3 1, 3) := by decide +kernel
theorem dX8_checksum_61 : decode cX8_checksum 61 = .ok (.goto (-41), 3) := by decide +kernel
theorem dX8_checksum_64 : decode cX8_checksum 64 = .ok (.lload_n 1, 1) := by decide +kernel
theorem dX8_checksum_65 : decode cX8_checksum 65 = .ok (.aload_n 0, 1) := by decide +kernel
theorem dX8_checksum_66 : decode cX8_checksum 66 = .ok (.getfield 10, 3) := by decide +kernel
theorem dX8_checksum_69 : decode cX8_checksum 69 = .ok (.getfield 147, 3) := by decide +kernel
theorem dX8_checksum_72 : decode cX8_checksum 72 = .ok (.i2l, 1) := by decide +kernel
theorem dX8_checksum_73 : decode cX8_checksum 73 = .ok (.invokestatic 278, 3) := by decide +kernel
theorem dX8_checksum_76 : decode cX8_checksum 76 = .ok (.lstore_n 1, 1) := by decide +kernel
theorem dX8_checksum_77 : decode cX8_checksum 77 = .ok (.iconst 0, 1) := by decide +kernel
theorem dX8_checksum_78 : decode cX8_checksum 78 = .ok (.istore_n 3, 1) := by decide +kernel
theorem dX8_checksum_79 : decode cX8_checksum 79 = .ok (.iload_n 3, 1) := by decide +kernel
theorem dX8_checksum_80 : decode cX8_checksum 80 = .ok (.bipush 10, 2) := by decide +kernel
theorem dX8_checksum_82 : decode cX8_checksum 82 = .ok (.if_icmp .ge 49, 3) := by decide +kernel
theorem dX8_checksum_85 : decode cX8_checksum 85 = .ok (.iconst 0, 1) := by decide +kernel
theorem dX8_checksum_86 : decode cX8_checksum 86 = .ok (.istore 4, 2) := by decide +kernel
theorem dX8_checksum_88 : decode cX8_checksum 88 = .ok (.iload 4, 2) := by decide +kernel
theorem dX8_checksum_90 : decode cX8_checksum 90 = .ok (.bipush 6, 2) := by decide +kernel
theorem dX8_checksum_92 : decode cX8_checksum 92 = .ok (.if_icmp .gt 33, 3) := by decide +kernel
theorem dX8_checksum_95 : decode cX8_checksum 95 = .ok (.aload_n 0, 1) := by decide +kernel
theorem dX8_checksum_96 : decode cX8_checksum 96 = .ok (.getfield 10, 3) := by decide +kernel
theorem dX8_checksum_99 : decode cX8_checksum 99 = .ok (.iload_n 3, 1) := by decide +kernel
theorem dX8_checksum_100 : decode cX8_checksum 100 = .ok (.invokevirtual 125, 3) := by decide +kernel
theorem dX8_checksum_103 : decode cX8_checksum 103 = .ok (.ifCond .eq 22, 3) := by decide +kernel
theorem dX8_checksum_106 : decode cX8_checksum 106 = .ok (.lload_n 1, 1) := by decide +kernel
theorem dX8_checksum_107 : decode cX8_checksum 107 = .ok (.aload_n 0, 1) := by decide +kernel
theorem dX8_checksum_108 : decode cX8_checksum 108 = .ok (.iload_n 3, 1) := by decide +kernel
theorem dX8_checksum_109 : decode cX8_checksum 109 = .ok (.iload 4, 2) := by decide +kernel
theorem dX8_checksum_111 : decode cX8_checksum 111 = .ok (.invokevirtual 282, 3) := by decide +kernel
theorem dX8_checksum_114 : decode cX8_checksum 114 = .ok (.i2l, 1) := by decide +kernel
theorem dX8_checksum_115 : decode cX8_checksum 115 = .ok (.invokestatic 278, 3) := by decide +kernel
theorem dX8_checksum_118 : decode cX8_checksum 118 = .ok (.lstore_n 1, 1) := by decide +kernel
theorem dX8_checksum_119 : decode cX8_checksum 119 = .ok (.iinc 4 1, 3) := by decide +kernel
theorem dX8_checksum_122 : decode cX8_checksum 122 = .ok (.goto (-34), 3) := by decide +kernel
theorem dX8_checksum_125 : decode cX8_checksum 125 = .ok (.iinc 3 1, 3) := by decide +kernel
theorem dX8_checksum_128 : decode cX8_checksum 128 = .ok (.goto (-49), 3) := by decide +kernel
theorem dX8_checksum_131 : decode cX8_checksum 131 = .ok (.lload_n 1, 1) := by decide +kernel
theorem dX8_checksum_132 : decode cX8_checksum 132 = .ok (.aload_n 0, 1) := by decide +kernel
theorem dX8_checksum_133 : decode cX8_checksum 133 = .ok (.getfield 10, 3) := by decide +kernel
theorem dX8_checksum_136 : decode cX8_checksum 136 = .ok (.getfield 180, 3) := by decide +kernel
theorem dX8_checksum_139 : decode cX8_checksum 139 = .ok (.i2l, 1) := by decide +kernel
theorem dX8_checksum_140 : decode cX8_checksum 140 = .ok (.invokestatic 278, 3) := by decide +kernel
theorem dX8_checksum_143 : decode cX8_checksum 143 = .ok (.aload_n 0, 1) := by decide +kernel
theorem dX8_checksum_144 : decode cX8_checksum 144 = .ok (.getfield 10, 3) := by decide +kernel
theorem dX8_checksum_147 : decode cX8_checksum 147 = .ok (.getfield 183, 3) := by decide +kernel
theorem dX8_checksum_150 : decode cX8_checksum 150 = .ok (.i2l, 1) := by decide +kernel
theorem dX8_checksum_151 : decode cX8_checksum 151 = .ok (.invokestatic 278, 3) := by decide +kernel
theorem dX8_checksum_154 : decode cX8_checksum 154 = .ok (.aload_n 0, 1) := by decide +kernel
theorem dX8_checksum_155 : decode cX8_checksum 155 = .ok (.getfield 10, 3) := by decide +kernel
theorem dX8_checksum_158 : decode cX8_checksum 158 = .ok (.getfield 186, 3) := by decide +kernel
theorem dX8_checksum_161 : decode cX8_checksum 161 = .ok (.i2l, 1) := by decide +kernel
theorem dX8_checksum_162 : decode cX8_checksum 162 = .ok (.invokestatic 278, 3) := by decide +kernel
theorem dX8_checksum_165 : decode cX8_checksum 165 = .ok (.lstore_n 1, 1) := by decide +kernel
theorem dX8_checksum_166 : decode cX8_checksum 166 = .ok (.lload_n 1, 1) := by decide +kernel
theorem dX8_checksum_167 : decode cX8_checksum 167 = .ok (.aload_n 0, 1) := by decide +kernel
theorem dX8_checksum_168 : decode cX8_checksum 168 = .ok (.getfield 10, 3) := by decide +kernel
theorem dX8_checksum_171 : decode cX8_checksum 171 = .ok (.getfield 195, 3) := by decide +kernel
theorem dX8_checksum_174 : decode cX8_checksum 174 = .ok (.getfield 199, 3) := by decide +kernel
theorem dX8_checksum_177 : decode cX8_checksum 177 = .ok (.i2l, 1) := by decide +kernel
theorem dX8_checksum_178 : decode cX8_checksum 178 = .ok (.invokestatic 278, 3) := by decide +kernel
theorem dX8_checksum_181 : decode cX8_checksum 181 = .ok (.lstore_n 1, 1) := by decide +kernel
theorem dX8_checksum_182 : decode cX8_checksum 182 = .ok (.iconst 0, 1) := by decide +kernel
theorem dX8_checksum_183 : decode cX8_checksum 183 = .ok (.istore_n 3, 1) := by decide +kernel
theorem dX8_checksum_184 : decode cX8_checksum 184 = .ok (.iload_n 3, 1) := by decide +kernel
theorem dX8_checksum_185 : decode cX8_checksum 185 = .ok (.aload_n 0, 1) := by decide +kernel
theorem dX8_checksum_186 : decode cX8_checksum 186 = .ok (.getfield 10, 3) := by decide +kernel
theorem dX8_checksum_189 : decode cX8_checksum 189 = .ok (.getfield 195, 3) := by decide +kernel
theorem dX8_checksum_192 : decode cX8_checksum 192 = .ok (.getfield 199, 3) := by decide +kernel
theorem dX8_checksum_195 : decode cX8_checksum 195 = .ok (.if_icmp .ge 49, 3) := by decide +kernel
theorem dX8_checksum_198 : decode cX8_checksum 198 = .ok (.iload_n 3, 1) := by decide +kernel
theorem dX8_checksum_199 : decode cX8_checksum 199 = .ok (.bipush 40, 2) := by decide +kernel
theorem dX8_checksum_201 : decode cX8_checksum 201 = .ok (.if_icmp .ge 43, 3) := by decide +kernel
theorem dX8_checksum_204 : decode cX8_checksum 204 = .ok (.iconst 0, 1) := by decide +kernel
theorem dX8_checksum_205 : decode cX8_checksum 205 = .ok (.istore 4, 2) := by decide +kernel
theorem dX8_checksum_207 : decode cX8_checksum 207 = .ok (.iload 4, 2) := by decide +kernel
theorem dX8_checksum_209 : decode cX8_checksum 209 = .ok (.iconst 4, 1) := by decide +kernel
theorem dX8_checksum_210 : decode cX8_checksum 210 = .ok (.if_icmp .gt 28, 3) := by decide +kernel
theorem dX8_checksum_213 : decode cX8_checksum 213 = .ok (.lload_n 1, 1) := by decide +kernel
theorem dX8_checksum_214 : decode cX8_checksum 214 = .ok (.aload_n 0, 1) := by decide +kernel
theorem dX8_checksum_215 : decode cX8_checksum 215 = .ok (.getfield 10, 3) := by decide +kernel
theorem dX8_checksum_218 : decode cX8_checksum 218 = .ok (.getfield 195, 3) := by decide +kernel
theorem dX8_checksum_221 : decode cX8_checksum 221 = .ok (.iload_n 3, 1) := by decide +kernel
theorem dX8_checksum_222 : decode cX8_checksum 222 = .ok (.iload 4, 2) := by decide +kernel
theorem dX8_checksum_224 : decode cX8_checksum 224 = .ok (.invokevirtual 202, 3) := by decide +kernel
theorem dX8_checksum_227 : decode cX8_checksum 227 = .ok (.i2l, 1) := by decide +kernel
theorem dX8_checksum_228 : decode cX8_checksum 228 = .ok (.invokestatic 278, 3) := by decide +kernel
theorem dX8_checksum_231 : decode cX8_checksum 231 = .ok (.lstore_n 1, 1) := by decide +kernel
theorem dX8_checksum_232 : decode cX8_checksum 232 = .ok (.iinc 4 1, 3) := by decide +kernel
theorem dX8_checksum_235 : decode cX8_checksum 235 = .ok (.goto (-28), 3) := by decide +kernel
theorem dX8_checksum_238 : decode cX8_checksum 238 = .ok (.iinc 3 1, 3) := by decide +kernel
theorem dX8_checksum_241 : decode cX8_checksum 241 = .ok (.goto (-57), 3) := by decide +kernel
theorem dX8_checksum_244 : decode cX8_checksum 244 = .ok (.aload_n 0, 1) := by decide +kernel
theorem dX8_checksum_245 : decode cX8_checksum 245 = .ok (.getfield 29, 3) := by decide +kernel
theorem dX8_checksum_248 : decode cX8_checksum 248 = .ok (.aload_n 0, 1) := by decide +kernel
theorem dX8_checksum_249 : decode cX8_checksum 249 = .ok (.getfield 10, 3) := by decide +kernel
theorem dX8_checksum_252 : decode cX8_checksum 252 = .ok (.invokevirtual 208, 3) := by decide +kernel
theorem dX8_checksum_255 : decode cX8_checksum 255 = .ok (.lload_n 1, 1) := by decide +kernel
theorem dX8_checksum_256 : decode cX8_checksum 256 = .ok (.aload_n 0, 1) := by decide +kernel
theorem dX8_checksum_257 : decode cX8_checksum 257 = .ok (.getfield 29, 3) := by decide +kernel
theorem dX8_checksum_260 : decode cX8_checksum 260 = .ok (.getfield 211, 3) := by decide +kernel
theorem dX8_checksum_263 : decode cX8_checksum 263 = .ok (.i2l, 1) := by decide +kernel
theorem dX8_checksum_264 : decode cX8_checksum 264 = .ok (.invokestatic 278, 3) := by decide +kernel
theorem dX8_checksum_267 : decode cX8_checksum 267 = .ok (.aload_n 0, 1) := by decide +kernel
theorem dX8_checksum_268 : decode cX8_checksum 268 = .ok (.getfield 29, 3) := by decide +kernel
theorem dX8_checksum_271 : decode cX8_checksum 271 = .ok (.invokevirtual 214, 3) := by decide +kernel
theorem dX8_checksum_274 : decode cX8_checksum 274 = .ok (.i2l, 1) := by decide +kernel
theorem dX8_checksum_275 : decode cX8_checksum 275 = .ok (.invokestatic 278, 3) := by decide +kernel
theorem dX8_checksum_278 : decode cX8_checksum 278 = .ok (.lstore_n 1, 1) := by decide +kernel
theorem dX8_checksum_279 : decode cX8_checksum 279 = .ok (.lload_n 1, 1) := by decide +kernel
theorem dX8_checksum_280 : decode cX8_checksum 280 = .ok (.aload_n 0, 1) := by decide +kernel
theorem dX8_checksum_281 : decode cX8_checksum 281 = .ok (.getfield 52, 3) := by decide +kernel
theorem dX8_checksum_284 : decode cX8_checksum 284 = .ok (.getfield 249, 3) := by decide +kernel
theorem dX8_checksum_287 : decode cX8_checksum 287 = .ok (.i2l, 1) := by decide +kernel
theorem dX8_checksum_288 : decode cX8_checksum 288 = .ok (.invokestatic 278, 3) := by decide +kernel
theorem dX8_checksum_291 : decode cX8_checksum 291 = .ok (.aload_n 0, 1) := by decide +kernel
theorem dX8_checksum_292 : decode cX8_checksum 292 = .ok (.getfield 45, 3) := by decide +kernel
theorem dX8_checksum_295 : decode cX8_checksum 295 = .ok (.getfield 272, 3) := by decide +kernel
theorem dX8_checksum_298 : decode cX8_checksum 298 = .ok (.i2l, 1) := by decide +kernel
theorem dX8_checksum_299 : decode cX8_checksum 299 = .ok (.invokestatic 278, 3) := by decide +kernel
theorem dX8_checksum_302 : decode cX8_checksum 302 = .ok (.lreturn, 1) := by decide +kernel
theorem dX8_isAllowed_0 : decode cX8_isAllowed 0 = .ok (.iload_n 1, 1) := by decide +kernel
theorem dX8_isAllowed_1 : decode cX8_isAllowed 1 = .ok (.tableswitch 231 97 116 #[174, 203, 231, 223, 231, 164, 231, 231, 231, 231, 231, 154, 231, 231, 231, 213, 122, 231, 231, 95], 95) := by decide +kernel
theorem dX8_isAllowed_96 : decode cX8_isAllowed 96 = .ok (.iload_n 3, 1) := by decide +kernel
theorem dX8_isAllowed_97 : decode cX8_isAllowed 97 = .ok (.iconst 1, 1) := by decide +kernel
theorem dX8_isAllowed_98 : decode cX8_isAllowed 98 = .ok (.bipush 99, 2) := by decide +kernel
theorem dX8_isAllowed_100 : decode cX8_isAllowed 100 = .ok (.invokestatic 85, 3) := by decide +kernel
theorem dX8_isAllowed_103 : decode cX8_isAllowed 103 = .ok (.ifCond .eq 18, 3) := by decide +kernel
theorem dX8_isAllowed_106 : decode cX8_isAllowed 106 = .ok (.aload_n 0, 1) := by decide +kernel
theorem dX8_isAllowed_107 : decode cX8_isAllowed 107 = .ok (.getfield 10, 3) := by decide +kernel
theorem dX8_isAllowed_110 : decode cX8_isAllowed 110 = .ok (.invokevirtual 118, 3) := by decide +kernel
theorem dX8_isAllowed_113 : decode cX8_isAllowed 113 = .ok (.iconst (-1), 1) := by decide +kernel
theorem dX8_isAllowed_114 : decode cX8_isAllowed 114 = .ok (.if_icmp .eq 7, 3) := by decide +kernel
theorem dX8_isAllowed_117 : decode cX8_isAllowed 117 = .ok (.iconst 1, 1) := by decide +kernel
theorem dX8_isAllowed_118 : decode cX8_isAllowed 118 = .ok (.goto 4, 3) := by decide +kernel
theorem dX8_isAllowed_121 : decode cX8_isAllowed 121 = .ok (.iconst 0, 1) := by decide +kernel
theorem dX8_isAllowed_122 : decode cX8_isAllowed 122 = .ok (.ireturn, 1) := by decide +kernel
theorem dX8_isAllowed_123 : decode cX8_isAllowed 123 = .ok (.aload_n 0, 1) := by decide +kernel
theorem dX8_isAllowed_124 : decode cX8_isAllowed 124 = .ok (.getfield 10, 3) := by decide +kernel
theorem dX8_isAllowed_127 : decode cX8_isAllowed 127 = .ok (.iload_n 2, 1) := by decide +kernel
theorem dX8_isAllowed_128 : decode cX8_isAllowed 128 = .ok (.iconst 0, 1) := by decide +kernel
theorem dX8_isAllowed_129 : decode cX8_isAllowed 129 = .ok (.invokevirtual 126, 3) := by decide +kernel
theorem dX8_isAllowed_132 : decode cX8_isAllowed 132 = .ok (.ifCond .eq 21, 3) := by decide +kernel
theorem dX8_isAllowed_135 : decode cX8_isAllowed 135 = .ok (.aload_n 0, 1) := by decide +kernel
theorem dX8_isAllowed_136 : decode cX8_isAllowed 136 = .ok (.getfield 10, 3) := by decide +kernel
theorem dX8_isAllowed_139 : decode cX8_isAllowed 139 = .ok (.getfield 56, 3) := by decide +kernel
theorem dX8_isAllowed_142 : decode cX8_isAllowed 142 = .ok (.iload_n 3, 1) := by decide +kernel
theorem dX8_isAllowed_143 : decode cX8_isAllowed 143 = .ok (.invokevirtual 60, 3) := by decide +kernel
theorem dX8_isAllowed_146 : decode cX8_isAllowed 146 = .ok (.ifCond .eq 7, 3) := by decide +kernel
theorem dX8_isAllowed_149 : decode cX8_isAllowed 149 = .ok (.iconst 1, 1) := by decide +kernel
theorem dX8_isAllowed_150 : decode cX8_isAllowed 150 = .ok (.goto 4, 3) := by decide +kernel
theorem dX8_isAllowed_153 : decode cX8_isAllowed 153 = .ok (.iconst 0, 1) := by decide +kernel
theorem dX8_isAllowed_154 : decode cX8_isAllowed 154 = .ok (.ireturn, 1) := by decide +kernel
theorem dX8_isAllowed_155 : decode cX8_isAllowed 155 = .ok (.aload_n 0, 1) := by decide +kernel
theorem dX8_isAllowed_156 : decode cX8_isAllowed 156 = .ok (.getfield 10, 3) := by decide +kernel
theorem dX8_isAllowed_159 : decode cX8_isAllowed 159 = .ok (.iload_n 2, 1) := by decide +kernel
theorem dX8_isAllowed_160 : decode cX8_isAllowed 160 = .ok (.iload_n 3, 1) := by decide +kernel
theorem dX8_isAllowed_161 : decode cX8_isAllowed 161 = .ok (.invokevirtual 132, 3) := by decide +kernel
theorem dX8_isAllowed_164 : decode cX8_isAllowed 164 = .ok (.ireturn, 1) := by decide +kernel
theorem dX8_isAllowed_165 : decode cX8_isAllowed 165 = .ok (.aload_n 0, 1) := by decide +kernel
theorem dX8_isAllowed_166 : decode cX8_isAllowed 166 = .ok (.getfield 10, 3) := by decide +kernel
theorem dX8_isAllowed_169 : decode cX8_isAllowed 169 = .ok (.iload_n 3, 1) := by decide +kernel
theorem dX8_isAllowed_170 : decode cX8_isAllowed 170 = .ok (.iconst 0, 1) := by decide +kernel
theorem dX8_isAllowed_171 : decode cX8_isAllowed 171 = .ok (.invokevirtual 126, 3) := by decide +kernel
theorem dX8_isAllowed_174 : decode cX8_isAllowed 174 = .ok (.ireturn, 1) := by decide +kernel
theorem dX8_isAllowed_175 : decode cX8_isAllowed 175 = .ok (.aload_n 0, 1) := by decide +kernel
theorem dX8_isAllowed_176 : decode cX8_isAllowed 176 = .ok (.getfield 10, 3) := by decide +kernel
theorem dX8_isAllowed_179 : decode cX8_isAllowed 179 = .ok (.iload_n 3, 1) := by decide +kernel
theorem dX8_isAllowed_180 : decode cX8_isAllowed 180 = .ok (.invokevirtual 125, 3) := by decide +kernel
theorem dX8_isAllowed_183 : decode cX8_isAllowed 183 = .ok (.ifCond .eq 19, 3) := by decide +kernel
theorem dX8_isAllowed_186 : decode cX8_isAllowed 186 = .ok (.aload_n 0, 1) := by decide +kernel
theorem dX8_isAllowed_187 : decode cX8_isAllowed 187 = .ok (.getfield 10, 3) := by decide +kernel
theorem dX8_isAllowed_190 : decode cX8_isAllowed 190 = .ok (.iload_n 3, 1) := by decide +kernel
theorem dX8_isAllowed_191 : decode cX8_isAllowed 191 = .ok (.iconst 2, 1) := by decide +kernel
theorem dX8_isAllowed_192 : decode cX8_isAllowed 192 = .ok (.invokevirtual 126, 3) := by decide +kernel
theorem dX8_isAllowed_195 : decode cX8_isAllowed 195 = .ok (.ifCond .ne 7, 3) := by decide +kernel
theorem dX8_isAllowed_198 : decode cX8_isAllowed 198 = .ok (.iconst 1, 1) := by decide +kernel
theorem dX8_isAllowed_199 : decode cX8_isAllowed 199 = .ok (.goto 4, 3) := by decide +kernel
theorem dX8_isAllowed_202 : decode cX8_isAllowed 202 = .ok (.iconst 0, 1) := by decide +kernel
theorem dX8_isAllowed_203 : decode cX8_isAllowed 203 = .ok (.ireturn, 1) := by decide +kernel
theorem dX8_isAllowed_204 : decode cX8_isAllowed 204 = .ok (.aload_n 0, 1) := by decide +kernel
theorem dX8_isAllowed_205 : decode cX8_isAllowed 205 = .ok (.getfield 10, 3) := by decide +kernel
theorem dX8_isAllowed_208 : decode cX8_isAllowed 208 = .ok (.iload_n 3, 1) := by decide +kernel
theorem dX8_isAllowed_209 : decode cX8_isAllowed 209 = .ok (.iconst 2, 1) := by decide +kernel
theorem dX8_isAllowed_210 : decode cX8_isAllowed 210 = .ok (.invokevirtual 126, 3) := by decide +kernel
theorem dX8_isAllowed_213 : decode cX8_isAllowed 213 = .ok (.ireturn, 1) := by decide +kernel
theorem dX8_isAllowed_214 : decode cX8_isAllowed 214 = .ok (.aload_n 0, 1) := by decide +kernel
theorem dX8_isAllowed_215 : decode cX8_isAllowed 215 = .ok (.getfield 10, 3) := by decide +kernel
theorem dX8_isAllowed_218 : decode cX8_isAllowed 218 = .ok (.iload_n 3, 1) := by decide +kernel
theorem dX8_isAllowed_219 : decode cX8_isAllowed 219 = .ok (.iconst 1, 1) := by decide +kernel
theorem dX8_isAllowed_220 : decode cX8_isAllowed 220 = .ok (.invokevirtual 126, 3) := by decide +kernel
theorem dX8_isAllowed_223 : decode cX8_isAllowed 223 = .ok (.ireturn, 1) := by decide +kernel
theorem dX8_isAllowed_224 : decode cX8_isAllowed 224 = .ok (.iload_n 3, 1) := by decide +kernel
theorem dX8_isAllowed_225 : decode cX8_isAllowed 225 = .ok (.iconst 1, 1) := by decide +kernel
theorem dX8_isAllowed_226 : decode cX8_isAllowed 226 = .ok (.bipush 99, 2) := by decide +kernel
theorem dX8_isAllowed_228 : decode cX8_isAllowed 228 = .ok (.invokestatic 85, 3) := by decide +kernel
theorem dX8_isAllowed_231 : decode cX8_isAllowed 231 = .ok (.ireturn, 1) := by decide +kernel
theorem dX8_isAllowed_232 : decode cX8_isAllowed 232 = .ok (.iconst 0, 1) := by decide +kernel
theorem dX8_isAllowed_233 : decode cX8_isAllowed 233 = .ok (.ireturn, 1) := by decide +kernel
theorem dX8_carryOut_0 : decode cX8_carryOut 0 = .ok (.iload_n 1, 1) := by decide +kernel
theorem dX8_carryOut_1 : decode cX8_carryOut 1 = .ok (.tableswitch 193 97 116 #[145, 157, 193, 181, 193, 133, 193, 193, 193, 193, 193, 120, 193, 193, 193, 169, 107, 193, 193, 95], 95) := by decide +kernel
theorem dX8_carryOut_96 : decode cX8_carryOut 96 = .ok (.aload_n 0, 1) := by decide +kernel
theorem dX8_carryOut_97 : decode cX8_carryOut 97 = .ok (.getfield 10, 3) := by decide +kernel
theorem dX8_carryOut_100 : decode cX8_carryOut 100 = .ok (.iload_n 3, 1) := by decide +kernel
theorem dX8_carryOut_101 : decode cX8_carryOut 101 = .ok (.invokevirtual 122, 3) := by decide +kernel
theorem dX8_carryOut_104 : decode cX8_carryOut 104 = .ok (.pop, 1) := by decide +kernel
theorem dX8_carryOut_105 : decode cX8_carryOut 105 = .ok (.goto 89, 3) := by decide +kernel
theorem dX8_carryOut_108 : decode cX8_carryOut 108 = .ok (.aload_n 0, 1) := by decide +kernel
theorem dX8_carryOut_109 : decode cX8_carryOut 109 = .ok (.getfield 38, 3) := by decide +kernel
theorem dX8_carryOut_112 : decode cX8_carryOut 112 = .ok (.iload_n 2, 1) := by decide +kernel
theorem dX8_carryOut_113 : decode cX8_carryOut 113 = .ok (.iload_n 3, 1) := by decide +kernel
theorem dX8_carryOut_114 : decode cX8_carryOut 114 = .ok (.invokevirtual 129, 3) := by decide +kernel
theorem dX8_carryOut_117 : decode cX8_carryOut 117 = .ok (.pop, 1) := by decide +kernel
theorem dX8_carryOut_118 : decode cX8_carryOut 118 = .ok (.goto 76, 3) := by decide +kernel
theorem dX8_carryOut_121 : decode cX8_carryOut 121 = .ok (.aload_n 0, 1) := by decide +kernel
theorem dX8_carryOut_122 : decode cX8_carryOut 122 = .ok (.getfield 38, 3) := by decide +kernel
theorem dX8_carryOut_125 : decode cX8_carryOut 125 = .ok (.iload_n 2, 1) := by decide +kernel
theorem dX8_carryOut_126 : decode cX8_carryOut 126 = .ok (.iload_n 3, 1) := by decide +kernel
theorem dX8_carryOut_127 : decode cX8_carryOut 127 = .ok (.invokevirtual 135, 3) := by decide +kernel
theorem dX8_carryOut_130 : decode cX8_carryOut 130 = .ok (.pop, 1) := by decide +kernel
theorem dX8_carryOut_131 : decode cX8_carryOut 131 = .ok (.goto 63, 3) := by decide +kernel
theorem dX8_carryOut_134 : decode cX8_carryOut 134 = .ok (.aload_n 0, 1) := by decide +kernel
theorem dX8_carryOut_135 : decode cX8_carryOut 135 = .ok (.getfield 38, 3) := by decide +kernel
theorem dX8_carryOut_138 : decode cX8_carryOut 138 = .ok (.iload_n 3, 1) := by decide +kernel
theorem dX8_carryOut_139 : decode cX8_carryOut 139 = .ok (.invokevirtual 138, 3) := by decide +kernel
theorem dX8_carryOut_142 : decode cX8_carryOut 142 = .ok (.pop, 1) := by decide +kernel
theorem dX8_carryOut_143 : decode cX8_carryOut 143 = .ok (.goto 51, 3) := by decide +kernel
theorem dX8_carryOut_146 : decode cX8_carryOut 146 = .ok (.aload_n 0, 1) := by decide +kernel
theorem dX8_carryOut_147 : decode cX8_carryOut 147 = .ok (.getfield 38, 3) := by decide +kernel
theorem dX8_carryOut_150 : decode cX8_carryOut 150 = .ok (.iload_n 3, 1) := by decide +kernel
theorem dX8_carryOut_151 : decode cX8_carryOut 151 = .ok (.invokevirtual 141, 3) := by decide +kernel
theorem dX8_carryOut_154 : decode cX8_carryOut 154 = .ok (.pop, 1) := by decide +kernel
theorem dX8_carryOut_155 : decode cX8_carryOut 155 = .ok (.goto 39, 3) := by decide +kernel
theorem dX8_carryOut_158 : decode cX8_carryOut 158 = .ok (.aload_n 0, 1) := by decide +kernel
theorem dX8_carryOut_159 : decode cX8_carryOut 159 = .ok (.getfield 10, 3) := by decide +kernel
theorem dX8_carryOut_162 : decode cX8_carryOut 162 = .ok (.iload_n 3, 1) := by decide +kernel
theorem dX8_carryOut_163 : decode cX8_carryOut 163 = .ok (.invokevirtual 144, 3) := by decide +kernel
theorem dX8_carryOut_166 : decode cX8_carryOut 166 = .ok (.pop, 1) := by decide +kernel
theorem dX8_carryOut_167 : decode cX8_carryOut 167 = .ok (.goto 27, 3) := by decide +kernel
theorem dX8_carryOut_170 : decode cX8_carryOut 170 = .ok (.aload_n 0, 1) := by decide +kernel
theorem dX8_carryOut_171 : decode cX8_carryOut 171 = .ok (.getfield 38, 3) := by decide +kernel
theorem dX8_carryOut_174 : decode cX8_carryOut 174 = .ok (.iload_n 3, 1) := by decide +kernel
theorem dX8_carryOut_175 : decode cX8_carryOut 175 = .ok (.invokevirtual 189, 3) := by decide +kernel
theorem dX8_carryOut_178 : decode cX8_carryOut 178 = .ok (.pop, 1) := by decide +kernel
theorem dX8_carryOut_179 : decode cX8_carryOut 179 = .ok (.goto 15, 3) := by decide +kernel
theorem dX8_carryOut_182 : decode cX8_carryOut 182 = .ok (.aload_n 0, 1) := by decide +kernel
theorem dX8_carryOut_183 : decode cX8_carryOut 183 = .ok (.getfield 38, 3) := by decide +kernel
theorem dX8_carryOut_186 : decode cX8_carryOut 186 = .ok (.iload_n 3, 1) := by decide +kernel
theorem dX8_carryOut_187 : decode cX8_carryOut 187 = .ok (.invokevirtual 192, 3) := by decide +kernel
theorem dX8_carryOut_190 : decode cX8_carryOut 190 = .ok (.pop, 1) := by decide +kernel
theorem dX8_carryOut_191 : decode cX8_carryOut 191 = .ok (.goto 3, 3) := by decide +kernel
theorem dX8_carryOut_194 : decode cX8_carryOut 194 = .ok (.return_, 1) := by decide +kernel
theorem dX8_needThing_0 : decode cX8_needThing 0 = .ok (.iload_n 0, 1) := by decide +kernel
theorem dX8_needThing_1 : decode cX8_needThing 1 = .ok (.ifCond .ne 14, 3) := by decide +kernel
theorem dX8_needThing_4 : decode cX8_needThing 4 = .ok (.new 285, 3) := by decide +kernel
theorem dX8_needThing_7 : decode cX8_needThing 7 = .ok (.dup, 1) := by decide +kernel
theorem dX8_needThing_8 : decode cX8_needThing 8 = .ok (.ldc_w 287, 3) := by decide +kernel
theorem dX8_needThing_11 : decode cX8_needThing 11 = .ok (.invokespecial 289, 3) := by decide +kernel
theorem dX8_needThing_14 : decode cX8_needThing 14 = .ok (.athrow, 1) := by decide +kernel
theorem dX8_needThing_15 : decode cX8_needThing 15 = .ok (.return_, 1) := by decide +kernel
theorem dX8_needValue_0 : decode cX8_needValue 0 = .ok (.iload_n 0, 1) := by decide +kernel
theorem dX8_needValue_1 : decode cX8_needValue 1 = .ok (.ifCond .ne 14, 3) := by decide +kernel
theorem dX8_needValue_4 : decode cX8_needValue 4 = .ok (.new 292, 3) := by decide +kernel
theorem dX8_needValue_7 : decode cX8_needValue 7 = .ok (.dup, 1) := by decide +kernel
theorem dX8_needValue_8 : decode cX8_needValue 8 = .ok (.ldc_w 294, 3) := by decide +kernel
theorem dX8_needValue_11 : decode cX8_needValue 11 = .ok (.invokespecial 296, 3) := by decide +kernel
theorem dX8_needValue_14 : decode cX8_needValue 14 = .ok (.athrow, 1) := by decide +kernel
theorem dX8_needValue_15 : decode cX8_needValue 15 = .ok (.return_, 1) := by decide +kernel
theorem dX8_needState_0 : decode cX8_needState 0 = .ok (.iload_n 0, 1) := by decide +kernel
theorem dX8_needState_1 : decode cX8_needState 1 = .ok (.ifCond .ne 14, 3) := by decide +kernel
theorem dX8_needState_4 : decode cX8_needState 4 = .ok (.new 297, 3) := by decide +kernel
theorem dX8_needState_7 : decode cX8_needState 7 = .ok (.dup, 1) := by decide +kernel
theorem dX8_needState_8 : decode cX8_needState 8 = .ok (.ldc_w 299, 3) := by decide +kernel
theorem dX8_needState_11 : decode cX8_needState 11 = .ok (.invokespecial 301, 3) := by decide +kernel
theorem dX8_needState_14 : decode cX8_needState 14 = .ok (.athrow, 1) := by decide +kernel
theorem dX8_needState_15 : decode cX8_needState 15 = .ok (.return_, 1) := by decide +kernel
theorem dX8_isWithin_0 : decode cX8_isWithin 0 = .ok (.iload_n 0, 1) := by decide +kernel
theorem dX8_isWithin_1 : decode cX8_isWithin 1 = .ok (.iload_n 1, 1) := by decide +kernel
theorem dX8_isWithin_2 : decode cX8_isWithin 2 = .ok (.if_icmp .lt 12, 3) := by decide +kernel
theorem dX8_isWithin_5 : decode cX8_isWithin 5 = .ok (.iload_n 0, 1) := by decide +kernel
theorem dX8_isWithin_6 : decode cX8_isWithin 6 = .ok (.iload_n 2, 1) := by decide +kernel
theorem dX8_isWithin_7 : decode cX8_isWithin 7 = .ok (.if_icmp .gt 7, 3) := by decide +kernel
theorem dX8_isWithin_10 : decode cX8_isWithin 10 = .ok (.iconst 1, 1) := by decide +kernel
theorem dX8_isWithin_11 : decode cX8_isWithin 11 = .ok (.goto 4, 3) := by decide +kernel
theorem dX8_isWithin_14 : decode cX8_isWithin 14 = .ok (.iconst 0, 1) := by decide +kernel
theorem dX8_isWithin_15 : decode cX8_isWithin 15 = .ok (.ireturn, 1) := by decide +kernel
theorem dX8_isDigit_0 : decode cX8_isDigit 0 = .ok (.iload_n 0, 1) := by decide +kernel
theorem dX8_isDigit_1 : decode cX8_isDigit 1 = .ok (.bipush 48, 2) := by decide +kernel
theorem dX8_isDigit_3 : decode cX8_isDigit 3 = .ok (.bipush 57, 2) := by decide +kernel
theorem dX8_isDigit_5 : decode cX8_isDigit 5 = .ok (.invokestatic 85, 3) := by decide +kernel
theorem dX8_isDigit_8 : decode cX8_isDigit 8 = .ok (.ireturn, 1) := by decide +kernel
theorem dX8_inSet_0 : decode cX8_inSet 0 = .ok (.iload_n 0, 1) := by decide +kernel
theorem dX8_inSet_1 : decode cX8_inSet 1 = .ok (.iload_n 1, 1) := by decide +kernel
theorem dX8_inSet_2 : decode cX8_inSet 2 = .ok (.ishr, 1) := by decide +kernel
theorem dX8_inSet_3 : decode cX8_inSet 3 = .ok (.iconst 1, 1) := by decide +kernel
theorem dX8_inSet_4 : decode cX8_inSet 4 = .ok (.iand, 1) := by decide +kernel
theorem dX8_inSet_5 : decode cX8_inSet 5 = .ok (.ifCond .eq 7, 3) := by decide +kernel
theorem dX8_inSet_8 : decode cX8_inSet 8 = .ok (.iconst 1, 1) := by decide +kernel
theorem dX8_inSet_9 : decode cX8_inSet 9 = .ok (.goto 4, 3) := by decide +kernel
theorem dX8_inSet_12 : decode cX8_inSet 12 = .ok (.iconst 0, 1) := by decide +kernel
theorem dX8_inSet_13 : decode cX8_inSet 13 = .ok (.ireturn, 1) := by decide +kernel
theorem dX8_mix_0 : decode cX8_mix 0 = .ok (.ldc2_w 302, 3) := by decide +kernel
theorem dX8_mix_3 : decode cX8_mix 3 = .ok (.lload_n 0, 1) := by decide +kernel
theorem dX8_mix_4 : decode cX8_mix 4 = .ok (.lmul, 1) := by decide +kernel
theorem dX8_mix_5 : decode cX8_mix 5 = .ok (.lload_n 2, 1) := by decide +kernel
theorem dX8_mix_6 : decode cX8_mix 6 = .ok (.ladd, 1) := by decide +kernel
theorem dX8_mix_7 : decode cX8_mix 7 = .ok (.lreturn, 1) := by decide +kernel
