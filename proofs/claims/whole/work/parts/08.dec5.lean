theorem dL_addResource_0 : decode cL_addResource 0 = .ok (.aload_n 2, 1) := by decide +kernel
theorem dL_addResource_1 : decode cL_addResource 1 = .ok (.iconst 0, 1) := by decide +kernel
theorem dL_addResource_2 : decode cL_addResource 2 = .ok (.aload_n 0, 1) := by decide +kernel
theorem dL_addResource_3 : decode cL_addResource 3 = .ok (.iload_n 1, 1) := by decide +kernel
theorem dL_addResource_4 : decode cL_addResource 4 = .ok (.invokevirtual 7, 3) := by decide +kernel
theorem dL_addResource_7 : decode cL_addResource 7 = .ok (.i2l, 1) := by decide +kernel
theorem dL_addResource_8 : decode cL_addResource 8 = .ok (.lastore, 1) := by decide +kernel
theorem dL_addResource_9 : decode cL_addResource 9 = .ok (.goto 9, 3) := by decide +kernel
theorem dL_addResource_12 : decode cL_addResource 12 = .ok (.astore_n 3, 1) := by decide +kernel
theorem dL_addResource_13 : decode cL_addResource 13 = .ok (.iconst 1, 1) := by decide +kernel
theorem dL_addResource_14 : decode cL_addResource 14 = .ok (.ireturn, 1) := by decide +kernel
theorem dL_addResource_15 : decode cL_addResource 15 = .ok (.astore_n 3, 1) := by decide +kernel
theorem dL_addResource_16 : decode cL_addResource 16 = .ok (.iconst 2, 1) := by decide +kernel
theorem dL_addResource_17 : decode cL_addResource 17 = .ok (.ireturn, 1) := by decide +kernel
theorem dL_addResource_18 : decode cL_addResource 18 = .ok (.iconst 0, 1) := by decide +kernel
theorem dL_addResource_19 : decode cL_addResource 19 = .ok (.ireturn, 1) := by decide +kernel
theorem dL_resource_0 : decode cL_resource 0 = .ok (.aload_n 3, 1) := by decide +kernel
theorem dL_resource_1 : decode cL_resource 1 = .ok (.iconst 0, 1) := by decide +kernel
theorem dL_resource_2 : decode cL_resource 2 = .ok (.aload_n 0, 1) := by decide +kernel
theorem dL_resource_3 : decode cL_resource 3 = .ok (.iload_n 1, 1) := by decide +kernel
theorem dL_resource_4 : decode cL_resource 4 = .ok (.iload_n 2, 1) := by decide +kernel
theorem dL_resource_5 : decode cL_resource 5 = .ok (.invokevirtual 17, 3) := by decide +kernel
theorem dL_resource_8 : decode cL_resource 8 = .ok (.i2l, 1) := by decide +kernel
theorem dL_resource_9 : decode cL_resource 9 = .ok (.lastore, 1) := by decide +kernel
theorem dL_resource_10 : decode cL_resource 10 = .ok (.goto 11, 3) := by decide +kernel
theorem dL_resource_13 : decode cL_resource 13 = .ok (.astore 4, 2) := by decide +kernel
theorem dL_resource_15 : decode cL_resource 15 = .ok (.iconst 1, 1) := by decide +kernel
theorem dL_resource_16 : decode cL_resource 16 = .ok (.ireturn, 1) := by decide +kernel
theorem dL_resource_17 : decode cL_resource 17 = .ok (.astore 4, 2) := by decide +kernel
theorem dL_resource_19 : decode cL_resource 19 = .ok (.iconst 2, 1) := by decide +kernel
theorem dL_resource_20 : decode cL_resource 20 = .ok (.ireturn, 1) := by decide +kernel
theorem dL_resource_21 : decode cL_resource 21 = .ok (.iconst 0, 1) := by decide +kernel
theorem dL_resource_22 : decode cL_resource 22 = .ok (.ireturn, 1) := by decide +kernel
theorem dL_overlap_0 : decode cL_overlap 0 = .ok (.aload_n 3, 1) := by decide +kernel
theorem dL_overlap_1 : decode cL_overlap 1 = .ok (.iconst 0, 1) := by decide +kernel
theorem dL_overlap_2 : decode cL_overlap 2 = .ok (.aload_n 0, 1) := by decide +kernel
theorem dL_overlap_3 : decode cL_overlap 3 = .ok (.iload_n 1, 1) := by decide +kernel
theorem dL_overlap_4 : decode cL_overlap 4 = .ok (.iload_n 2, 1) := by decide +kernel
theorem dL_overlap_5 : decode cL_overlap 5 = .ok (.invokevirtual 23, 3) := by decide +kernel
theorem dL_overlap_8 : decode cL_overlap 8 = .ok (.ifCond .eq 7, 3) := by decide +kernel
theorem dL_overlap_11 : decode cL_overlap 11 = .ok (.lconst 1, 1) := by decide +kernel
theorem dL_overlap_12 : decode cL_overlap 12 = .ok (.goto 4, 3) := by decide +kernel
theorem dL_overlap_15 : decode cL_overlap 15 = .ok (.lconst 0, 1) := by decide +kernel
theorem dL_overlap_16 : decode cL_overlap 16 = .ok (.lastore, 1) := by decide +kernel
theorem dL_overlap_17 : decode cL_overlap 17 = .ok (.goto 7, 3) := by decide +kernel
theorem dL_overlap_20 : decode cL_overlap 20 = .ok (.astore 4, 2) := by decide +kernel
theorem dL_overlap_22 : decode cL_overlap 22 = .ok (.iconst 1, 1) := by decide +kernel
theorem dL_overlap_23 : decode cL_overlap 23 = .ok (.ireturn, 1) := by decide +kernel
theorem dL_overlap_24 : decode cL_overlap 24 = .ok (.iconst 0, 1) := by decide +kernel
theorem dL_overlap_25 : decode cL_overlap 25 = .ok (.ireturn, 1) := by decide +kernel
theorem dL_create_0 : decode cL_create 0 = .ok (.aload_n 2, 1) := by decide +kernel
theorem dL_create_1 : decode cL_create 1 = .ok (.iconst 0, 1) := by decide +kernel
theorem dL_create_2 : decode cL_create 2 = .ok (.aload_n 0, 1) := by decide +kernel
theorem dL_create_3 : decode cL_create 3 = .ok (.iload_n 1, 1) := by decide +kernel
theorem dL_create_4 : decode cL_create 4 = .ok (.invokevirtual 27, 3) := by decide +kernel
theorem dL_create_7 : decode cL_create 7 = .ok (.i2l, 1) := by decide +kernel
theorem dL_create_8 : decode cL_create 8 = .ok (.lastore, 1) := by decide +kernel
theorem dL_create_9 : decode cL_create 9 = .ok (.goto 9, 3) := by decide +kernel
theorem dL_create_12 : decode cL_create 12 = .ok (.astore_n 3, 1) := by decide +kernel
theorem dL_create_13 : decode cL_create 13 = .ok (.iconst 1, 1) := by decide +kernel
theorem dL_create_14 : decode cL_create 14 = .ok (.ireturn, 1) := by decide +kernel
theorem dL_create_15 : decode cL_create 15 = .ok (.astore_n 3, 1) := by decide +kernel
theorem dL_create_16 : decode cL_create 16 = .ok (.iconst 2, 1) := by decide +kernel
theorem dL_create_17 : decode cL_create 17 = .ok (.ireturn, 1) := by decide +kernel
theorem dL_create_18 : decode cL_create 18 = .ok (.iconst 0, 1) := by decide +kernel
theorem dL_create_19 : decode cL_create 19 = .ok (.ireturn, 1) := by decide +kernel
theorem dL_request_0 : decode cL_request 0 = .ok (.aload_n 3, 1) := by decide +kernel
theorem dL_request_1 : decode cL_request 1 = .ok (.iconst 0, 1) := by decide +kernel
theorem dL_request_2 : decode cL_request 2 = .ok (.aload_n 0, 1) := by decide +kernel
theorem dL_request_3 : decode cL_request 3 = .ok (.iload_n 1, 1) := by decide +kernel
theorem dL_request_4 : decode cL_request 4 = .ok (.iload_n 2, 1) := by decide +kernel
theorem dL_request_5 : decode cL_request 5 = .ok (.invokevirtual 30, 3) := by decide +kernel
theorem dL_request_8 : decode cL_request 8 = .ok (.i2l, 1) := by decide +kernel
theorem dL_request_9 : decode cL_request 9 = .ok (.lastore, 1) := by decide +kernel
theorem dL_request_10 : decode cL_request 10 = .ok (.goto 11, 3) := by decide +kernel
theorem dL_request_13 : decode cL_request 13 = .ok (.astore 4, 2) := by decide +kernel
theorem dL_request_15 : decode cL_request 15 = .ok (.iconst 1, 1) := by decide +kernel
theorem dL_request_16 : decode cL_request 16 = .ok (.ireturn, 1) := by decide +kernel
theorem dL_request_17 : decode cL_request 17 = .ok (.astore 4, 2) := by decide +kernel
theorem dL_request_19 : decode cL_request 19 = .ok (.iconst 2, 1) := by decide +kernel
theorem dL_request_20 : decode cL_request 20 = .ok (.ireturn, 1) := by decide +kernel
theorem dL_request_21 : decode cL_request 21 = .ok (.iconst 0, 1) := by decide +kernel
theorem dL_request_22 : decode cL_request 22 = .ok (.ireturn, 1) := by decide +kernel
theorem dL_release_0 : decode cL_release 0 = .ok (.aload_n 3, 1) := by decide +kernel
theorem dL_release_1 : decode cL_release 1 = .ok (.iconst 0, 1) := by decide +kernel
theorem dL_release_2 : decode cL_release 2 = .ok (.aload_n 0, 1) := by decide +kernel
theorem dL_release_3 : decode cL_release 3 = .ok (.iload_n 1, 1) := by decide +kernel
theorem dL_release_4 : decode cL_release 4 = .ok (.iload_n 2, 1) := by decide +kernel
theorem dL_release_5 : decode cL_release 5 = .ok (.invokevirtual 33, 3) := by decide +kernel
theorem dL_release_8 : decode cL_release 8 = .ok (.i2l, 1) := by decide +kernel
theorem dL_release_9 : decode cL_release 9 = .ok (.lastore, 1) := by decide +kernel
theorem dL_release_10 : decode cL_release 10 = .ok (.goto 11, 3) := by decide +kernel
theorem dL_release_13 : decode cL_release 13 = .ok (.astore 4, 2) := by decide +kernel
theorem dL_release_15 : decode cL_release 15 = .ok (.iconst 1, 1) := by decide +kernel
theorem dL_release_16 : decode cL_release 16 = .ok (.ireturn, 1) := by decide +kernel
theorem dL_release_17 : decode cL_release 17 = .ok (.astore 4, 2) := by decide +kernel
theorem dL_release_19 : decode cL_release 19 = .ok (.iconst 2, 1) := by decide +kernel
theorem dL_release_20 : decode cL_release 20 = .ok (.ireturn, 1) := by decide +kernel
theorem dL_release_21 : decode cL_release 21 = .ok (.iconst 0, 1) := by decide +kernel
theorem dL_release_22 : decode cL_release 22 = .ok (.ireturn, 1) := by decide +kernel
theorem dL_finish_0 : decode cL_finish 0 = .ok (.aload_n 2, 1) := by decide +kernel
theorem dL_finish_1 : decode cL_finish 1 = .ok (.iconst 0, 1) := by decide +kernel
theorem dL_finish_2 : decode cL_finish 2 = .ok (.aload_n 0, 1) := by decide +kernel
theorem dL_finish_3 : decode cL_finish 3 = .ok (.iload_n 1, 1) := by decide +kernel
theorem dL_finish_4 : decode cL_finish 4 = .ok (.invokevirtual 36, 3) := by decide +kernel
theorem dL_finish_7 : decode cL_finish 7 = .ok (.i2l, 1) := by decide +kernel
theorem dL_finish_8 : decode cL_finish 8 = .ok (.lastore, 1) := by decide +kernel
theorem dL_finish_9 : decode cL_finish 9 = .ok (.goto 9, 3) := by decide +kernel
theorem dL_finish_12 : decode cL_finish 12 = .ok (.astore_n 3, 1) := by decide +kernel
theorem dL_finish_13 : decode cL_finish 13 = .ok (.iconst 1, 1) := by decide +kernel
theorem dL_finish_14 : decode cL_finish 14 = .ok (.ireturn, 1) := by decide +kernel
theorem dL_finish_15 : decode cL_finish 15 = .ok (.astore_n 3, 1) := by decide +kernel
theorem dL_finish_16 : decode cL_finish 16 = .ok (.iconst 2, 1) := by decide +kernel
theorem dL_finish_17 : decode cL_finish 17 = .ok (.ireturn, 1) := by decide +kernel
theorem dL_finish_18 : decode cL_finish 18 = .ok (.iconst 0, 1) := by decide +kernel
theorem dL_finish_19 : decode cL_finish 19 = .ok (.ireturn, 1) := by decide +kernel
theorem dL_abort_0 : decode cL_abort 0 = .ok (.aload_n 2, 1) := by decide +kernel
theorem dL_abort_1 : decode cL_abort 1 = .ok (.iconst 0, 1) := by decide +kernel
theorem dL_abort_2 : decode cL_abort 2 = .ok (.aload_n 0, 1) := by decide +kernel
theorem dL_abort_3 : decode cL_abort 3 = .ok (.iload_n 1, 1) := by decide +kernel
theorem dL_abort_4 : decode cL_abort 4 = .ok (.invokevirtual 39, 3) := by decide +kernel
theorem dL_abort_7 : decode cL_abort 7 = .ok (.i2l, 1) := by decide +kernel
theorem dL_abort_8 : decode cL_abort 8 = .ok (.lastore, 1) := by decide +kernel
theorem dL_abort_9 : decode cL_abort 9 = .ok (.goto 9, 3) := by decide +kernel
theorem dL_abort_12 : decode cL_abort 12 = .ok (.astore_n 3, 1) := by decide +kernel
theorem dL_abort_13 : decode cL_abort 13 = .ok (.iconst 1, 1) := by decide +kernel
theorem dL_abort_14 : decode cL_abort 14 = .ok (.ireturn, 1) := by decide +kernel
theorem dL_abort_15 : decode cL_abort 15 = .ok (.astore_n 3, 1) := by decide +kernel
theorem dL_abort_16 : decode cL_abort 16 = .ok (.iconst 2, 1) := by decide +kernel
theorem dL_abort_17 : decode cL_abort 17 = .ok (.ireturn, 1) := by decide +kernel
theorem dL_abort_18 : decode cL_abort 18 = .ok (.iconst 0, 1) := by decide +kernel
theorem dL_abort_19 : decode cL_abort 19 = .ok (.ireturn, 1) := by decide +kernel
theorem dL_restart_0 : decode cL_restart 0 = .ok (.aload_n 2, 1) := by decide +kernel
theorem dL_restart_1 : decode cL_restart 1 = .ok (.iconst 0, 1) := by decide +kernel
theorem dL_restart_2 : decode cL_restart 2 = .ok (.aload_n 0, 1) := by decide +kernel
theorem dL_restart_3 : decode cL_restart 3 = .ok (.iload_n 1, 1) := by decide +kernel
theorem dL_restart_4 : decode cL_restart 4 = .ok (.invokevirtual 42, 3) := by decide +kernel
theorem dL_restart_7 : decode cL_restart 7 = .ok (.i2l, 1) := by decide +kernel
theorem dL_restart_8 : decode cL_restart 8 = .ok (.lastore, 1) := by decide +kernel
theorem dL_restart_9 : decode cL_restart 9 = .ok (.goto 9, 3) := by decide +kernel
theorem dL_restart_12 : decode cL_restart 12 = .ok (.astore_n 3, 1) := by decide +kernel
theorem dL_restart_13 : decode cL_restart 13 = .ok (.iconst 1, 1) := by decide +kernel
theorem dL_restart_14 : decode cL_restart 14 = .ok (.ireturn, 1) := by decide +kernel
theorem dL_restart_15 : decode cL_restart 15 = .ok (.astore_n 3, 1) := by decide +kernel
theorem dL_restart_16 : decode cL_restart 16 = .ok (.iconst 2, 1) := by decide +kernel
theorem dL_restart_17 : decode cL_restart 17 = .ok (.ireturn, 1) := by decide +kernel
theorem dL_restart_18 : decode cL_restart 18 = .ok (.iconst 0, 1) := by decide +kernel
theorem dL_restart_19 : decode cL_restart 19 = .ok (.ireturn, 1) := by decide +kernel
theorem dL_task_0 : decode cL_task 0 = .ok (.aload_n 3, 1) := by decide +kernel
theorem dL_task_1 : decode cL_task 1 = .ok (.iconst 0, 1) := by decide +kernel
theorem dL_task_2 : decode cL_task 2 = .ok (.aload_n 0, 1) := by decide +kernel
theorem dL_task_3 : decode cL_task 3 = .ok (.iload_n 1, 1) := by decide +kernel
theorem dL_task_4 : decode cL_task 4 = .ok (.iload_n 2, 1) := by decide +kernel
theorem dL_task_5 : decode cL_task 5 = .ok (.invokevirtual 45, 3) := by decide +kernel
theorem dL_task_8 : decode cL_task 8 = .ok (.i2l, 1) := by decide +kernel
theorem dL_task_9 : decode cL_task 9 = .ok (.lastore, 1) := by decide +kernel
theorem dL_task_10 : decode cL_task 10 = .ok (.goto 11, 3) := by decide +kernel
theorem dL_task_13 : decode cL_task 13 = .ok (.astore 4, 2) := by decide +kernel
theorem dL_task_15 : decode cL_task 15 = .ok (.iconst 1, 1) := by decide +kernel
theorem dL_task_16 : decode cL_task 16 = .ok (.ireturn, 1) := by decide +kernel
theorem dL_task_17 : decode cL_task 17 = .ok (.astore 4, 2) := by decide +kernel
theorem dL_task_19 : decode cL_task 19 = .ok (.iconst 2, 1) := by decide +kernel
theorem dL_task_20 : decode cL_task 20 = .ok (.ireturn, 1) := by decide +kernel
theorem dL_task_21 : decode cL_task 21 = .ok (.iconst 0, 1) := by decide +kernel
theorem dL_task_22 : decode cL_task 22 = .ok (.ireturn, 1) := by decide +kernel
theorem dL_wouldHappen_0 : decode cL_wouldHappen 0 = .ok (.aload_n 3, 1) := by decide +kernel
theorem dL_wouldHappen_1 : decode cL_wouldHappen 1 = .ok (.iconst 0, 1) := by decide +kernel
theorem dL_wouldHappen_2 : decode cL_wouldHappen 2 = .ok (.aload_n 0, 1) := by decide +kernel
theorem dL_wouldHappen_3 : decode cL_wouldHappen 3 = .ok (.iload_n 1, 1) := by decide +kernel
theorem dL_wouldHappen_4 : decode cL_wouldHappen 4 = .ok (.iload_n 2, 1) := by decide +kernel
theorem dL_wouldHappen_5 : decode cL_wouldHappen 5 = .ok (.invokevirtual 48, 3) := by decide +kernel
theorem dL_wouldHappen_8 : decode cL_wouldHappen 8 = .ok (.i2l, 1) := by decide +kernel
theorem dL_wouldHappen_9 : decode cL_wouldHappen 9 = .ok (.lastore, 1) := by decide +kernel
theorem dL_wouldHappen_10 : decode cL_wouldHappen 10 = .ok (.goto 11, 3) := by decide +kernel
theorem dL_wouldHappen_13 : decode cL_wouldHappen 13 = .ok (.astore 4, 2) := by decide +kernel
theorem dL_wouldHappen_15 : decode cL_wouldHappen 15 = .ok (.iconst 1, 1) := by decide +kernel
theorem dL_wouldHappen_16 : decode cL_wouldHappen 16 = .ok (.ireturn, 1) := by decide +kernel
theorem dL_wouldHappen_17 : decode cL_wouldHappen 17 = .ok (.astore 4, 2) := by decide +kernel
theorem dL_wouldHappen_19 : decode cL_wouldHappen 19 = .ok (.iconst 2, 1) := by decide +kernel
theorem dL_wouldHappen_20 : decode cL_wouldHappen 20 = .ok (.ireturn, 1) := by decide +kernel
theorem dL_wouldHappen_21 : decode cL_wouldHappen 21 = .ok (.iconst 0, 1) := by decide +kernel
theorem dL_wouldHappen_22 : decode cL_wouldHappen 22 = .ok (.ireturn, 1) := by decide +kernel
theorem dL_setPolicy_0 : decode cL_setPolicy 0 = .ok (.aload_n 2, 1) := by decide +kernel
theorem dL_setPolicy_1 : decode cL_setPolicy 1 = .ok (.iconst 0, 1) := by decide +kernel
theorem dL_setPolicy_2 : decode cL_setPolicy 2 = .ok (.aload_n 0, 1) := by decide +kernel
theorem dL_setPolicy_3 : decode cL_setPolicy 3 = .ok (.iload_n 1, 1) := by decide +kernel
theorem dL_setPolicy_4 : decode cL_setPolicy 4 = .ok (.invokevirtual 51, 3) := by decide +kernel
theorem dL_setPolicy_7 : decode cL_setPolicy 7 = .ok (.i2l, 1) := by decide +kernel
theorem dL_setPolicy_8 : decode cL_setPolicy 8 = .ok (.lastore, 1) := by decide +kernel
theorem dL_setPolicy_9 : decode cL_setPolicy 9 = .ok (.goto 6, 3) := by decide +kernel
theorem dL_setPolicy_12 : decode cL_setPolicy 12 = .ok (.astore_n 3, 1) := by decide +kernel
theorem dL_setPolicy_13 : decode cL_setPolicy 13 = .ok (.iconst 1, 1) := by decide +kernel
theorem dL_setPolicy_14 : decode cL_setPolicy 14 = .ok (.ireturn, 1) := by decide +kernel
theorem dL_setPolicy_15 : decode cL_setPolicy 15 = .ok (.iconst 0, 1) := by decide +kernel
theorem dL_setPolicy_16 : decode cL_setPolicy 16 = .ok (.ireturn, 1) := by decide +kernel
theorem dL_setRule_0 : decode cL_setRule 0 = .ok (.aload_n 2, 1) := by decide +kernel
theorem dL_setRule_1 : decode cL_setRule 1 = .ok (.iconst 0, 1) := by decide +kernel
theorem dL_setRule_2 : decode cL_setRule 2 = .ok (.aload_n 0, 1) := by decide +kernel
theorem dL_setRule_3 : decode cL_setRule 3 = .ok (.iload_n 1, 1) := by decide +kernel
theorem dL_setRule_4 : decode cL_setRule 4 = .ok (.invokevirtual 54, 3) := by decide +kernel
theorem dL_setRule_7 : decode cL_setRule 7 = .ok (.i2l, 1) := by decide +kernel
theorem dL_setRule_8 : decode cL_setRule 8 = .ok (.lastore, 1) := by decide +kernel
theorem dL_setRule_9 : decode cL_setRule 9 = .ok (.goto 6, 3) := by decide +kernel
theorem dL_setRule_12 : decode cL_setRule 12 = .ok (.astore_n 3, 1) := by decide +kernel
theorem dL_setRule_13 : decode cL_setRule 13 = .ok (.iconst 1, 1) := by decide +kernel
theorem dL_setRule_14 : decode cL_setRule 14 = .ok (.ireturn, 1) := by decide +kernel
theorem dL_setRule_15 : decode cL_setRule 15 = .ok (.iconst 0, 1) := by decide +kernel
theorem dL_setRule_16 : decode cL_setRule 16 = .ok (.ireturn, 1) := by decide +kernel
theorem dL_setBudget_0 : decode cL_setBudget 0 = .ok (.aload_n 2, 1) := by decide +kernel
theorem dL_setBudget_1 : decode cL_setBudget 1 = .ok (.iconst 0, 1) := by decide +kernel
theorem dL_setBudget_2 : decode cL_setBudget 2 = .ok (.aload_n 0, 1) := by decide +kernel
theorem dL_setBudget_3 : decode cL_setBudget 3 = .ok (.iload_n 1, 1) := by decide +kernel
theorem dL_setBudget_4 : decode cL_setBudget 4 = .ok (.invokevirtual 57, 3) := by decide +kernel
theorem dL_setBudget_7 : decode cL_setBudget 7 = .ok (.i2l, 1) := by decide +kernel
theorem dL_setBudget_8 : decode cL_setBudget 8 = .ok (.lastore, 1) := by decide +kernel
theorem dL_setBudget_9 : decode cL_setBudget 9 = .ok (.goto 6, 3) := by decide +kernel
theorem dL_setBudget_12 : decode cL_setBudget 12 = .ok (.astore_n 3, 1) := by decide +kernel
theorem dL_setBudget_13 : decode cL_setBudget 13 = .ok (.iconst 1, 1) := by decide +kernel
theorem dL_setBudget_14 : decode cL_setBudget 14 = .ok (.ireturn, 1) := by decide +kernel
theorem dL_setBudget_15 : decode cL_setBudget 15 = .ok (.iconst 0, 1) := by decide +kernel
theorem dL_setBudget_16 : decode cL_setBudget 16 = .ok (.ireturn, 1) := by decide +kernel
theorem dL_probe_0 : decode cL_probe 0 = .ok (.aload_n 2, 1) := by decide +kernel
theorem dL_probe_1 : decode cL_probe 1 = .ok (.iconst 0, 1) := by decide +kernel
theorem dL_probe_2 : decode cL_probe 2 = .ok (.aload_n 0, 1) := by decide +kernel
theorem dL_probe_3 : decode cL_probe 3 = .ok (.iload_n 1, 1) := by decide +kernel
theorem dL_probe_4 : decode cL_probe 4 = .ok (.invokevirtual 60, 3) := by decide +kernel
theorem dL_probe_7 : decode cL_probe 7 = .ok (.i2l, 1) := by decide +kernel
theorem dL_probe_8 : decode cL_probe 8 = .ok (.lastore, 1) := by decide +kernel
theorem dL_probe_9 : decode cL_probe 9 = .ok (.goto 9, 3) := by decide +kernel
theorem dL_probe_12 : decode cL_probe 12 = .ok (.astore_n 3, 1) := by decide +kernel
theorem dL_probe_13 : decode cL_probe 13 = .ok (.iconst 1, 1) := by decide +kernel
theorem dL_probe_14 : decode cL_probe 14 = .ok (.ireturn, 1) := by decide +kernel
theorem dL_probe_15 : decode cL_probe 15 = .ok (.astore_n 3, 1) := by decide +kernel
theorem dL_probe_16 : decode cL_probe 16 = .ok (.iconst 2, 1) := by decide +kernel
theorem dL_probe_17 : decode cL_probe 17 = .ok (.ireturn, 1) := by decide +kernel
theorem dL_probe_18 : decode cL_probe 18 = .ok (.iconst 0, 1) := by decide +kernel
theorem dL_probe_19 : decode cL_probe 19 = .ok (.ireturn, 1) := by decide +kernel
theorem dL_deliver_0 : decode cL_deliver 0 = .ok (.aload_n 2, 1) := by decide +kernel
theorem dL_deliver_1 : decode cL_deliver 1 = .ok (.iconst 0, 1) := by decide +kernel
theorem dL_deliver_2 : decode cL_deliver 2 = .ok (.aload_n 0, 1) := by decide +kernel
theorem dL_deliver_3 : decode cL_deliver 3 = .ok (.iload_n 1, 1) := by decide +kernel
theorem dL_deliver_4 : decode cL_deliver 4 = .ok (.invokevirtual 63, 3) := by decide +kernel
theorem dL_deliver_7 : decode cL_deliver 7 = .ok (.i2l, 1) := by decide +kernel
theorem dL_deliver_8 : decode cL_deliver 8 = .ok (.lastore, 1) := by decide +kernel
theorem dL_deliver_9 : decode cL_deliver 9 = .ok (.goto 6, 3) := by decide +kernel
theorem dL_deliver_12 : decode cL_deliver 12 = .ok (.astore_n 3, 1) := by decide +kernel
theorem dL_deliver_13 : decode cL_deliver 13 = .ok (.iconst 1, 1) := by decide +kernel
theorem dL_deliver_14 : decode cL_deliver 14 = .ok (.ireturn, 1) := by decide +kernel
theorem dL_deliver_15 : decode cL_deliver 15 = .ok (.iconst 0, 1) := by decide +kernel
theorem dL_deliver_16 : decode cL_deliver 16 = .ok (.ireturn, 1) := by decide +kernel
theorem dL_message_0 : decode cL_message 0 = .ok (.aload_n 3, 1) := by decide +kernel
theorem dL_message_1 : decode cL_message 1 = .ok (.iconst 0, 1) := by decide +kernel
theorem dL_message_2 : decode cL_message 2 = .ok (.aload_n 0, 1) := by decide +kernel
theorem dL_message_3 : decode cL_message 3 = .ok (.iload_n 1, 1) := by decide +kernel
theorem dL_message_4 : decode cL_message 4 = .ok (.iload_n 2, 1) := by decide +kernel
theorem dL_message_5 : decode cL_message 5 = .ok (.invokevirtual 66, 3) := by decide +kernel
theorem dL_message_8 : decode cL_message 8 = .ok (.i2l, 1) := by decide +kernel
theorem dL_message_9 : decode cL_message 9 = .ok (.lastore, 1) := by decide +kernel
theorem dL_message_10 : decode cL_message 10 = .ok (.goto 7, 3) := by decide +kernel
theorem dL_message_13 : decode cL_message 13 = .ok (.astore 4, 2) := by decide +kernel
theorem dL_message_15 : decode cL_message 15 = .ok (.iconst 1, 1) := by decide +kernel
theorem dL_message_16 : decode cL_message 16 = .ok (.ireturn, 1) := by decide +kernel
theorem dL_message_17 : decode cL_message 17 = .ok (.iconst 0, 1) := by decide +kernel
theorem dL_message_18 : decode cL_message 18 = .ok (.ireturn, 1) := by decide +kernel
theorem dL_told_0 : decode cL_told 0 = .ok (.aload_n 2, 1) := by decide +kernel
theorem dL_told_1 : decode cL_told 1 = .ok (.iconst 0, 1) := by decide +kernel
theorem dL_told_2 : decode cL_told 2 = .ok (.aload_n 0, 1) := by decide +kernel
theorem dL_told_3 : decode cL_told 3 = .ok (.iload_n 1, 1) := by decide +kernel
theorem dL_told_4 : decode cL_told 4 = .ok (.invokevirtual 69, 3) := by decide +kernel
theorem dL_told_7 : decode cL_told 7 = .ok (.i2l, 1) := by decide +kernel
theorem dL_told_8 : decode cL_told 8 = .ok (.lastore, 1) := by decide +kernel
theorem dL_told_9 : decode cL_told 9 = .ok (.goto 6, 3) := by decide +kernel
theorem dL_told_12 : decode cL_told 12 = .ok (.astore_n 3, 1) := by decide +kernel
theorem dL_told_13 : decode cL_told 13 = .ok (.iconst 1, 1) := by decide +kernel
theorem dL_told_14 : decode cL_told 14 = .ok (.ireturn, 1) := by decide +kernel
theorem dL_told_15 : decode cL_told 15 = .ok (.iconst 0, 1) := by decide +kernel
theorem dL_told_16 : decode cL_told 16 = .ok (.ireturn, 1) := by decide +kernel
theorem dL_shortestCycle_0 : decode cL_shortestCycle 0 = .ok (.aload_n 2, 1) := by decide +kernel
theorem dL_shortestCycle_1 : decode cL_shortestCycle 1 = .ok (.iconst 0, 1) := by decide +kernel
theorem dL_shortestCycle_2 : decode cL_shortestCycle 2 = .ok (.aload_n 0, 1) := by decide +kernel
theorem dL_shortestCycle_3 : decode cL_shortestCycle 3 = .ok (.iload_n 1, 1) := by decide +kernel
theorem dL_shortestCycle_4 : decode cL_shortestCycle 4 = .ok (.invokevirtual 72, 3) := by decide +kernel
theorem dL_shortestCycle_7 : decode cL_shortestCycle 7 = .ok (.i2l, 1) := by decide +kernel
theorem dL_shortestCycle_8 : decode cL_shortestCycle 8 = .ok (.lastore, 1) := by decide +kernel
theorem dL_shortestCycle_9 : decode cL_shortestCycle 9 = .ok (.goto 6, 3) := by decide +kernel
theorem dL_shortestCycle_12 : decode cL_shortestCycle 12 = .ok (.astore_n 3, 1) := by decide +kernel
theorem dL_shortestCycle_13 : decode cL_shortestCycle 13 = .ok (.iconst 1, 1) := by decide +kernel
theorem dL_shortestCycle_14 : decode cL_shortestCycle 14 = .ok (.ireturn, 1) := by decide +kernel
theorem dL_shortestCycle_15 : decode cL_shortestCycle 15 = .ok (.iconst 0, 1) := by decide +kernel
theorem dL_shortestCycle_16 : decode cL_shortestCycle 16 = .ok (.ireturn, 1) := by decide +kernel
theorem dL_latest_0 : decode cL_latest 0 = .ok (.aload_n 2, 1) := by decide +kernel
theorem dL_latest_1 : decode cL_latest 1 = .ok (.iconst 0, 1) := by decide +kernel
theorem dL_latest_2 : decode cL_latest 2 = .ok (.aload_n 0, 1) := by decide +kernel
theorem dL_latest_3 : decode cL_latest 3 = .ok (.iload_n 1, 1) := by decide +kernel
theorem dL_latest_4 : decode cL_latest 4 = .ok (.invokevirtual 75, 3) := by decide +kernel
theorem dL_latest_7 : decode cL_latest 7 = .ok (.i2l, 1) := by decide +kernel
theorem dL_latest_8 : decode cL_latest 8 = .ok (.lastore, 1) := by decide +kernel
theorem dL_latest_9 : decode cL_latest 9 = .ok (.goto 6, 3) := by decide +kernel
theorem dL_latest_12 : decode cL_latest 12 = .ok (.astore_n 3, 1) := by decide +kernel
theorem dL_latest_13 : decode cL_latest 13 = .ok (.iconst 1, 1) := by decide +kernel
theorem dL_latest_14 : decode cL_latest 14 = .ok (.ireturn, 1) := by decide +kernel
theorem dL_latest_15 : decode cL_latest 15 = .ok (.iconst 0, 1) := by decide +kernel
theorem dL_latest_16 : decode cL_latest 16 = .ok (.ireturn, 1) := by decide +kernel
theorem dL_type_0 : decode cL_type 0 = .ok (.aload_n 2, 1) := by decide +kernel
theorem dL_type_1 : decode cL_type 1 = .ok (.iconst 0, 1) := by decide +kernel
theorem dL_type_2 : decode cL_type 2 = .ok (.aload_n 0, 1) := by decide +kernel
theorem dL_type_3 : decode cL_type 3 = .ok (.iload_n 1, 1) := by decide +kernel
theorem dL_type_4 : decode cL_type 4 = .ok (.invokevirtual 78, 3) := by decide +kernel
theorem dL_type_7 : decode cL_type 7 = .ok (.i2l, 1) := by decide +kernel
theorem dL_type_8 : decode cL_type 8 = .ok (.lastore, 1) := by decide +kernel
theorem dL_type_9 : decode cL_type 9 = .ok (.goto 9, 3) := by decide +kernel
theorem dL_type_12 : decode cL_type 12 = .ok (.astore_n 3, 1) := by decide +kernel
theorem dL_type_13 : decode cL_type 13 = .ok (.iconst 1, 1) := by decide +kernel
theorem dL_type_14 : decode cL_type 14 = .ok (.ireturn, 1) := by decide +kernel
theorem dL_type_15 : decode cL_type 15 = .ok (.astore_n 3, 1) := by decide +kernel
theorem dL_type_16 : decode cL_type 16 = .ok (.iconst 2, 1) := by decide +kernel
theorem dL_type_17 : decode cL_type 17 = .ok (.ireturn, 1) := by decide +kernel
theorem dL_type_18 : decode cL_type 18 = .ok (.iconst 0, 1) := by decide +kernel
theorem dL_type_19 : decode cL_type 19 = .ok (.ireturn, 1) := by decide +kernel
theorem dL_run_0 : decode cL_run 0 = .ok (.aload_n 1, 1) := by decide +kernel
theorem dL_run_1 : decode cL_run 1 = .ok (.iconst 0, 1) := by decide +kernel
theorem dL_run_2 : decode cL_run 2 = .ok (.aload_n 0, 1) := by decide +kernel
theorem dL_run_3 : decode cL_run 3 = .ok (.invokevirtual 81, 3) := by decide +kernel
theorem dL_run_6 : decode cL_run 6 = .ok (.i2l, 1) := by decide +kernel
theorem dL_run_7 : decode cL_run 7 = .ok (.lastore, 1) := by decide +kernel
theorem dL_run_8 : decode cL_run 8 = .ok (.goto 6, 3) := by decide +kernel
theorem dL_run_11 : decode cL_run 11 = .ok (.astore_n 2, 1) := by decide +kernel
theorem dL_run_12 : decode cL_run 12 = .ok (.iconst 1, 1) := by decide +kernel
theorem dL_run_13 : decode cL_run 13 = .ok (.ireturn, 1) := by decide +kernel
theorem dL_run_14 : decode cL_run 14 = .ok (.iconst 0, 1) := by decide +kernel
theorem dL_run_15 : decode cL_run 15 = .ok (.ireturn, 1) := by decide +kernel
theorem dL_undo_0 : decode cL_undo 0 = .ok (.aload_n 1, 1) := by decide +kernel
theorem dL_undo_1 : decode cL_undo 1 = .ok (.iconst 0, 1) := by decide +kernel
theorem dL_undo_2 : decode cL_undo 2 = .ok (.aload_n 0, 1) := by decide +kernel
theorem dL_undo_3 : decode cL_undo 3 = .ok (.invokevirtual 85, 3) := by decide +kernel
theorem dL_undo_6 : decode cL_undo 6 = .ok (.i2l, 1) := by decide +kernel
theorem dL_undo_7 : decode cL_undo 7 = .ok (.lastore, 1) := by decide +kernel
theorem dL_undo_8 : decode cL_undo 8 = .ok (.goto 6, 3) := by decide +kernel
theorem dL_undo_11 : decode cL_undo 11 = .ok (.astore_n 2, 1) := by decide +kernel
theorem dL_undo_12 : decode cL_undo 12 = .ok (.iconst 1, 1) := by decide +kernel
theorem dL_undo_13 : decode cL_undo 13 = .ok (.ireturn, 1) := by decide +kernel
theorem dL_undo_14 : decode cL_undo 14 = .ok (.iconst 0, 1) := by decide +kernel
theorem dL_undo_15 : decode cL_undo 15 = .ok (.ireturn, 1) := by decide +kernel
theorem dL_law_0 : decode cL_law 0 = .ok (.new 8, 3) := by decide +kernel
theorem dL_law_3 : decode cL_law 3 = .ok (.dup, 1) := by decide +kernel
theorem dL_law_4 : decode cL_law 4 = .ok (.invokespecial 88, 3) := by decide +kernel
theorem dL_law_7 : decode cL_law 7 = .ok (.astore_n 1, 1) := by decide +kernel
theorem dL_law_8 : decode cL_law 8 = .ok (.new 89, 3) := by decide +kernel
theorem dL_law_11 : decode cL_law 11 = .ok (.dup, 1) := by decide +kernel
theorem dL_law_12 : decode cL_law 12 = .ok (.invokespecial 91, 3) := by decide +kernel
theorem dL_law_15 : decode cL_law 15 = .ok (.astore_n 2, 1) := by decide +kernel
theorem dL_law_16 : decode cL_law 16 = .ok (.iconst 1, 1) := by decide +kernel
theorem dL_law_17 : decode cL_law 17 = .ok (.newarray .long, 2) := by decide +kernel
theorem dL_law_19 : decode cL_law 19 = .ok (.astore_n 3, 1) := by decide +kernel
theorem dL_law_20 : decode cL_law 20 = .ok (.iconst 0, 1) := by decide +kernel
theorem dL_law_21 : decode cL_law 21 = .ok (.istore 4, 2) := by decide +kernel
theorem dL_law_23 : decode cL_law 23 = .ok (.iload 4, 2) := by decide +kernel
theorem dL_law_25 : decode cL_law 25 = .ok (.aload_n 0, 1) := by decide +kernel
theorem dL_law_26 : decode cL_law 26 = .ok (.arraylength, 1) := by decide +kernel
theorem dL_law_27 : decode cL_law 27 = .ok (.iconst 3, 1) := by decide +kernel
theorem dL_law_28 : decode cL_law 28 = .ok (.isub, 1) := by decide +kernel
theorem dL_law_29 : decode cL_law 29 = .ok (.if_icmp .gt 1693, 3) := by decide +kernel
theorem dL_law_32 : decode cL_law 32 = .ok (.aload_n 0, 1) := by decide +kernel
theorem dL_law_33 : decode cL_law 33 = .ok (.iload 4, 2) := by decide +kernel
theorem dL_law_35 : decode cL_law 35 = .ok (.iaload, 1) := by decide +kernel
theorem dL_law_36 : decode cL_law 36 = .ok (.bipush 63, 2) := by decide +kernel
theorem dL_law_38 : decode cL_law 38 = .ok (.iand, 1) := by decide +kernel
theorem dL_law_39 : decode cL_law 39 = .ok (.tableswitch 1677 0 34 #[153, 209, 222, 290, 365, 421, 489, 557, 613, 669, 725, 738, 806, 831, 899, 955, 1011, 1067, 1123, 1179, 1192, 1260, 1316, 1329, 1342, 1398, 1411, 1467, 1480, 1493, 1549, 1562, 1575, 1619, 1663], 153) := by decide +kernel
theorem dL_law_192 : decode cL_law 192 = .ok (.aload_n 1, 1) := by decide +kernel
theorem dL_law_193 : decode cL_law 193 = .ok (.aload_n 0, 1) := by decide +kernel
theorem dL_law_194 : decode cL_law 194 = .ok (.iload 4, 2) := by decide +kernel
theorem dL_law_196 : decode cL_law 196 = .ok (.iconst 1, 1) := by decide +kernel
theorem dL_law_197 : decode cL_law 197 = .ok (.iadd, 1) := by decide +kernel
theorem dL_law_198 : decode cL_law 198 = .ok (.iaload, 1) := by decide +kernel
theorem dL_law_199 : decode cL_law 199 = .ok (.aload_n 3, 1) := by decide +kernel
theorem dL_law_200 : decode cL_law 200 = .ok (.invokestatic 92, 3) := by decide +kernel
theorem dL_law_203 : decode cL_law 203 = .ok (.istore 5, 2) := by decide +kernel
theorem dL_law_205 : decode cL_law 205 = .ok (.aload_n 2, 1) := by decide +kernel
theorem dL_law_206 : decode cL_law 206 = .ok (.aload_n 0, 1) := by decide +kernel
theorem dL_law_207 : decode cL_law 207 = .ok (.iload 4, 2) := by decide +kernel
theorem dL_law_209 : decode cL_law 209 = .ok (.iconst 1, 1) := by decide +kernel
theorem dL_law_210 : decode cL_law 210 = .ok (.iadd, 1) := by decide +kernel
theorem dL_law_211 : decode cL_law 211 = .ok (.iaload, 1) := by decide +kernel
theorem dL_law_212 : decode cL_law 212 = .ok (.invokevirtual 97, 3) := by decide +kernel
theorem dL_law_215 : decode cL_law 215 = .ok (.istore 6, 2) := by decide +kernel
theorem dL_law_217 : decode cL_law 217 = .ok (.aload_n 2, 1) := by decide +kernel
theorem dL_law_218 : decode cL_law 218 = .ok (.invokevirtual 98, 3) := by decide +kernel
theorem dL_law_221 : decode cL_law 221 = .ok (.iload 5, 2) := by decide +kernel
theorem dL_law_223 : decode cL_law 223 = .ok (.if_icmp .eq 5, 3) := by decide +kernel
theorem dL_law_226 : decode cL_law 226 = .ok (.iconst 0, 1) := by decide +kernel
theorem dL_law_227 : decode cL_law 227 = .ok (.ireturn, 1) := by decide +kernel
theorem dL_law_228 : decode cL_law 228 = .ok (.iload 5, 2) := by decide +kernel
theorem dL_law_230 : decode cL_law 230 = .ok (.ifCond .ne 15, 3) := by decide +kernel
theorem dL_law_233 : decode cL_law 233 = .ok (.aload_n 3, 1) := by decide +kernel
theorem dL_law_234 : decode cL_law 234 = .ok (.iconst 0, 1) := by decide +kernel
theorem dL_law_235 : decode cL_law 235 = .ok (.laload, 1) := by decide +kernel
theorem dL_law_236 : decode cL_law 236 = .ok (.iload 6, 2) := by decide +kernel
theorem dL_law_238 : decode cL_law 238 = .ok (.i2l, 1) := by decide +kernel
theorem dL_law_239 : decode cL_law 239 = .ok (.lcmp, 1) := by decide +kernel
theorem dL_law_240 : decode cL_law 240 = .ok (.ifCond .eq 5, 3) := by decide +kernel
theorem dL_law_243 : decode cL_law 243 = .ok (.iconst 0, 1) := by decide +kernel
theorem dL_law_244 : decode cL_law 244 = .ok (.ireturn, 1) := by decide +kernel
theorem dL_law_245 : decode cL_law 245 = .ok (.goto 1471, 3) := by decide +kernel
theorem dL_law_248 : decode cL_law 248 = .ok (.aload_n 1, 1) := by decide +kernel
theorem dL_law_249 : decode cL_law 249 = .ok (.invokevirtual 101, 3) := by decide +kernel
theorem dL_law_252 : decode cL_law 252 = .ok (.aload_n 2, 1) := by decide +kernel
theorem dL_law_253 : decode cL_law 253 = .ok (.invokevirtual 104, 3) := by decide +kernel
theorem dL_law_256 : decode cL_law 256 = .ok (.if_icmp .eq 1460, 3) := by decide +kernel
theorem dL_law_259 : decode cL_law 259 = .ok (.iconst 0, 1) := by decide +kernel
theorem dL_law_260 : decode cL_law 260 = .ok (.ireturn, 1) := by decide +kernel
theorem dL_law_261 : decode cL_law 261 = .ok (.aload_n 1, 1) := by decide +kernel
theorem dL_law_262 : decode cL_law 262 = .ok (.aload_n 0, 1) := by decide +kernel
theorem dL_law_263 : decode cL_law 263 = .ok (.iload 4, 2) := by decide +kernel
theorem dL_law_265 : decode cL_law 265 = .ok (.iconst 1, 1) := by decide +kernel
theorem dL_law_266 : decode cL_law 266 = .ok (.iadd, 1) := by decide +kernel
theorem dL_law_267 : decode cL_law 267 = .ok (.iaload, 1) := by decide +kernel
theorem dL_law_268 : decode cL_law 268 = .ok (.aload_n 0, 1) := by decide +kernel
theorem dL_law_269 : decode cL_law 269 = .ok (.iload 4, 2) := by decide +kernel
theorem dL_law_271 : decode cL_law 271 = .ok (.iconst 2, 1) := by decide +kernel
theorem dL_law_272 : decode cL_law 272 = .ok (.iadd, 1) := by decide +kernel
theorem dL_law_273 : decode cL_law 273 = .ok (.iaload, 1) := by decide +kernel
theorem dL_law_274 : decode cL_law 274 = .ok (.aload_n 3, 1) := by decide +kernel
theorem dL_law_275 : decode cL_law 275 = .ok (.invokestatic 105, 3) := by decide +kernel
theorem dL_law_278 : decode cL_law 278 = .ok (.istore 5, 2) := by decide +kernel
theorem dL_law_280 : decode cL_law 280 = .ok (.aload_n 2, 1) := by decide +kernel
theorem dL_law_281 : decode cL_law 281 = .ok (.aload_n 0, 1) := by decide +kernel
theorem dL_law_282 : decode cL_law 282 = .ok (.iload 4, 2) := by decide +kernel
theorem dL_law_284 : decode cL_law 284 = .ok (.iconst 1, 1) := by decide +kernel
theorem dL_law_285 : decode cL_law 285 = .ok (.iadd, 1) := by decide +kernel
theorem dL_law_286 : decode cL_law 286 = .ok (.iaload, 1) := by decide +kernel
theorem dL_law_287 : decode cL_law 287 = .ok (.aload_n 0, 1) := by decide +kernel
theorem dL_law_288 : decode cL_law 288 = .ok (.iload 4, 2) := by decide +kernel
theorem dL_law_290 : decode cL_law 290 = .ok (.iconst 2, 1) := by decide +kernel
theorem dL_law_291 : decode cL_law 291 = .ok (.iadd, 1) := by decide +kernel
theorem dL_law_292 : decode cL_law 292 = .ok (.iaload, 1) := by decide +kernel
theorem dL_law_293 : decode cL_law 293 = .ok (.invokevirtual 108, 3) := by decide +kernel
theorem dL_law_296 : decode cL_law 296 = .ok (.istore 6, 2) := by decide +kernel
theorem dL_law_298 : decode cL_law 298 = .ok (.aload_n 2, 1) := by decide +kernel
theorem dL_law_299 : decode cL_law 299 = .ok (.invokevirtual 98, 3) := by decide +kernel
theorem dL_law_302 : decode cL_law 302 = .ok (.iload 5, 2) := by decide +kernel
theorem dL_law_304 : decode cL_law 304 = .ok (.if_icmp .eq 5, 3) := by decide +kernel
theorem dL_law_307 : decode cL_law 307 = .ok (.iconst 0, 1) := by decide +kernel
theorem dL_law_308 : decode cL_law 308 = .ok (.ireturn, 1) := by decide +kernel
theorem dL_law_309 : decode cL_law 309 = .ok (.iload 5, 2) := by decide +kernel
theorem dL_law_311 : decode cL_law 311 = .ok (.ifCond .ne 15, 3) := by decide +kernel
theorem dL_law_314 : decode cL_law 314 = .ok (.aload_n 3, 1) := by decide +kernel
theorem dL_law_315 : decode cL_law 315 = .ok (.iconst 0, 1) := by decide +kernel
theorem dL_law_316 : decode cL_law 316 = .ok (.laload, 1) := by decide +kernel
theorem dL_law_317 : decode cL_law 317 = .ok (.iload 6, 2) := by decide +kernel
theorem dL_law_319 : decode cL_law 319 = .ok (.i2l, 1) := by decide +kernel
theorem dL_law_320 : decode cL_law 320 = .ok (.lcmp, 1) := by decide +kernel
theorem dL_law_321 : decode cL_law 321 = .ok (.ifCond .eq 5, 3) := by decide +kernel
theorem dL_law_324 : decode cL_law 324 = .ok (.iconst 0, 1) := by decide +kernel
theorem dL_law_325 : decode cL_law 325 = .ok (.ireturn, 1) := by decide +kernel
theorem dL_law_326 : decode cL_law 326 = .ok (.goto 1390, 3) := by decide +kernel
theorem dL_law_329 : decode cL_law 329 = .ok (.aload_n 1, 1) := by decide +kernel
theorem dL_law_330 : decode cL_law 330 = .ok (.aload_n 0, 1) := by decide +kernel
theorem dL_law_331 : decode cL_law 331 = .ok (.iload 4, 2) := by decide +kernel
theorem dL_law_333 : decode cL_law 333 = .ok (.iconst 1, 1) := by decide +kernel
theorem dL_law_334 : decode cL_law 334 = .ok (.iadd, 1) := by decide +kernel
theorem dL_law_335 : decode cL_law 335 = .ok (.iaload, 1) := by decide +kernel
theorem dL_law_336 : decode cL_law 336 = .ok (.aload_n 0, 1) := by decide +kernel
theorem dL_law_337 : decode cL_law 337 = .ok (.iload 4, 2) := by decide +kernel
theorem dL_law_339 : decode cL_law 339 = .ok (.iconst 2, 1) := by decide +kernel
theorem dL_law_340 : decode cL_law 340 = .ok (.iadd, 1) := by decide +kernel
theorem dL_law_341 : decode cL_law 341 = .ok (.iaload, 1) := by decide +kernel
theorem dL_law_342 : decode cL_law 342 = .ok (.aload_n 3, 1) := by decide +kernel
theorem dL_law_343 : decode cL_law 343 = .ok (.invokestatic 109, 3) := by decide +kernel
theorem dL_law_346 : decode cL_law 346 = .ok (.istore 5, 2) := by decide +kernel
theorem dL_law_348 : decode cL_law 348 = .ok (.aload_n 2, 1) := by decide +kernel
theorem dL_law_349 : decode cL_law 349 = .ok (.aload_n 0, 1) := by decide +kernel
theorem dL_law_350 : decode cL_law 350 = .ok (.iload 4, 2) := by decide +kernel
theorem dL_law_352 : decode cL_law 352 = .ok (.iconst 1, 1) := by decide +kernel
theorem dL_law_353 : decode cL_law 353 = .ok (.iadd, 1) := by decide +kernel
theorem dL_law_354 : decode cL_law 354 = .ok (.iaload, 1) := by decide +kernel
theorem dL_law_355 : decode cL_law 355 = .ok (.aload_n 0, 1) := by decide +kernel
theorem dL_law_356 : decode cL_law 356 = .ok (.iload 4, 2) := by decide +kernel
theorem dL_law_358 : decode cL_law 358 = .ok (.iconst 2, 1) := by decide +kernel
theorem dL_law_359 : decode cL_law 359 = .ok (.iadd, 1) := by decide +kernel
theorem dL_law_360 : decode cL_law 360 = .ok (.iaload, 1) := by decide +kernel
theorem dL_law_361 : decode cL_law 361 = .ok (.invokevirtual 111, 3) := by decide +kernel
theorem dL_law_364 : decode cL_law 364 = .ok (.istore 6, 2) := by decide +kernel
theorem dL_law_366 : decode cL_law 366 = .ok (.aload_n 2, 1) := by decide +kernel
theorem dL_law_367 : decode cL_law 367 = .ok (.invokevirtual 98, 3) := by decide +kernel
theorem dL_law_370 : decode cL_law 370 = .ok (.iload 5, 2) := by decide +kernel
theorem dL_law_372 : decode cL_law 372 = .ok (.if_icmp .eq 5, 3) := by decide +kernel
theorem dL_law_375 : decode cL_law 375 = .ok (.iconst 0, 1) := by decide +kernel
theorem dL_law_376 : decode cL_law 376 = .ok (.ireturn, 1) := by decide +kernel
theorem dL_law_377 : decode cL_law 377 = .ok (.iload 5, 2) := by decide +kernel
theorem dL_law_379 : decode cL_law 379 = .ok (.ifCond .ne 22, 3) := by decide +kernel
theorem dL_law_382 : decode cL_law 382 = .ok (.aload_n 3, 1) := by decide +kernel
theorem dL_law_383 : decode cL_law 383 = .ok (.iconst 0, 1) := by decide +kernel
theorem dL_law_384 : decode cL_law 384 = .ok (.laload, 1) := by decide +kernel
theorem dL_law_385 : decode cL_law 385 = .ok (.iload 6, 2) := by decide +kernel
theorem dL_law_387 : decode cL_law 387 = .ok (.ifCond .eq 7, 3) := by decide +kernel
theorem dL_law_390 : decode cL_law 390 = .ok (.lconst 1, 1) := by decide +kernel
theorem dL_law_391 : decode cL_law 391 = .ok (.goto 4, 3) := by decide +kernel
theorem dL_law_394 : decode cL_law 394 = .ok (.lconst 0, 1) := by decide +kernel
theorem dL_law_395 : decode cL_law 395 = .ok (.lcmp, 1) := by decide +kernel
theorem dL_law_396 : decode cL_law 396 = .ok (.ifCond .eq 5, 3) := by decide +kernel
theorem dL_law_399 : decode cL_law 399 = .ok (.iconst 0, 1) := by decide +kernel
theorem dL_law_400 : decode cL_law 400 = .ok (.ireturn, 1) := by decide +kernel
theorem dL_law_401 : decode cL_law 401 = .ok (.goto 1315, 3) := by decide +kernel
theorem dL_law_404 : decode cL_law 404 = .ok (.aload_n 1, 1) := by decide +kernel
theorem dL_law_405 : decode cL_law 405 = .ok (.aload_n 0, 1) := by decide +kernel
theorem dL_law_406 : decode cL_law 406 = .ok (.iload 4, 2) := by decide +kernel
theorem dL_law_408 : decode cL_law 408 = .ok (.iconst 1, 1) := by decide +kernel
theorem dL_law_409 : decode cL_law 409 = .ok (.iadd, 1) := by decide +kernel
theorem dL_law_410 : decode cL_law 410 = .ok (.iaload, 1) := by decide +kernel
theorem dL_law_411 : decode cL_law 411 = .ok (.aload_n 3, 1) := by decide +kernel
theorem dL_law_412 : decode cL_law 412 = .ok (.invokestatic 112, 3) := by decide +kernel
theorem dL_law_415 : decode cL_law 415 = .ok (.istore 5, 2) := by decide +kernel
theorem dL_law_417 : decode cL_law 417 = .ok (.aload_n 2, 1) := by decide +kernel
theorem dL_law_418 : decode cL_law 418 = .ok (.aload_n 0, 1) := by decide +kernel
theorem dL_law_419 : decode cL_law 419 = .ok (.iload 4, 2) := by decide +kernel
theorem dL_law_421 : decode cL_law 421 = .ok (.iconst 1, 1) := by decide +kernel
theorem dL_law_422 : decode cL_law 422 = .ok (.iadd, 1) := by decide +kernel
theorem dL_law_423 : decode cL_law 423 = .ok (.iaload, 1) := by decide +kernel
theorem dL_law_424 : decode cL_law 424 = .ok (.invokevirtual 114, 3) := by decide +kernel
theorem dL_law_427 : decode cL_law 427 = .ok (.istore 6, 2) := by decide +kernel
theorem dL_law_429 : decode cL_law 429 = .ok (.aload_n 2, 1) := by decide +kernel
theorem dL_law_430 : decode cL_law 430 = .ok (.invokevirtual 98, 3) := by decide +kernel
theorem dL_law_433 : decode cL_law 433 = .ok (.iload 5, 2) := by decide +kernel
theorem dL_law_435 : decode cL_law 435 = .ok (.if_icmp .eq 5, 3) := by decide +kernel
theorem dL_law_438 : decode cL_law 438 = .ok (.iconst 0, 1) := by decide +kernel
theorem dL_law_439 : decode cL_law 439 = .ok (.ireturn, 1) := by decide +kernel
theorem dL_law_440 : decode cL_law 440 = .ok (.iload 5, 2) := by decide +kernel
theorem dL_law_442 : decode cL_law 442 = .ok (.ifCond .ne 15, 3) := by decide +kernel
theorem dL_law_445 : decode cL_law 445 = .ok (.aload_n 3, 1) := by decide +kernel
theorem dL_law_446 : decode cL_law 446 = .ok (.iconst 0, 1) := by decide +kernel
theorem dL_law_447 : decode cL_law 447 = .ok (.laload, 1) := by decide +kernel
theorem dL_law_448 : decode cL_law 448 = .ok (.iload 6, 2) := by decide +kernel
theorem dL_law_450 : decode cL_law 450 = .ok (.i2l, 1) := by decide +kernel
theorem dL_law_451 : decode cL_law 451 = .ok (.lcmp, 1) := by decide +kernel
theorem dL_law_452 : decode cL_law 452 = .ok (.ifCond .eq 5, 3) := by decide +kernel
theorem dL_law_455 : decode cL_law 455 = .ok (.iconst 0, 1) := by decide +kernel
theorem dL_law_456 : decode cL_law 456 = .ok (.ireturn, 1) := by decide +kernel
theorem dL_law_457 : decode cL_law 457 = .ok (.goto 1259, 3) := by decide +kernel
theorem dL_law_460 : decode cL_law 460 = .ok (.aload_n 1, 1) := by decide +kernel
theorem dL_law_461 : decode cL_law 461 = .ok (.aload_n 0, 1) := by decide +kernel
theorem dL_law_462 : decode cL_law 462 = .ok (.iload 4, 2) := by decide +kernel
theorem dL_law_464 : decode cL_law 464 = .ok (.iconst 1, 1) := by decide +kernel
theorem dL_law_465 : decode cL_law 465 = .ok (.iadd, 1) := by decide +kernel
theorem dL_law_466 : decode cL_law 466 = .ok (.iaload, 1) := by decide +kernel
theorem dL_law_467 : decode cL_law 467 = .ok (.aload_n 0, 1) := by decide +kernel
theorem dL_law_468 : decode cL_law 468 = .ok (.iload 4, 2) := by decide +kernel
theorem dL_law_470 : decode cL_law 470 = .ok (.iconst 2, 1) := by decide +kernel
theorem dL_law_471 : decode cL_law 471 = .ok (.iadd, 1) := by decide +kernel
theorem dL_law_472 : decode cL_law 472 = .ok (.iaload, 1) := by decide +kernel
theorem dL_law_473 : decode cL_law 473 = .ok (.aload_n 3, 1) := by decide +kernel
theorem dL_law_474 : decode cL_law 474 = .ok (.invokestatic 115, 3) := by decide +kernel
theorem dL_law_477 : decode cL_law 477 = .ok (.istore 5, 2) := by decide +kernel
theorem dL_law_479 : decode cL_law 479 = .ok (.aload_n 2, 1) := by decide +kernel
theorem dL_law_480 : decode cL_law 480 = .ok (.aload_n 0, 1) := by decide +kernel
theorem dL_law_481 : decode cL_law 481 = .ok (.iload 4, 2) := by decide +kernel
theorem dL_law_483 : decode cL_law 483 = .ok (.iconst 1, 1) := by decide +kernel
theorem dL_law_484 : decode cL_law 484 = .ok (.iadd, 1) := by decide +kernel
theorem dL_law_485 : decode cL_law 485 = .ok (.iaload, 1) := by decide +kernel
theorem dL_law_486 : decode cL_law 486 = .ok (.aload_n 0, 1) := by decide +kernel
theorem dL_law_487 : decode cL_law 487 = .ok (.iload 4, 2) := by decide +kernel
theorem dL_law_489 : decode cL_law 489 = .ok (.iconst 2, 1) := by decide +kernel
theorem dL_law_490 : decode cL_law 490 = .ok (.iadd, 1) := by decide +kernel
theorem dL_law_491 : decode cL_law 491 = .ok (.iaload, 1) := by decide +kernel
theorem dL_law_492 : decode cL_law 492 = .ok (.invokevirtual 117, 3) := by decide +kernel
theorem dL_law_495 : decode cL_law 495 = .ok (.istore 6, 2) := by decide +kernel
theorem dL_law_497 : decode cL_law 497 = .ok (.aload_n 2, 1) := by decide +kernel
theorem dL_law_498 : decode cL_law 498 = .ok (.invokevirtual 98, 3) := by decide +kernel
theorem dL_law_501 : decode cL_law 501 = .ok (.iload 5, 2) := by decide +kernel
theorem dL_law_503 : decode cL_law 503 = .ok (.if_icmp .eq 5, 3) := by decide +kernel
theorem dL_law_506 : decode cL_law 506 = .ok (.iconst 0, 1) := by decide +kernel
theorem dL_law_507 : decode cL_law 507 = .ok (.ireturn, 1) := by decide +kernel
theorem dL_law_508 : decode cL_law 508 = .ok (.iload 5, 2) := by decide +kernel
theorem dL_law_510 : decode cL_law 510 = .ok (.ifCond .ne 15, 3) := by decide +kernel
theorem dL_law_513 : decode cL_law 513 = .ok (.aload_n 3, 1) := by decide +kernel
theorem dL_law_514 : decode cL_law 514 = .ok (.iconst 0, 1) := by decide +kernel
theorem dL_law_515 : decode cL_law 515 = .ok (.laload, 1) := by decide +kernel
theorem dL_law_516 : decode cL_law 516 = .ok (.iload 6, 2) := by decide +kernel
theorem dL_law_518 : decode cL_law 518 = .ok (.i2l, 1) := by decide +kernel
theorem dL_law_519 : decode cL_law 519 = .ok (.lcmp, 1) := by decide +kernel
theorem dL_law_520 : decode cL_law 520 = .ok (.ifCond .eq 5, 3) := by decide +kernel
theorem dL_law_523 : decode cL_law 523 = .ok (.iconst 0, 1) := by decide +kernel
theorem dL_law_524 : decode cL_law 524 = .ok (.ireturn, 1) := by decide +kernel
theorem dL_law_525 : decode cL_law 525 = .ok (.goto 1191, 3) := by decide +kernel
theorem dL_law_528 : decode cL_law 528 = .ok (.aload_n 1, 1) := by decide +kernel
theorem dL_law_529 : decode cL_law 529 = .ok (.aload_n 0, 1) := by decide +kernel
theorem dL_law_530 : decode cL_law 530 = .ok (.iload 4, 2) := by decide +kernel
theorem dL_law_532 : decode cL_law 532 = .ok (.iconst 1, 1) := by decide +kernel
theorem dL_law_533 : decode cL_law 533 = .ok (.iadd, 1) := by decide +kernel
theorem dL_law_534 : decode cL_law 534 = .ok (.iaload, 1) := by decide +kernel
theorem dL_law_535 : decode cL_law 535 = .ok (.aload_n 0, 1) := by decide +kernel
theorem dL_law_536 : decode cL_law 536 = .ok (.iload 4, 2) := by decide +kernel
theorem dL_law_538 : decode cL_law 538 = .ok (.iconst 2, 1) := by decide +kernel
theorem dL_law_539 : decode cL_law 539 = .ok (.iadd, 1) := by decide +kernel
theorem dL_law_540 : decode cL_law 540 = .ok (.iaload, 1) := by decide +kernel
theorem dL_law_541 : decode cL_law 541 = .ok (.aload_n 3, 1) := by decide +kernel
theorem dL_law_542 : decode cL_law 542 = .ok (.invokestatic 118, 3) := by decide +kernel
theorem dL_law_545 : decode cL_law 545 = .ok (.istore 5, 2) := by decide +kernel
theorem dL_law_547 : decode cL_law 547 = .ok (.aload_n 2, 1) := by decide +kernel
theorem dL_law_548 : decode cL_law 548 = .ok (.aload_n 0, 1) := by decide +kernel
theorem dL_law_549 : decode cL_law 549 = .ok (.iload 4, 2) := by decide +kernel
theorem dL_law_551 : decode cL_law 551 = .ok (.iconst 1, 1) := by decide +kernel
theorem dL_law_552 : decode cL_law 552 = .ok (.iadd, 1) := by decide +kernel
theorem dL_law_553 : decode cL_law 553 = .ok (.iaload, 1) := by decide +kernel
theorem dL_law_554 : decode cL_law 554 = .ok (.aload_n 0, 1) := by decide +kernel
theorem dL_law_555 : decode cL_law 555 = .ok (.iload 4, 2) := by decide +kernel
theorem dL_law_557 : decode cL_law 557 = .ok (.iconst 2, 1) := by decide +kernel
theorem dL_law_558 : decode cL_law 558 = .ok (.iadd, 1) := by decide +kernel
theorem dL_law_559 : decode cL_law 559 = .ok (.iaload, 1) := by decide +kernel
theorem dL_law_560 : decode cL_law 560 = .ok (.invokevirtual 120, 3) := by decide +kernel
theorem dL_law_563 : decode cL_law 563 = .ok (.istore 6, 2) := by decide +kernel
theorem dL_law_565 : decode cL_law 565 = .ok (.aload_n 2, 1) := by decide +kernel
theorem dL_law_566 : decode cL_law 566 = .ok (.invokevirtual 98, 3) := by decide +kernel
theorem dL_law_569 : decode cL_law 569 = .ok (.iload 5, 2) := by decide +kernel
theorem dL_law_571 : decode cL_law 571 = .ok (.if_icmp .eq 5, 3) := by decide +kernel
theorem dL_law_574 : decode cL_law 574 = .ok (.iconst 0, 1) := by decide +kernel
theorem dL_law_575 : decode cL_law 575 = .ok (.ireturn, 1) := by decide +kernel
theorem dL_law_576 : decode cL_law 576 = .ok (.iload 5, 2) := by decide +kernel
theorem dL_law_578 : decode cL_law 578 = .ok (.ifCond .ne 15, 3) := by decide +kernel
theorem dL_law_581 : decode cL_law 581 = .ok (.aload_n 3, 1) := by decide +kernel
theorem dL_law_582 : decode cL_law 582 = .ok (.iconst 0, 1) := by decide +kernel
theorem dL_law_583 : decode cL_law 583 = .ok (.laload, 1) := by decide +kernel
theorem dL_law_584 : decode cL_law 584 = .ok (.iload 6, 2) := by decide +kernel
theorem dL_law_586 : decode cL_law 586 = .ok (.i2l, 1) := by decide +kernel
theorem dL_law_587 : decode cL_law 587 = .ok (.lcmp, 1) := by decide +kernel
theorem dL_law_588 : decode cL_law 588 = .ok (.ifCond .eq 5, 3) := by decide +kernel
theorem dL_law_591 : decode cL_law 591 = .ok (.iconst 0, 1) := by decide +kernel
theorem dL_law_592 : decode cL_law 592 = .ok (.ireturn, 1) := by decide +kernel
theorem dL_law_593 : decode cL_law 593 = .ok (.goto 1123, 3) := by decide +kernel
theorem dL_law_596 : decode cL_law 596 = .ok (.aload_n 1, 1) := by decide +kernel
theorem dL_law_597 : decode cL_law 597 = .ok (.aload_n 0, 1) := by decide +kernel
theorem dL_law_598 : decode cL_law 598 = .ok (.iload 4, 2) := by decide +kernel
theorem dL_law_600 : decode cL_law 600 = .ok (.iconst 1, 1) := by decide +kernel
theorem dL_law_601 : decode cL_law 601 = .ok (.iadd, 1) := by decide +kernel
theorem dL_law_602 : decode cL_law 602 = .ok (.iaload, 1) := by decide +kernel
theorem dL_law_603 : decode cL_law 603 = .ok (.aload_n 3, 1) := by decide +kernel
theorem dL_law_604 : decode cL_law 604 = .ok (.invokestatic 121, 3) := by decide +kernel
theorem dL_law_607 : decode cL_law 607 = .ok (.istore 5, 2) := by decide +kernel
theorem dL_law_609 : decode cL_law 609 = .ok (.aload_n 2, 1) := by decide +kernel
theorem dL_law_610 : decode cL_law 610 = .ok (.aload_n 0, 1) := by decide +kernel
theorem dL_law_611 : decode cL_law 611 = .ok (.iload 4, 2) := by decide +kernel
theorem dL_law_613 : decode cL_law 613 = .ok (.iconst 1, 1) := by decide +kernel
theorem dL_law_614 : decode cL_law 614 = .ok (.iadd, 1) := by decide +kernel
theorem dL_law_615 : decode cL_law 615 = .ok (.iaload, 1) := by decide +kernel
theorem dL_law_616 : decode cL_law 616 = .ok (.invokevirtual 123, 3) := by decide +kernel
theorem dL_law_619 : decode cL_law 619 = .ok (.istore 6, 2) := by decide +kernel
theorem dL_law_621 : decode cL_law 621 = .ok (.aload_n 2, 1) := by decide +kernel
theorem dL_law_622 : decode cL_law 622 = .ok (.invokevirtual 98, 3) := by decide +kernel
theorem dL_law_625 : decode cL_law 625 = .ok (.iload 5, 2) := by decide +kernel
theorem dL_law_627 : decode cL_law 627 = .ok (.if_icmp .eq 5, 3) := by decide +kernel
theorem dL_law_630 : decode cL_law 630 = .ok (.iconst 0, 1) := by decide +kernel
theorem dL_law_631 : decode cL_law 631 = .ok (.ireturn, 1) := by decide +kernel
theorem dL_law_632 : decode cL_law 632 = .ok (.iload 5, 2) := by decide +kernel
theorem dL_law_634 : decode cL_law 634 = .ok (.ifCond .ne 15, 3) := by decide +kernel
theorem dL_law_637 : decode cL_law 637 = .ok (.aload_n 3, 1) := by decide +kernel
theorem dL_law_638 : decode cL_law 638 = .ok (.iconst 0, 1) := by decide +kernel
theorem dL_law_639 : decode cL_law 639 = .ok (.laload, 1) := by decide +kernel
theorem dL_law_640 : decode cL_law 640 = .ok (.iload 6, 2) := by decide +kernel
theorem dL_law_642 : decode cL_law 642 = .ok (.i2l, 1) := by decide +kernel
theorem dL_law_643 : decode cL_law 643 = .ok (.lcmp, 1) := by decide +kernel
theorem dL_law_644 : decode cL_law 644 = .ok (.ifCond .eq 5, 3) := by decide +kernel
theorem dL_law_647 : decode cL_law 647 = .ok (.iconst 0, 1) := by decide +kernel
theorem dL_law_648 : decode cL_law 648 = .ok (.ireturn, 1) := by decide +kernel
theorem dL_law_649 : decode cL_law 649 = .ok (.goto 1067, 3) := by decide +kernel
theorem dL_law_652 : decode cL_law 652 = .ok (.aload_n 1, 1) := by decide +kernel
theorem dL_law_653 : decode cL_law 653 = .ok (.aload_n 0, 1) := by decide +kernel
theorem dL_law_654 : decode cL_law 654 = .ok (.iload 4, 2) := by decide +kernel
theorem dL_law_656 : decode cL_law 656 = .ok (.iconst 1, 1) := by decide +kernel
theorem dL_law_657 : decode cL_law 657 = .ok (.iadd, 1) := by decide +kernel
theorem dL_law_658 : decode cL_law 658 = .ok (.iaload, 1) := by decide +kernel
theorem dL_law_659 : decode cL_law 659 = .ok (.aload_n 3, 1) := by decide +kernel
theorem dL_law_660 : decode cL_law 660 = .ok (.invokestatic 124, 3) := by decide +kernel
theorem dL_law_663 : decode cL_law 663 = .ok (.istore 5, 2) := by decide +kernel
theorem dL_law_665 : decode cL_law 665 = .ok (.aload_n 2, 1) := by decide +kernel
theorem dL_law_666 : decode cL_law 666 = .ok (.aload_n 0, 1) := by decide +kernel
theorem dL_law_667 : decode cL_law 667 = .ok (.iload 4, 2) := by decide +kernel
theorem dL_law_669 : decode cL_law 669 = .ok (.iconst 1, 1) := by decide +kernel
theorem dL_law_670 : decode cL_law 670 = .ok (.iadd, 1) := by decide +kernel
theorem dL_law_671 : decode cL_law 671 = .ok (.iaload, 1) := by decide +kernel
theorem dL_law_672 : decode cL_law 672 = .ok (.invokevirtual 126, 3) := by decide +kernel
theorem dL_law_675 : decode cL_law 675 = .ok (.istore 6, 2) := by decide +kernel
theorem dL_law_677 : decode cL_law 677 = .ok (.aload_n 2, 1) := by decide +kernel
theorem dL_law_678 : decode cL_law 678 = .ok (.invokevirtual 98, 3) := by decide +kernel
theorem dL_law_681 : decode cL_law 681 = .ok (.iload 5, 2) := by decide +kernel
theorem dL_law_683 : decode cL_law 683 = .ok (.if_icmp .eq 5, 3) := by decide +kernel
theorem dL_law_686 : decode cL_law 686 = .ok (.iconst 0, 1) := by decide +kernel
theorem dL_law_687 : decode cL_law 687 = .ok (.ireturn, 1) := by decide +kernel
theorem dL_law_688 : decode cL_law 688 = .ok (.iload 5, 2) := by decide +kernel
theorem dL_law_690 : decode cL_law 690 = .ok (.ifCond .ne 15, 3) := by decide +kernel
theorem dL_law_693 : decode cL_law 693 = .ok (.aload_n 3, 1) := by decide +kernel
theorem dL_law_694 : decode cL_law 694 = .ok (.iconst 0, 1) := by decide +kernel
theorem dL_law_695 : decode cL_law 695 = .ok (.laload, 1) := by decide +kernel
theorem dL_law_696 : decode cL_law 696 = .ok (.iload 6, 2) := by decide +kernel
theorem dL_law_698 : decode cL_law 698 = .ok (.i2l, 1) := by decide +kernel
theorem dL_law_699 : decode cL_law 699 = .ok (.lcmp, 1) := by decide +kernel
theorem dL_law_700 : decode cL_law 700 = .ok (.ifCond .eq 5, 3) := by decide +kernel
theorem dL_law_703 : decode cL_law 703 = .ok (.iconst 0, 1) := by decide +kernel
theorem dL_law_704 : decode cL_law 704 = .ok (.ireturn, 1) := by decide +kernel
theorem dL_law_705 : decode cL_law 705 = .ok (.goto 1011, 3) := by decide +kernel
theorem dL_law_708 : decode cL_law 708 = .ok (.aload_n 1, 1) := by decide +kernel
theorem dL_law_709 : decode cL_law 709 = .ok (.aload_n 0, 1) := by decide +kernel
theorem dL_law_710 : decode cL_law 710 = .ok (.iload 4, 2) := by decide +kernel
theorem dL_law_712 : decode cL_law 712 = .ok (.iconst 1, 1) := by decide +kernel
theorem dL_law_713 : decode cL_law 713 = .ok (.iadd, 1) := by decide +kernel
theorem dL_law_714 : decode cL_law 714 = .ok (.iaload, 1) := by decide +kernel
theorem dL_law_715 : decode cL_law 715 = .ok (.aload_n 3, 1) := by decide +kernel
theorem dL_law_716 : decode cL_law 716 = .ok (.invokestatic 127, 3) := by decide +kernel
theorem dL_law_719 : decode cL_law 719 = .ok (.istore 5, 2) := by decide +kernel
theorem dL_law_721 : decode cL_law 721 = .ok (.aload_n 2, 1) := by decide +kernel
theorem dL_law_722 : decode cL_law 722 = .ok (.aload_n 0, 1) := by decide +kernel
theorem dL_law_723 : decode cL_law 723 = .ok (.iload 4, 2) := by decide +kernel
theorem dL_law_725 : decode cL_law 725 = .ok (.iconst 1, 1) := by decide +kernel
theorem dL_law_726 : decode cL_law 726 = .ok (.iadd, 1) := by decide +kernel
theorem dL_law_727 : decode cL_law 727 = .ok (.iaload, 1) := by decide +kernel
theorem dL_law_728 : decode cL_law 728 = .ok (.invokevirtual 129, 3) := by decide +kernel
theorem dL_law_731 : decode cL_law 731 = .ok (.istore 6, 2) := by decide +kernel
theorem dL_law_733 : decode cL_law 733 = .ok (.aload_n 2, 1) := by decide +kernel
theorem dL_law_734 : decode cL_law 734 = .ok (.invokevirtual 98, 3) := by decide +kernel
theorem dL_law_737 : decode cL_law 737 = .ok (.iload 5, 2) := by decide +kernel
theorem dL_law_739 : decode cL_law 739 = .ok (.if_icmp .eq 5, 3) := by decide +kernel
theorem dL_law_742 : decode cL_law 742 = .ok (.iconst 0, 1) := by decide +kernel
theorem dL_law_743 : decode cL_law 743 = .ok (.ireturn, 1) := by decide +kernel
theorem dL_law_744 : decode cL_law 744 = .ok (.iload 5, 2) := by decide +kernel
theorem dL_law_746 : decode cL_law 746 = .ok (.ifCond .ne 15, 3) := by decide +kernel
theorem dL_law_749 : decode cL_law 749 = .ok (.aload_n 3, 1) := by decide +kernel
theorem dL_law_750 : decode cL_law 750 = .ok (.iconst 0, 1) := by decide +kernel
theorem dL_law_751 : decode cL_law 751 = .ok (.laload, 1) := by decide +kernel
theorem dL_law_752 : decode cL_law 752 = .ok (.iload 6, 2) := by decide +kernel
theorem dL_law_754 : decode cL_law 754 = .ok (.i2l, 1) := by decide +kernel
theorem dL_law_755 : decode cL_law 755 = .ok (.lcmp, 1) := by decide +kernel
theorem dL_law_756 : decode cL_law 756 = .ok (.ifCond .eq 5, 3) := by decide +kernel
theorem dL_law_759 : decode cL_law 759 = .ok (.iconst 0, 1) := by decide +kernel
theorem dL_law_760 : decode cL_law 760 = .ok (.ireturn, 1) := by decide +kernel
theorem dL_law_761 : decode cL_law 761 = .ok (.goto 955, 3) := by decide +kernel
theorem dL_law_764 : decode cL_law 764 = .ok (.aload_n 1, 1) := by decide +kernel
theorem dL_law_765 : decode cL_law 765 = .ok (.invokevirtual 130, 3) := by decide +kernel
theorem dL_law_768 : decode cL_law 768 = .ok (.aload_n 2, 1) := by decide +kernel
theorem dL_law_769 : decode cL_law 769 = .ok (.invokevirtual 133, 3) := by decide +kernel
theorem dL_law_772 : decode cL_law 772 = .ok (.if_icmp .eq 944, 3) := by decide +kernel
theorem dL_law_775 : decode cL_law 775 = .ok (.iconst 0, 1) := by decide +kernel
theorem dL_law_776 : decode cL_law 776 = .ok (.ireturn, 1) := by decide +kernel
theorem dL_law_777 : decode cL_law 777 = .ok (.aload_n 1, 1) := by decide +kernel
theorem dL_law_778 : decode cL_law 778 = .ok (.aload_n 0, 1) := by decide +kernel
theorem dL_law_779 : decode cL_law 779 = .ok (.iload 4, 2) := by decide +kernel
theorem dL_law_781 : decode cL_law 781 = .ok (.iconst 1, 1) := by decide +kernel
theorem dL_law_782 : decode cL_law 782 = .ok (.iadd, 1) := by decide +kernel
theorem dL_law_783 : decode cL_law 783 = .ok (.iaload, 1) := by decide +kernel
theorem dL_law_784 : decode cL_law 784 = .ok (.aload_n 0, 1) := by decide +kernel
theorem dL_law_785 : decode cL_law 785 = .ok (.iload 4, 2) := by decide +kernel
theorem dL_law_787 : decode cL_law 787 = .ok (.iconst 2, 1) := by decide +kernel
theorem dL_law_788 : decode cL_law 788 = .ok (.iadd, 1) := by decide +kernel
theorem dL_law_789 : decode cL_law 789 = .ok (.iaload, 1) := by decide +kernel
theorem dL_law_790 : decode cL_law 790 = .ok (.aload_n 3, 1) := by decide +kernel
theorem dL_law_791 : decode cL_law 791 = .ok (.invokestatic 134, 3) := by decide +kernel
theorem dL_law_794 : decode cL_law 794 = .ok (.istore 5, 2) := by decide +kernel
theorem dL_law_796 : decode cL_law 796 = .ok (.aload_n 2, 1) := by decide +kernel
theorem dL_law_797 : decode cL_law 797 = .ok (.aload_n 0, 1) := by decide +kernel
theorem dL_law_798 : decode cL_law 798 = .ok (.iload 4, 2) := by decide +kernel
theorem dL_law_800 : decode cL_law 800 = .ok (.iconst 1, 1) := by decide +kernel
theorem dL_law_801 : decode cL_law 801 = .ok (.iadd, 1) := by decide +kernel
theorem dL_law_802 : decode cL_law 802 = .ok (.iaload, 1) := by decide +kernel
theorem dL_law_803 : decode cL_law 803 = .ok (.aload_n 0, 1) := by decide +kernel
theorem dL_law_804 : decode cL_law 804 = .ok (.iload 4, 2) := by decide +kernel
theorem dL_law_806 : decode cL_law 806 = .ok (.iconst 2, 1) := by decide +kernel
theorem dL_law_807 : decode cL_law 807 = .ok (.iadd, 1) := by decide +kernel
theorem dL_law_808 : decode cL_law 808 = .ok (.iaload, 1) := by decide +kernel
theorem dL_law_809 : decode cL_law 809 = .ok (.invokevirtual 136, 3) := by decide +kernel
theorem dL_law_812 : decode cL_law 812 = .ok (.istore 6, 2) := by decide +kernel
theorem dL_law_814 : decode cL_law 814 = .ok (.aload_n 2, 1) := by decide +kernel
theorem dL_law_815 : decode cL_law 815 = .ok (.invokevirtual 98, 3) := by decide +kernel
theorem dL_law_818 : decode cL_law 818 = .ok (.iload 5, 2) := by decide +kernel
theorem dL_law_820 : decode cL_law 820 = .ok (.if_icmp .eq 5, 3) := by decide +kernel
theorem dL_law_823 : decode cL_law 823 = .ok (.iconst 0, 1) := by decide +kernel
theorem dL_law_824 : decode cL_law 824 = .ok (.ireturn, 1) := by decide +kernel
theorem dL_law_825 : decode cL_law 825 = .ok (.iload 5, 2) := by decide +kernel
theorem dL_law_827 : decode cL_law 827 = .ok (.ifCond .ne 15, 3) := by decide +kernel
theorem dL_law_830 : decode cL_law 830 = .ok (.aload_n 3, 1) := by decide +kernel
theorem dL_law_831 : decode cL_law 831 = .ok (.iconst 0, 1) := by decide +kernel
theorem dL_law_832 : decode cL_law 832 = .ok (.laload, 1) := by decide +kernel
theorem dL_law_833 : decode cL_law 833 = .ok (.iload 6, 2) := by decide +kernel
theorem dL_law_835 : decode cL_law 835 = .ok (.i2l, 1) := by decide +kernel
theorem dL_law_836 : decode cL_law 836 = .ok (.lcmp, 1) := by decide +kernel
theorem dL_law_837 : decode cL_law 837 = .ok (.ifCond .eq 5, 3) := by decide +kernel
theorem dL_law_840 : decode cL_law 840 = .ok (.iconst 0, 1) := by decide +kernel
theorem dL_law_841 : decode cL_law 841 = .ok (.ireturn, 1) := by decide +kernel
theorem dL_law_842 : decode cL_law 842 = .ok (.goto 874, 3) := by decide +kernel
theorem dL_law_845 : decode cL_law 845 = .ok (.aload_n 1, 1) := by decide +kernel
theorem dL_law_846 : decode cL_law 846 = .ok (.aload_n 0, 1) := by decide +kernel
theorem dL_law_847 : decode cL_law 847 = .ok (.iload 4, 2) := by decide +kernel
theorem dL_law_849 : decode cL_law 849 = .ok (.iconst 1, 1) := by decide +kernel
theorem dL_law_850 : decode cL_law 850 = .ok (.iadd, 1) := by decide +kernel
theorem dL_law_851 : decode cL_law 851 = .ok (.iaload, 1) := by decide +kernel
theorem dL_law_852 : decode cL_law 852 = .ok (.invokevirtual 137, 3) := by decide +kernel
theorem dL_law_855 : decode cL_law 855 = .ok (.aload_n 2, 1) := by decide +kernel
theorem dL_law_856 : decode cL_law 856 = .ok (.aload_n 0, 1) := by decide +kernel
theorem dL_law_857 : decode cL_law 857 = .ok (.iload 4, 2) := by decide +kernel
theorem dL_law_859 : decode cL_law 859 = .ok (.iconst 1, 1) := by decide +kernel
theorem dL_law_860 : decode cL_law 860 = .ok (.iadd, 1) := by decide +kernel
theorem dL_law_861 : decode cL_law 861 = .ok (.iaload, 1) := by decide +kernel
theorem dL_law_862 : decode cL_law 862 = .ok (.invokevirtual 140, 3) := by decide +kernel
theorem dL_law_865 : decode cL_law 865 = .ok (.if_icmp .eq 851, 3) := by decide +kernel
theorem dL_law_868 : decode cL_law 868 = .ok (.iconst 0, 1) := by decide +kernel
theorem dL_law_869 : decode cL_law 869 = .ok (.ireturn, 1) := by decide +kernel
theorem dL_law_870 : decode cL_law 870 = .ok (.aload_n 1, 1) := by decide +kernel
theorem dL_law_871 : decode cL_law 871 = .ok (.aload_n 0, 1) := by decide +kernel
theorem dL_law_872 : decode cL_law 872 = .ok (.iload 4, 2) := by decide +kernel
theorem dL_law_874 : decode cL_law 874 = .ok (.iconst 1, 1) := by decide +kernel
theorem dL_law_875 : decode cL_law 875 = .ok (.iadd, 1) := by decide +kernel
theorem dL_law_876 : decode cL_law 876 = .ok (.iaload, 1) := by decide +kernel
theorem dL_law_877 : decode cL_law 877 = .ok (.aload_n 0, 1) := by decide +kernel
theorem dL_law_878 : decode cL_law 878 = .ok (.iload 4, 2) := by decide +kernel
theorem dL_law_880 : decode cL_law 880 = .ok (.iconst 2, 1) := by decide +kernel
theorem dL_law_881 : decode cL_law 881 = .ok (.iadd, 1) := by decide +kernel
theorem dL_law_882 : decode cL_law 882 = .ok (.iaload, 1) := by decide +kernel
theorem dL_law_883 : decode cL_law 883 = .ok (.aload_n 3, 1) := by decide +kernel
theorem dL_law_884 : decode cL_law 884 = .ok (.invokestatic 141, 3) := by decide +kernel
theorem dL_law_887 : decode cL_law 887 = .ok (.istore 5, 2) := by decide +kernel
theorem dL_law_889 : decode cL_law 889 = .ok (.aload_n 2, 1) := by decide +kernel
theorem dL_law_890 : decode cL_law 890 = .ok (.aload_n 0, 1) := by decide +kernel
theorem dL_law_891 : decode cL_law 891 = .ok (.iload 4, 2) := by decide +kernel
theorem dL_law_893 : decode cL_law 893 = .ok (.iconst 1, 1) := by decide +kernel
theorem dL_law_894 : decode cL_law 894 = .ok (.iadd, 1) := by decide +kernel
theorem dL_law_895 : decode cL_law 895 = .ok (.iaload, 1) := by decide +kernel
theorem dL_law_896 : decode cL_law 896 = .ok (.aload_n 0, 1) := by decide +kernel
theorem dL_law_897 : decode cL_law 897 = .ok (.iload 4, 2) := by decide +kernel
theorem dL_law_899 : decode cL_law 899 = .ok (.iconst 2, 1) := by decide +kernel
theorem dL_law_900 : decode cL_law 900 = .ok (.iadd, 1) := by decide +kernel
theorem dL_law_901 : decode cL_law 901 = .ok (.iaload, 1) := by decide +kernel
theorem dL_law_902 : decode cL_law 902 = .ok (.invokevirtual 143, 3) := by decide +kernel
theorem dL_law_905 : decode cL_law 905 = .ok (.istore 6, 2) := by decide +kernel
theorem dL_law_907 : decode cL_law 907 = .ok (.aload_n 2, 1) := by decide +kernel
theorem dL_law_908 : decode cL_law 908 = .ok (.invokevirtual 98, 3) := by decide +kernel
theorem dL_law_911 : decode cL_law 911 = .ok (.iload 5, 2) := by decide +kernel
theorem dL_law_913 : decode cL_law 913 = .ok (.if_icmp .eq 5, 3) := by decide +kernel
theorem dL_law_916 : decode cL_law 916 = .ok (.iconst 0, 1) := by decide +kernel
theorem dL_law_917 : decode cL_law 917 = .ok (.ireturn, 1) := by decide +kernel
theorem dL_law_918 : decode cL_law 918 = .ok (.iload 5, 2) := by decide +kernel
theorem dL_law_920 : decode cL_law 920 = .ok (.ifCond .ne 15, 3) := by decide +kernel
theorem dL_law_923 : decode cL_law 923 = .ok (.aload_n 3, 1) := by decide +kernel
theorem dL_law_924 : decode cL_law 924 = .ok (.iconst 0, 1) := by decide +kernel
theorem dL_law_925 : decode cL_law 925 = .ok (.laload, 1) := by decide +kernel
theorem dL_law_926 : decode cL_law 926 = .ok (.iload 6, 2) := by decide +kernel
theorem dL_law_928 : decode cL_law 928 = .ok (.i2l, 1) := by decide +kernel
theorem dL_law_929 : decode cL_law 929 = .ok (.lcmp, 1) := by decide +kernel
theorem dL_law_930 : decode cL_law 930 = .ok (.ifCond .eq 5, 3) := by decide +kernel
theorem dL_law_933 : decode cL_law 933 = .ok (.iconst 0, 1) := by decide +kernel
theorem dL_law_934 : decode cL_law 934 = .ok (.ireturn, 1) := by decide +kernel
theorem dL_law_935 : decode cL_law 935 = .ok (.goto 781, 3) := by decide +kernel
theorem dL_law_938 : decode cL_law 938 = .ok (.aload_n 1, 1) := by decide +kernel
theorem dL_law_939 : decode cL_law 939 = .ok (.aload_n 0, 1) := by decide +kernel
theorem dL_law_940 : decode cL_law 940 = .ok (.iload 4, 2) := by decide +kernel
theorem dL_law_942 : decode cL_law 942 = .ok (.iconst 1, 1) := by decide +kernel
theorem dL_law_943 : decode cL_law 943 = .ok (.iadd, 1) := by decide +kernel
theorem dL_law_944 : decode cL_law 944 = .ok (.iaload, 1) := by decide +kernel
theorem dL_law_945 : decode cL_law 945 = .ok (.aload_n 3, 1) := by decide +kernel
theorem dL_law_946 : decode cL_law 946 = .ok (.invokestatic 144, 3) := by decide +kernel
theorem dL_law_949 : decode cL_law 949 = .ok (.istore 5, 2) := by decide +kernel
theorem dL_law_951 : decode cL_law 951 = .ok (.aload_n 2, 1) := by decide +kernel
theorem dL_law_952 : decode cL_law 952 = .ok (.aload_n 0, 1) := by decide +kernel
theorem dL_law_953 : decode cL_law 953 = .ok (.iload 4, 2) := by decide +kernel
theorem dL_law_955 : decode cL_law 955 = .ok (.iconst 1, 1) := by decide +kernel
theorem dL_law_956 : decode cL_law 956 = .ok (.iadd, 1) := by decide +kernel
theorem dL_law_957 : decode cL_law 957 = .ok (.iaload, 1) := by decide +kernel
theorem dL_law_958 : decode cL_law 958 = .ok (.invokevirtual 146, 3) := by decide +kernel
theorem dL_law_961 : decode cL_law 961 = .ok (.istore 6, 2) := by decide +kernel
theorem dL_law_963 : decode cL_law 963 = .ok (.aload_n 2, 1) := by decide +kernel
theorem dL_law_964 : decode cL_law 964 = .ok (.invokevirtual 98, 3) := by decide +kernel
theorem dL_law_967 : decode cL_law 967 = .ok (.iload 5, 2) := by decide +kernel
theorem dL_law_969 : decode cL_law 969 = .ok (.if_icmp .eq 5, 3) := by decide +kernel
theorem dL_law_972 : decode cL_law 972 = .ok (.iconst 0, 1) := by decide +kernel
theorem dL_law_973 : decode cL_law 973 = .ok (.ireturn, 1) := by decide +kernel
theorem dL_law_974 : decode cL_law 974 = .ok (.iload 5, 2) := by decide +kernel
theorem dL_law_976 : decode cL_law 976 = .ok (.ifCond .ne 15, 3) := by decide +kernel
theorem dL_law_979 : decode cL_law 979 = .ok (.aload_n 3, 1) := by decide +kernel
theorem dL_law_980 : decode cL_law 980 = .ok (.iconst 0, 1) := by decide +kernel
theorem dL_law_981 : decode cL_law 981 = .ok (.laload, 1) := by decide +kernel
theorem dL_law_982 : decode cL_law 982 = .ok (.iload 6, 2) := by decide +kernel
theorem dL_law_984 : decode cL_law 984 = .ok (.i2l, 1) := by decide +kernel
theorem dL_law_985 : decode cL_law 985 = .ok (.lcmp, 1) := by decide +kernel
theorem dL_law_986 : decode cL_law 986 = .ok (.ifCond .eq 5, 3) := by decide +kernel
theorem dL_law_989 : decode cL_law 989 = .ok (.iconst 0, 1) := by decide +kernel
theorem dL_law_990 : decode cL_law 990 = .ok (.ireturn, 1) := by decide +kernel
theorem dL_law_991 : decode cL_law 991 = .ok (.goto 725, 3) := by decide +kernel
theorem dL_law_994 : decode cL_law 994 = .ok (.aload_n 1, 1) := by decide +kernel
theorem dL_law_995 : decode cL_law 995 = .ok (.aload_n 0, 1) := by decide +kernel
theorem dL_law_996 : decode cL_law 996 = .ok (.iload 4, 2) := by decide +kernel
theorem dL_law_998 : decode cL_law 998 = .ok (.iconst 1, 1) := by decide +kernel
theorem dL_law_999 : decode cL_law 999 = .ok (.iadd, 1) := by decide +kernel
theorem dL_law_1000 : decode cL_law 1000 = .ok (.iaload, 1) := by decide +kernel
theorem dL_law_1001 : decode cL_law 1001 = .ok (.aload_n 3, 1) := by decide +kernel
theorem dL_law_1002 : decode cL_law 1002 = .ok (.invokestatic 147, 3) := by decide +kernel
theorem dL_law_1005 : decode cL_law 1005 = .ok (.istore 5, 2) := by decide +kernel
theorem dL_law_1007 : decode cL_law 1007 = .ok (.aload_n 2, 1) := by decide +kernel
theorem dL_law_1008 : decode cL_law 1008 = .ok (.aload_n 0, 1) := by decide +kernel
theorem dL_law_1009 : decode cL_law 1009 = .ok (.iload 4, 2) := by decide +kernel
theorem dL_law_1011 : decode cL_law 1011 = .ok (.iconst 1, 1) := by decide +kernel
theorem dL_law_1012 : decode cL_law 1012 = .ok (.iadd, 1) := by decide +kernel
theorem dL_law_1013 : decode cL_law 1013 = .ok (.iaload, 1) := by decide +kernel
theorem dL_law_1014 : decode cL_law 1014 = .ok (.invokevirtual 149, 3) := by decide +kernel
theorem dL_law_1017 : decode cL_law 1017 = .ok (.istore 6, 2) := by decide +kernel
theorem dL_law_1019 : decode cL_law 1019 = .ok (.aload_n 2, 1) := by decide +kernel
theorem dL_law_1020 : decode cL_law 1020 = .ok (.invokevirtual 98, 3) := by decide +kernel
theorem dL_law_1023 : decode cL_law 1023 = .ok (.iload 5, 2) := by decide +kernel
theorem dL_law_1025 : decode cL_law 1025 = .ok (.if_icmp .eq 5, 3) := by decide +kernel
theorem dL_law_1028 : decode cL_law 1028 = .ok (.iconst 0, 1) := by decide +kernel
theorem dL_law_1029 : decode cL_law 1029 = .ok (.ireturn, 1) := by decide +kernel
theorem dL_law_1030 : decode cL_law 1030 = .ok (.iload 5, 2) := by decide +kernel
theorem dL_law_1032 : decode cL_law 1032 = .ok (.ifCond .ne 15, 3) := by decide +kernel
theorem dL_law_1035 : decode cL_law 1035 = .ok (.aload_n 3, 1) := by decide +kernel
theorem dL_law_1036 : decode cL_law 1036 = .ok (.iconst 0, 1) := by decide +kernel
theorem dL_law_1037 : decode cL_law 1037 = .ok (.laload, 1) := by decide +kernel
theorem dL_law_1038 : decode cL_law 1038 = .ok (.iload 6, 2) := by decide +kernel
theorem dL_law_1040 : decode cL_law 1040 = .ok (.i2l, 1) := by decide +kernel
theorem dL_law_1041 : decode cL_law 1041 = .ok (.lcmp, 1) := by decide +kernel
theorem dL_law_1042 : decode cL_law 1042 = .ok (.ifCond .eq 5, 3) := by decide +kernel
theorem dL_law_1045 : decode cL_law 1045 = .ok (.iconst 0, 1) := by decide +kernel
theorem dL_law_1046 : decode cL_law 1046 = .ok (.ireturn, 1) := by decide +kernel
theorem dL_law_1047 : decode cL_law 1047 = .ok (.goto 669, 3) := by decide +kernel
theorem dL_law_1050 : decode cL_law 1050 = .ok (.aload_n 1, 1) := by decide +kernel
theorem dL_law_1051 : decode cL_law 1051 = .ok (.aload_n 0, 1) := by decide +kernel
theorem dL_law_1052 : decode cL_law 1052 = .ok (.iload 4, 2) := by decide +kernel
theorem dL_law_1054 : decode cL_law 1054 = .ok (.iconst 1, 1) := by decide +kernel
theorem dL_law_1055 : decode cL_law 1055 = .ok (.iadd, 1) := by decide +kernel
theorem dL_law_1056 : decode cL_law 1056 = .ok (.iaload, 1) := by decide +kernel
theorem dL_law_1057 : decode cL_law 1057 = .ok (.aload_n 3, 1) := by decide +kernel
theorem dL_law_1058 : decode cL_law 1058 = .ok (.invokestatic 150, 3) := by decide +kernel
theorem dL_law_1061 : decode cL_law 1061 = .ok (.istore 5, 2) := by decide +kernel
theorem dL_law_1063 : decode cL_law 1063 = .ok (.aload_n 2, 1) := by decide +kernel
theorem dL_law_1064 : decode cL_law 1064 = .ok (.aload_n 0, 1) := by decide +kernel
theorem dL_law_1065 : decode cL_law 1065 = .ok (.iload 4, 2) := by decide +kernel
theorem dL_law_1067 : decode cL_law 1067 = .ok (.iconst 1, 1) := by decide +kernel
theorem dL_law_1068 : decode cL_law 1068 = .ok (.iadd, 1) := by decide +kernel
theorem dL_law_1069 : decode cL_law 1069 = .ok (.iaload, 1) := by decide +kernel
theorem dL_law_1070 : decode cL_law 1070 = .ok (.invokevirtual 152, 3) := by decide +kernel
theorem dL_law_1073 : decode cL_law 1073 = .ok (.istore 6, 2) := by decide +kernel
theorem dL_law_1075 : decode cL_law 1075 = .ok (.aload_n 2, 1) := by decide +kernel
theorem dL_law_1076 : decode cL_law 1076 = .ok (.invokevirtual 98, 3) := by decide +kernel
theorem dL_law_1079 : decode cL_law 1079 = .ok (.iload 5, 2) := by decide +kernel
theorem dL_law_1081 : decode cL_law 1081 = .ok (.if_icmp .eq 5, 3) := by decide +kernel
theorem dL_law_1084 : decode cL_law 1084 = .ok (.iconst 0, 1) := by decide +kernel
theorem dL_law_1085 : decode cL_law 1085 = .ok (.ireturn, 1) := by decide +kernel
theorem dL_law_1086 : decode cL_law 1086 = .ok (.iload 5, 2) := by decide +kernel
theorem dL_law_1088 : decode cL_law 1088 = .ok (.ifCond .ne 15, 3) := by decide +kernel
theorem dL_law_1091 : decode cL_law 1091 = .ok (.aload_n 3, 1) := by decide +kernel
theorem dL_law_1092 : decode cL_law 1092 = .ok (.iconst 0, 1) := by decide +kernel
theorem dL_law_1093 : decode cL_law 1093 = .ok (.laload, 1) := by decide +kernel
theorem dL_law_1094 : decode cL_law 1094 = .ok (.iload 6, 2) := by decide +kernel
theorem dL_law_1096 : decode cL_law 1096 = .ok (.i2l, 1) := by decide +kernel
theorem dL_law_1097 : decode cL_law 1097 = .ok (.lcmp, 1) := by decide +kernel
theorem dL_law_1098 : decode cL_law 1098 = .ok (.ifCond .eq 5, 3) := by decide +kernel
theorem dL_law_1101 : decode cL_law 1101 = .ok (.iconst 0, 1) := by decide +kernel
theorem dL_law_1102 : decode cL_law 1102 = .ok (.ireturn, 1) := by decide +kernel
theorem dL_law_1103 : decode cL_law 1103 = .ok (.goto 613, 3) := by decide +kernel
theorem dL_law_1106 : decode cL_law 1106 = .ok (.aload_n 1, 1) := by decide +kernel
theorem dL_law_1107 : decode cL_law 1107 = .ok (.aload_n 0, 1) := by decide +kernel
theorem dL_law_1108 : decode cL_law 1108 = .ok (.iload 4, 2) := by decide +kernel
theorem dL_law_1110 : decode cL_law 1110 = .ok (.iconst 1, 1) := by decide +kernel
theorem dL_law_1111 : decode cL_law 1111 = .ok (.iadd, 1) := by decide +kernel
theorem dL_law_1112 : decode cL_law 1112 = .ok (.iaload, 1) := by decide +kernel
theorem dL_law_1113 : decode cL_law 1113 = .ok (.aload_n 3, 1) := by decide +kernel
theorem dL_law_1114 : decode cL_law 1114 = .ok (.invokestatic 153, 3) := by decide +kernel
theorem dL_law_1117 : decode cL_law 1117 = .ok (.istore 5, 2) := by decide +kernel
theorem dL_law_1119 : decode cL_law 1119 = .ok (.aload_n 2, 1) := by decide +kernel
theorem dL_law_1120 : decode cL_law 1120 = .ok (.aload_n 0, 1) := by decide +kernel
theorem dL_law_1121 : decode cL_law 1121 = .ok (.iload 4, 2) := by decide +kernel
theorem dL_law_1123 : decode cL_law 1123 = .ok (.iconst 1, 1) := by decide +kernel
theorem dL_law_1124 : decode cL_law 1124 = .ok (.iadd, 1) := by decide +kernel
theorem dL_law_1125 : decode cL_law 1125 = .ok (.iaload, 1) := by decide +kernel
theorem dL_law_1126 : decode cL_law 1126 = .ok (.invokevirtual 155, 3) := by decide +kernel
theorem dL_law_1129 : decode cL_law 1129 = .ok (.istore 6, 2) := by decide +kernel
theorem dL_law_1131 : decode cL_law 1131 = .ok (.aload_n 2, 1) := by decide +kernel
theorem dL_law_1132 : decode cL_law 1132 = .ok (.invokevirtual 98, 3) := by decide +kernel
theorem dL_law_1135 : decode cL_law 1135 = .ok (.iload 5, 2) := by decide +kernel
theorem dL_law_1137 : decode cL_law 1137 = .ok (.if_icmp .eq 5, 3) := by decide +kernel
theorem dL_law_1140 : decode cL_law 1140 = .ok (.iconst 0, 1) := by decide +kernel
theorem dL_law_1141 : decode cL_law 1141 = .ok (.ireturn, 1) := by decide +kernel
theorem dL_law_1142 : decode cL_law 1142 = .ok (.iload 5, 2) := by decide +kernel
theorem dL_law_1144 : decode cL_law 1144 = .ok (.ifCond .ne 15, 3) := by decide +kernel
theorem dL_law_1147 : decode cL_law 1147 = .ok (.aload_n 3, 1) := by decide +kernel
theorem dL_law_1148 : decode cL_law 1148 = .ok (.iconst 0, 1) := by decide +kernel
theorem dL_law_1149 : decode cL_law 1149 = .ok (.laload, 1) := by decide +kernel
theorem dL_law_1150 : decode cL_law 1150 = .ok (.iload 6, 2) := by decide +kernel
theorem dL_law_1152 : decode cL_law 1152 = .ok (.i2l, 1) := by decide +kernel
theorem dL_law_1153 : decode cL_law 1153 = .ok (.lcmp, 1) := by decide +kernel
theorem dL_law_1154 : decode cL_law 1154 = .ok (.ifCond .eq 5, 3) := by decide +kernel
theorem dL_law_1157 : decode cL_law 1157 = .ok (.iconst 0, 1) := by decide +kernel
theorem dL_law_1158 : decode cL_law 1158 = .ok (.ireturn, 1) := by decide +kernel
theorem dL_law_1159 : decode cL_law 1159 = .ok (.goto 557, 3) := by decide +kernel
theorem dL_law_1162 : decode cL_law 1162 = .ok (.aload_n 1, 1) := by decide +kernel
theorem dL_law_1163 : decode cL_law 1163 = .ok (.aload_n 0, 1) := by decide +kernel
theorem dL_law_1164 : decode cL_law 1164 = .ok (.iload 4, 2) := by decide +kernel
theorem dL_law_1166 : decode cL_law 1166 = .ok (.iconst 1, 1) := by decide +kernel
theorem dL_law_1167 : decode cL_law 1167 = .ok (.iadd, 1) := by decide +kernel
theorem dL_law_1168 : decode cL_law 1168 = .ok (.iaload, 1) := by decide +kernel
theorem dL_law_1169 : decode cL_law 1169 = .ok (.aload_n 3, 1) := by decide +kernel
theorem dL_law_1170 : decode cL_law 1170 = .ok (.invokestatic 156, 3) := by decide +kernel
theorem dL_law_1173 : decode cL_law 1173 = .ok (.istore 5, 2) := by decide +kernel
theorem dL_law_1175 : decode cL_law 1175 = .ok (.aload_n 2, 1) := by decide +kernel
theorem dL_law_1176 : decode cL_law 1176 = .ok (.aload_n 0, 1) := by decide +kernel
theorem dL_law_1177 : decode cL_law 1177 = .ok (.iload 4, 2) := by decide +kernel
theorem dL_law_1179 : decode cL_law 1179 = .ok (.iconst 1, 1) := by decide +kernel
theorem dL_law_1180 : decode cL_law 1180 = .ok (.iadd, 1) := by decide +kernel
theorem dL_law_1181 : decode cL_law 1181 = .ok (.iaload, 1) := by decide +kernel
theorem dL_law_1182 : decode cL_law 1182 = .ok (.invokevirtual 158, 3) := by decide +kernel
theorem dL_law_1185 : decode cL_law 1185 = .ok (.istore 6, 2) := by decide +kernel
theorem dL_law_1187 : decode cL_law 1187 = .ok (.aload_n 2, 1) := by decide +kernel
theorem dL_law_1188 : decode cL_law 1188 = .ok (.invokevirtual 98, 3) := by decide +kernel
theorem dL_law_1191 : decode cL_law 1191 = .ok (.iload 5, 2) := by decide +kernel
theorem dL_law_1193 : decode cL_law 1193 = .ok (.if_icmp .eq 5, 3) := by decide +kernel
theorem dL_law_1196 : decode cL_law 1196 = .ok (.iconst 0, 1) := by decide +kernel
theorem dL_law_1197 : decode cL_law 1197 = .ok (.ireturn, 1) := by decide +kernel
theorem dL_law_1198 : decode cL_law 1198 = .ok (.iload 5, 2) := by decide +kernel
theorem dL_law_1200 : decode cL_law 1200 = .ok (.ifCond .ne 15, 3) := by decide +kernel
theorem dL_law_1203 : decode cL_law 1203 = .ok (.aload_n 3, 1) := by decide +kernel
theorem dL_law_1204 : decode cL_law 1204 = .ok (.iconst 0, 1) := by decide +kernel
theorem dL_law_1205 : decode cL_law 1205 = .ok (.laload, 1) := by decide +kernel
theorem dL_law_1206 : decode cL_law 1206 = .ok (.iload 6, 2) := by decide +kernel
theorem dL_law_1208 : decode cL_law 1208 = .ok (.i2l, 1) := by decide +kernel
theorem dL_law_1209 : decode cL_law 1209 = .ok (.lcmp, 1) := by decide +kernel
theorem dL_law_1210 : decode cL_law 1210 = .ok (.ifCond .eq 5, 3) := by decide +kernel
theorem dL_law_1213 : decode cL_law 1213 = .ok (.iconst 0, 1) := by decide +kernel
theorem dL_law_1214 : decode cL_law 1214 = .ok (.ireturn, 1) := by decide +kernel
theorem dL_law_1215 : decode cL_law 1215 = .ok (.goto 501, 3) := by decide +kernel
theorem dL_law_1218 : decode cL_law 1218 = .ok (.aload_n 1, 1) := by decide +kernel
theorem dL_law_1219 : decode cL_law 1219 = .ok (.invokevirtual 159, 3) := by decide +kernel
theorem dL_law_1222 : decode cL_law 1222 = .ok (.aload_n 2, 1) := by decide +kernel
theorem dL_law_1223 : decode cL_law 1223 = .ok (.invokevirtual 162, 3) := by decide +kernel
theorem dL_law_1226 : decode cL_law 1226 = .ok (.if_icmp .eq 490, 3) := by decide +kernel
theorem dL_law_1229 : decode cL_law 1229 = .ok (.iconst 0, 1) := by decide +kernel
theorem dL_law_1230 : decode cL_law 1230 = .ok (.ireturn, 1) := by decide +kernel
theorem dL_law_1231 : decode cL_law 1231 = .ok (.aload_n 1, 1) := by decide +kernel
theorem dL_law_1232 : decode cL_law 1232 = .ok (.aload_n 0, 1) := by decide +kernel
theorem dL_law_1233 : decode cL_law 1233 = .ok (.iload 4, 2) := by decide +kernel
theorem dL_law_1235 : decode cL_law 1235 = .ok (.iconst 1, 1) := by decide +kernel
theorem dL_law_1236 : decode cL_law 1236 = .ok (.iadd, 1) := by decide +kernel
theorem dL_law_1237 : decode cL_law 1237 = .ok (.iaload, 1) := by decide +kernel
theorem dL_law_1238 : decode cL_law 1238 = .ok (.aload_n 0, 1) := by decide +kernel
theorem dL_law_1239 : decode cL_law 1239 = .ok (.iload 4, 2) := by decide +kernel
theorem dL_law_1241 : decode cL_law 1241 = .ok (.iconst 2, 1) := by decide +kernel
theorem dL_law_1242 : decode cL_law 1242 = .ok (.iadd, 1) := by decide +kernel
theorem dL_law_1243 : decode cL_law 1243 = .ok (.iaload, 1) := by decide +kernel
theorem dL_law_1244 : decode cL_law 1244 = .ok (.aload_n 3, 1) := by decide +kernel
theorem dL_law_1245 : decode cL_law 1245 = .ok (.invokestatic 163, 3) := by decide +kernel
theorem dL_law_1248 : decode cL_law 1248 = .ok (.istore 5, 2) := by decide +kernel
theorem dL_law_1250 : decode cL_law 1250 = .ok (.aload_n 2, 1) := by decide +kernel
theorem dL_law_1251 : decode cL_law 1251 = .ok (.aload_n 0, 1) := by decide +kernel
theorem dL_law_1252 : decode cL_law 1252 = .ok (.iload 4, 2) := by decide +kernel
theorem dL_law_1254 : decode cL_law 1254 = .ok (.iconst 1, 1) := by decide +kernel
theorem dL_law_1255 : decode cL_law 1255 = .ok (.iadd, 1) := by decide +kernel
theorem dL_law_1256 : decode cL_law 1256 = .ok (.iaload, 1) := by decide +kernel
theorem dL_law_1257 : decode cL_law 1257 = .ok (.aload_n 0, 1) := by decide +kernel
theorem dL_law_1258 : decode cL_law 1258 = .ok (.iload 4, 2) := by decide +kernel
theorem dL_law_1260 : decode cL_law 1260 = .ok (.iconst 2, 1) := by decide +kernel
theorem dL_law_1261 : decode cL_law 1261 = .ok (.iadd, 1) := by decide +kernel
theorem dL_law_1262 : decode cL_law 1262 = .ok (.iaload, 1) := by decide +kernel
theorem dL_law_1263 : decode cL_law 1263 = .ok (.invokevirtual 165, 3) := by decide +kernel
theorem dL_law_1266 : decode cL_law 1266 = .ok (.istore 6, 2) := by decide +kernel
theorem dL_law_1268 : decode cL_law 1268 = .ok (.aload_n 2, 1) := by decide +kernel
theorem dL_law_1269 : decode cL_law 1269 = .ok (.invokevirtual 98, 3) := by decide +kernel
theorem dL_law_1272 : decode cL_law 1272 = .ok (.iload 5, 2) := by decide +kernel
theorem dL_law_1274 : decode cL_law 1274 = .ok (.if_icmp .eq 5, 3) := by decide +kernel
theorem dL_law_1277 : decode cL_law 1277 = .ok (.iconst 0, 1) := by decide +kernel
theorem dL_law_1278 : decode cL_law 1278 = .ok (.ireturn, 1) := by decide +kernel
theorem dL_law_1279 : decode cL_law 1279 = .ok (.iload 5, 2) := by decide +kernel
theorem dL_law_1281 : decode cL_law 1281 = .ok (.ifCond .ne 15, 3) := by decide +kernel
theorem dL_law_1284 : decode cL_law 1284 = .ok (.aload_n 3, 1) := by decide +kernel
theorem dL_law_1285 : decode cL_law 1285 = .ok (.iconst 0, 1) := by decide +kernel
theorem dL_law_1286 : decode cL_law 1286 = .ok (.laload, 1) := by decide +kernel
theorem dL_law_1287 : decode cL_law 1287 = .ok (.iload 6, 2) := by decide +kernel
theorem dL_law_1289 : decode cL_law 1289 = .ok (.i2l, 1) := by decide +kernel
theorem dL_law_1290 : decode cL_law 1290 = .ok (.lcmp, 1) := by decide +kernel
theorem dL_law_1291 : decode cL_law 1291 = .ok (.ifCond .eq 5, 3) := by decide +kernel
theorem dL_law_1294 : decode cL_law 1294 = .ok (.iconst 0, 1) := by decide +kernel
theorem dL_law_1295 : decode cL_law 1295 = .ok (.ireturn, 1) := by decide +kernel
theorem dL_law_1296 : decode cL_law 1296 = .ok (.goto 420, 3) := by decide +kernel
theorem dL_law_1299 : decode cL_law 1299 = .ok (.aload_n 1, 1) := by decide +kernel
theorem dL_law_1300 : decode cL_law 1300 = .ok (.aload_n 0, 1) := by decide +kernel
theorem dL_law_1301 : decode cL_law 1301 = .ok (.iload 4, 2) := by decide +kernel
theorem dL_law_1303 : decode cL_law 1303 = .ok (.iconst 1, 1) := by decide +kernel
theorem dL_law_1304 : decode cL_law 1304 = .ok (.iadd, 1) := by decide +kernel
theorem dL_law_1305 : decode cL_law 1305 = .ok (.iaload, 1) := by decide +kernel
theorem dL_law_1306 : decode cL_law 1306 = .ok (.aload_n 3, 1) := by decide +kernel
theorem dL_law_1307 : decode cL_law 1307 = .ok (.invokestatic 166, 3) := by decide +kernel
theorem dL_law_1310 : decode cL_law 1310 = .ok (.istore 5, 2) := by decide +kernel
theorem dL_law_1312 : decode cL_law 1312 = .ok (.aload_n 2, 1) := by decide +kernel
theorem dL_law_1313 : decode cL_law 1313 = .ok (.aload_n 0, 1) := by decide +kernel
theorem dL_law_1314 : decode cL_law 1314 = .ok (.iload 4, 2) := by decide +kernel
theorem dL_law_1316 : decode cL_law 1316 = .ok (.iconst 1, 1) := by decide +kernel
theorem dL_law_1317 : decode cL_law 1317 = .ok (.iadd, 1) := by decide +kernel
theorem dL_law_1318 : decode cL_law 1318 = .ok (.iaload, 1) := by decide +kernel
theorem dL_law_1319 : decode cL_law 1319 = .ok (.invokevirtual 168, 3) := by decide +kernel
theorem dL_law_1322 : decode cL_law 1322 = .ok (.istore 6, 2) := by decide +kernel
theorem dL_law_1324 : decode cL_law 1324 = .ok (.aload_n 2, 1) := by decide +kernel
theorem dL_law_1325 : decode cL_law 1325 = .ok (.invokevirtual 98, 3) := by decide +kernel
theorem dL_law_1328 : decode cL_law 1328 = .ok (.iload 5, 2) := by decide +kernel
theorem dL_law_1330 : decode cL_law 1330 = .ok (.if_icmp .eq 5, 3) := by decide +kernel
theorem dL_law_1333 : decode cL_law 1333 = .ok (.iconst 0, 1) := by decide +kernel
theorem dL_law_1334 : decode cL_law 1334 = .ok (.ireturn, 1) := by decide +kernel
theorem dL_law_1335 : decode cL_law 1335 = .ok (.iload 5, 2) := by decide +kernel
theorem dL_law_1337 : decode cL_law 1337 = .ok (.ifCond .ne 15, 3) := by decide +kernel
theorem dL_law_1340 : decode cL_law 1340 = .ok (.aload_n 3, 1) := by decide +kernel
theorem dL_law_1341 : decode cL_law 1341 = .ok (.iconst 0, 1) := by decide +kernel
theorem dL_law_1342 : decode cL_law 1342 = .ok (.laload, 1) := by decide +kernel
theorem dL_law_1343 : decode cL_law 1343 = .ok (.iload 6, 2) := by decide +kernel
theorem dL_law_1345 : decode cL_law 1345 = .ok (.i2l, 1) := by decide +kernel
theorem dL_law_1346 : decode cL_law 1346 = .ok (.lcmp, 1) := by decide +kernel
theorem dL_law_1347 : decode cL_law 1347 = .ok (.ifCond .eq 5, 3) := by decide +kernel
theorem dL_law_1350 : decode cL_law 1350 = .ok (.iconst 0, 1) := by decide +kernel
theorem dL_law_1351 : decode cL_law 1351 = .ok (.ireturn, 1) := by decide +kernel
theorem dL_law_1352 : decode cL_law 1352 = .ok (.goto 364, 3) := by decide +kernel
theorem dL_law_1355 : decode cL_law 1355 = .ok (.aload_n 1, 1) := by decide +kernel
theorem dL_law_1356 : decode cL_law 1356 = .ok (.invokevirtual 169, 3) := by decide +kernel
theorem dL_law_1359 : decode cL_law 1359 = .ok (.aload_n 2, 1) := by decide +kernel
theorem dL_law_1360 : decode cL_law 1360 = .ok (.invokevirtual 172, 3) := by decide +kernel
theorem dL_law_1363 : decode cL_law 1363 = .ok (.if_icmp .eq 353, 3) := by decide +kernel
theorem dL_law_1366 : decode cL_law 1366 = .ok (.iconst 0, 1) := by decide +kernel
theorem dL_law_1367 : decode cL_law 1367 = .ok (.ireturn, 1) := by decide +kernel
theorem dL_law_1368 : decode cL_law 1368 = .ok (.aload_n 1, 1) := by decide +kernel
theorem dL_law_1369 : decode cL_law 1369 = .ok (.invokevirtual 173, 3) := by decide +kernel
theorem dL_law_1372 : decode cL_law 1372 = .ok (.aload_n 2, 1) := by decide +kernel
theorem dL_law_1373 : decode cL_law 1373 = .ok (.invokevirtual 176, 3) := by decide +kernel
theorem dL_law_1376 : decode cL_law 1376 = .ok (.if_icmp .eq 340, 3) := by decide +kernel
theorem dL_law_1379 : decode cL_law 1379 = .ok (.iconst 0, 1) := by decide +kernel
theorem dL_law_1380 : decode cL_law 1380 = .ok (.ireturn, 1) := by decide +kernel
theorem dL_law_1381 : decode cL_law 1381 = .ok (.aload_n 1, 1) := by decide +kernel
theorem dL_law_1382 : decode cL_law 1382 = .ok (.aload_n 0, 1) := by decide +kernel
theorem dL_law_1383 : decode cL_law 1383 = .ok (.iload 4, 2) := by decide +kernel
theorem dL_law_1385 : decode cL_law 1385 = .ok (.iconst 1, 1) := by decide +kernel
theorem dL_law_1386 : decode cL_law 1386 = .ok (.iadd, 1) := by decide +kernel
theorem dL_law_1387 : decode cL_law 1387 = .ok (.iaload, 1) := by decide +kernel
theorem dL_law_1388 : decode cL_law 1388 = .ok (.aload_n 3, 1) := by decide +kernel
theorem dL_law_1389 : decode cL_law 1389 = .ok (.invokestatic 177, 3) := by decide +kernel
theorem dL_law_1392 : decode cL_law 1392 = .ok (.istore 5, 2) := by decide +kernel
theorem dL_law_1394 : decode cL_law 1394 = .ok (.aload_n 2, 1) := by decide +kernel
theorem dL_law_1395 : decode cL_law 1395 = .ok (.aload_n 0, 1) := by decide +kernel
theorem dL_law_1396 : decode cL_law 1396 = .ok (.iload 4, 2) := by decide +kernel
theorem dL_law_1398 : decode cL_law 1398 = .ok (.iconst 1, 1) := by decide +kernel
theorem dL_law_1399 : decode cL_law 1399 = .ok (.iadd, 1) := by decide +kernel
theorem dL_law_1400 : decode cL_law 1400 = .ok (.iaload, 1) := by decide +kernel
theorem dL_law_1401 : decode cL_law 1401 = .ok (.invokevirtual 179, 3) := by decide +kernel
theorem dL_law_1404 : decode cL_law 1404 = .ok (.istore 6, 2) := by decide +kernel
theorem dL_law_1406 : decode cL_law 1406 = .ok (.aload_n 2, 1) := by decide +kernel
theorem dL_law_1407 : decode cL_law 1407 = .ok (.invokevirtual 98, 3) := by decide +kernel
theorem dL_law_1410 : decode cL_law 1410 = .ok (.iload 5, 2) := by decide +kernel
theorem dL_law_1412 : decode cL_law 1412 = .ok (.if_icmp .eq 5, 3) := by decide +kernel
theorem dL_law_1415 : decode cL_law 1415 = .ok (.iconst 0, 1) := by decide +kernel
theorem dL_law_1416 : decode cL_law 1416 = .ok (.ireturn, 1) := by decide +kernel
theorem dL_law_1417 : decode cL_law 1417 = .ok (.iload 5, 2) := by decide +kernel
theorem dL_law_1419 : decode cL_law 1419 = .ok (.ifCond .ne 15, 3) := by decide +kernel
theorem dL_law_1422 : decode cL_law 1422 = .ok (.aload_n 3, 1) := by decide +kernel
theorem dL_law_1423 : decode cL_law 1423 = .ok (.iconst 0, 1) := by decide +kernel
theorem dL_law_1424 : decode cL_law 1424 = .ok (.laload, 1) := by decide +kernel
theorem dL_law_1425 : decode cL_law 1425 = .ok (.iload 6, 2) := by decide +kernel
theorem dL_law_1427 : decode cL_law 1427 = .ok (.i2l, 1) := by decide +kernel
theorem dL_law_1428 : decode cL_law 1428 = .ok (.lcmp, 1) := by decide +kernel
theorem dL_law_1429 : decode cL_law 1429 = .ok (.ifCond .eq 5, 3) := by decide +kernel
theorem dL_law_1432 : decode cL_law 1432 = .ok (.iconst 0, 1) := by decide +kernel
theorem dL_law_1433 : decode cL_law 1433 = .ok (.ireturn, 1) := by decide +kernel
theorem dL_law_1434 : decode cL_law 1434 = .ok (.goto 282, 3) := by decide +kernel
theorem dL_law_1437 : decode cL_law 1437 = .ok (.aload_n 1, 1) := by decide +kernel
theorem dL_law_1438 : decode cL_law 1438 = .ok (.invokevirtual 180, 3) := by decide +kernel
theorem dL_law_1441 : decode cL_law 1441 = .ok (.aload_n 2, 1) := by decide +kernel
theorem dL_law_1442 : decode cL_law 1442 = .ok (.invokevirtual 183, 3) := by decide +kernel
theorem dL_law_1445 : decode cL_law 1445 = .ok (.if_icmp .eq 271, 3) := by decide +kernel
theorem dL_law_1448 : decode cL_law 1448 = .ok (.iconst 0, 1) := by decide +kernel
theorem dL_law_1449 : decode cL_law 1449 = .ok (.ireturn, 1) := by decide +kernel
theorem dL_law_1450 : decode cL_law 1450 = .ok (.aload_n 1, 1) := by decide +kernel
theorem dL_law_1451 : decode cL_law 1451 = .ok (.aload_n 0, 1) := by decide +kernel
theorem dL_law_1452 : decode cL_law 1452 = .ok (.iload 4, 2) := by decide +kernel
theorem dL_law_1454 : decode cL_law 1454 = .ok (.iconst 1, 1) := by decide +kernel
theorem dL_law_1455 : decode cL_law 1455 = .ok (.iadd, 1) := by decide +kernel
theorem dL_law_1456 : decode cL_law 1456 = .ok (.iaload, 1) := by decide +kernel
theorem dL_law_1457 : decode cL_law 1457 = .ok (.aload_n 3, 1) := by decide +kernel
theorem dL_law_1458 : decode cL_law 1458 = .ok (.invokestatic 184, 3) := by decide +kernel
theorem dL_law_1461 : decode cL_law 1461 = .ok (.istore 5, 2) := by decide +kernel
theorem dL_law_1463 : decode cL_law 1463 = .ok (.aload_n 2, 1) := by decide +kernel
theorem dL_law_1464 : decode cL_law 1464 = .ok (.aload_n 0, 1) := by decide +kernel
theorem dL_law_1465 : decode cL_law 1465 = .ok (.iload 4, 2) := by decide +kernel
theorem dL_law_1467 : decode cL_law 1467 = .ok (.iconst 1, 1) := by decide +kernel
theorem dL_law_1468 : decode cL_law 1468 = .ok (.iadd, 1) := by decide +kernel
theorem dL_law_1469 : decode cL_law 1469 = .ok (.iaload, 1) := by decide +kernel
theorem dL_law_1470 : decode cL_law 1470 = .ok (.invokevirtual 186, 3) := by decide +kernel
theorem dL_law_1473 : decode cL_law 1473 = .ok (.istore 6, 2) := by decide +kernel
theorem dL_law_1475 : decode cL_law 1475 = .ok (.aload_n 2, 1) := by decide +kernel
theorem dL_law_1476 : decode cL_law 1476 = .ok (.invokevirtual 98, 3) := by decide +kernel
theorem dL_law_1479 : decode cL_law 1479 = .ok (.iload 5, 2) := by decide +kernel
theorem dL_law_1481 : decode cL_law 1481 = .ok (.if_icmp .eq 5, 3) := by decide +kernel
theorem dL_law_1484 : decode cL_law 1484 = .ok (.iconst 0, 1) := by decide +kernel
theorem dL_law_1485 : decode cL_law 1485 = .ok (.ireturn, 1) := by decide +kernel
theorem dL_law_1486 : decode cL_law 1486 = .ok (.iload 5, 2) := by decide +kernel
theorem dL_law_1488 : decode cL_law 1488 = .ok (.ifCond .ne 15, 3) := by decide +kernel
theorem dL_law_1491 : decode cL_law 1491 = .ok (.aload_n 3, 1) := by decide +kernel
theorem dL_law_1492 : decode cL_law 1492 = .ok (.iconst 0, 1) := by decide +kernel
theorem dL_law_1493 : decode cL_law 1493 = .ok (.laload, 1) := by decide +kernel
theorem dL_law_1494 : decode cL_law 1494 = .ok (.iload 6, 2) := by decide +kernel
theorem dL_law_1496 : decode cL_law 1496 = .ok (.i2l, 1) := by decide +kernel
theorem dL_law_1497 : decode cL_law 1497 = .ok (.lcmp, 1) := by decide +kernel
theorem dL_law_1498 : decode cL_law 1498 = .ok (.ifCond .eq 5, 3) := by decide +kernel
theorem dL_law_1501 : decode cL_law 1501 = .ok (.iconst 0, 1) := by decide +kernel
theorem dL_law_1502 : decode cL_law 1502 = .ok (.ireturn, 1) := by decide +kernel
theorem dL_law_1503 : decode cL_law 1503 = .ok (.goto 213, 3) := by decide +kernel
theorem dL_law_1506 : decode cL_law 1506 = .ok (.aload_n 1, 1) := by decide +kernel
theorem dL_law_1507 : decode cL_law 1507 = .ok (.invokevirtual 187, 3) := by decide +kernel
theorem dL_law_1510 : decode cL_law 1510 = .ok (.aload_n 2, 1) := by decide +kernel
theorem dL_law_1511 : decode cL_law 1511 = .ok (.invokevirtual 190, 3) := by decide +kernel
theorem dL_law_1514 : decode cL_law 1514 = .ok (.if_icmp .eq 202, 3) := by decide +kernel
theorem dL_law_1517 : decode cL_law 1517 = .ok (.iconst 0, 1) := by decide +kernel
theorem dL_law_1518 : decode cL_law 1518 = .ok (.ireturn, 1) := by decide +kernel
theorem dL_law_1519 : decode cL_law 1519 = .ok (.aload_n 1, 1) := by decide +kernel
theorem dL_law_1520 : decode cL_law 1520 = .ok (.invokevirtual 191, 3) := by decide +kernel
theorem dL_law_1523 : decode cL_law 1523 = .ok (.aload_n 2, 1) := by decide +kernel
theorem dL_law_1524 : decode cL_law 1524 = .ok (.invokevirtual 194, 3) := by decide +kernel
theorem dL_law_1527 : decode cL_law 1527 = .ok (.if_icmp .eq 189, 3) := by decide +kernel
theorem dL_law_1530 : decode cL_law 1530 = .ok (.iconst 0, 1) := by decide +kernel
theorem dL_law_1531 : decode cL_law 1531 = .ok (.ireturn, 1) := by decide +kernel
theorem dL_law_1532 : decode cL_law 1532 = .ok (.aload_n 1, 1) := by decide +kernel
theorem dL_law_1533 : decode cL_law 1533 = .ok (.aload_n 0, 1) := by decide +kernel
theorem dL_law_1534 : decode cL_law 1534 = .ok (.iload 4, 2) := by decide +kernel
theorem dL_law_1536 : decode cL_law 1536 = .ok (.iconst 1, 1) := by decide +kernel
theorem dL_law_1537 : decode cL_law 1537 = .ok (.iadd, 1) := by decide +kernel
theorem dL_law_1538 : decode cL_law 1538 = .ok (.iaload, 1) := by decide +kernel
theorem dL_law_1539 : decode cL_law 1539 = .ok (.aload_n 3, 1) := by decide +kernel
theorem dL_law_1540 : decode cL_law 1540 = .ok (.invokestatic 195, 3) := by decide +kernel
theorem dL_law_1543 : decode cL_law 1543 = .ok (.istore 5, 2) := by decide +kernel
theorem dL_law_1545 : decode cL_law 1545 = .ok (.aload_n 2, 1) := by decide +kernel
theorem dL_law_1546 : decode cL_law 1546 = .ok (.aload_n 0, 1) := by decide +kernel
theorem dL_law_1547 : decode cL_law 1547 = .ok (.iload 4, 2) := by decide +kernel
theorem dL_law_1549 : decode cL_law 1549 = .ok (.iconst 1, 1) := by decide +kernel
theorem dL_law_1550 : decode cL_law 1550 = .ok (.iadd, 1) := by decide +kernel
theorem dL_law_1551 : decode cL_law 1551 = .ok (.iaload, 1) := by decide +kernel
theorem dL_law_1552 : decode cL_law 1552 = .ok (.invokevirtual 197, 3) := by decide +kernel
theorem dL_law_1555 : decode cL_law 1555 = .ok (.istore 6, 2) := by decide +kernel
theorem dL_law_1557 : decode cL_law 1557 = .ok (.aload_n 2, 1) := by decide +kernel
theorem dL_law_1558 : decode cL_law 1558 = .ok (.invokevirtual 98, 3) := by decide +kernel
theorem dL_law_1561 : decode cL_law 1561 = .ok (.iload 5, 2) := by decide +kernel
theorem dL_law_1563 : decode cL_law 1563 = .ok (.if_icmp .eq 5, 3) := by decide +kernel
theorem dL_law_1566 : decode cL_law 1566 = .ok (.iconst 0, 1) := by decide +kernel
theorem dL_law_1567 : decode cL_law 1567 = .ok (.ireturn, 1) := by decide +kernel
theorem dL_law_1568 : decode cL_law 1568 = .ok (.iload 5, 2) := by decide +kernel
theorem dL_law_1570 : decode cL_law 1570 = .ok (.ifCond .ne 15, 3) := by decide +kernel
theorem dL_law_1573 : decode cL_law 1573 = .ok (.aload_n 3, 1) := by decide +kernel
theorem dL_law_1574 : decode cL_law 1574 = .ok (.iconst 0, 1) := by decide +kernel
theorem dL_law_1575 : decode cL_law 1575 = .ok (.laload, 1) := by decide +kernel
theorem dL_law_1576 : decode cL_law 1576 = .ok (.iload 6, 2) := by decide +kernel
theorem dL_law_1578 : decode cL_law 1578 = .ok (.i2l, 1) := by decide +kernel
theorem dL_law_1579 : decode cL_law 1579 = .ok (.lcmp, 1) := by decide +kernel
theorem dL_law_1580 : decode cL_law 1580 = .ok (.ifCond .eq 5, 3) := by decide +kernel
theorem dL_law_1583 : decode cL_law 1583 = .ok (.iconst 0, 1) := by decide +kernel
theorem dL_law_1584 : decode cL_law 1584 = .ok (.ireturn, 1) := by decide +kernel
theorem dL_law_1585 : decode cL_law 1585 = .ok (.goto 131, 3) := by decide +kernel
theorem dL_law_1588 : decode cL_law 1588 = .ok (.aload_n 1, 1) := by decide +kernel
theorem dL_law_1589 : decode cL_law 1589 = .ok (.invokevirtual 198, 3) := by decide +kernel
theorem dL_law_1592 : decode cL_law 1592 = .ok (.aload_n 2, 1) := by decide +kernel
theorem dL_law_1593 : decode cL_law 1593 = .ok (.invokevirtual 201, 3) := by decide +kernel
theorem dL_law_1596 : decode cL_law 1596 = .ok (.if_icmp .eq 120, 3) := by decide +kernel
theorem dL_law_1599 : decode cL_law 1599 = .ok (.iconst 0, 1) := by decide +kernel
theorem dL_law_1600 : decode cL_law 1600 = .ok (.ireturn, 1) := by decide +kernel
theorem dL_law_1601 : decode cL_law 1601 = .ok (.aload_n 1, 1) := by decide +kernel
theorem dL_law_1602 : decode cL_law 1602 = .ok (.invokevirtual 202, 3) := by decide +kernel
theorem dL_law_1605 : decode cL_law 1605 = .ok (.aload_n 2, 1) := by decide +kernel
theorem dL_law_1606 : decode cL_law 1606 = .ok (.invokevirtual 205, 3) := by decide +kernel
theorem dL_law_1609 : decode cL_law 1609 = .ok (.if_icmp .eq 107, 3) := by decide +kernel
theorem dL_law_1612 : decode cL_law 1612 = .ok (.iconst 0, 1) := by decide +kernel
theorem dL_law_1613 : decode cL_law 1613 = .ok (.ireturn, 1) := by decide +kernel
theorem dL_law_1614 : decode cL_law 1614 = .ok (.aload_n 1, 1) := by decide +kernel
theorem dL_law_1615 : decode cL_law 1615 = .ok (.aload_n 3, 1) := by decide +kernel
theorem dL_law_1616 : decode cL_law 1616 = .ok (.invokestatic 206, 3) := by decide +kernel
theorem dL_law_1619 : decode cL_law 1619 = .ok (.istore 5, 2) := by decide +kernel
theorem dL_law_1621 : decode cL_law 1621 = .ok (.aload_n 2, 1) := by decide +kernel
theorem dL_law_1622 : decode cL_law 1622 = .ok (.invokevirtual 209, 3) := by decide +kernel
theorem dL_law_1625 : decode cL_law 1625 = .ok (.istore 6, 2) := by decide +kernel
theorem dL_law_1627 : decode cL_law 1627 = .ok (.aload_n 2, 1) := by decide +kernel
theorem dL_law_1628 : decode cL_law 1628 = .ok (.invokevirtual 98, 3) := by decide +kernel
theorem dL_law_1631 : decode cL_law 1631 = .ok (.iload 5, 2) := by decide +kernel
theorem dL_law_1633 : decode cL_law 1633 = .ok (.if_icmp .eq 5, 3) := by decide +kernel
theorem dL_law_1636 : decode cL_law 1636 = .ok (.iconst 0, 1) := by decide +kernel
theorem dL_law_1637 : decode cL_law 1637 = .ok (.ireturn, 1) := by decide +kernel
theorem dL_law_1638 : decode cL_law 1638 = .ok (.iload 5, 2) := by decide +kernel
theorem dL_law_1640 : decode cL_law 1640 = .ok (.ifCond .ne 15, 3) := by decide +kernel
theorem dL_law_1643 : decode cL_law 1643 = .ok (.aload_n 3, 1) := by decide +kernel
theorem dL_law_1644 : decode cL_law 1644 = .ok (.iconst 0, 1) := by decide +kernel
theorem dL_law_1645 : decode cL_law 1645 = .ok (.laload, 1) := by decide +kernel
theorem dL_law_1646 : decode cL_law 1646 = .ok (.iload 6, 2) := by decide +kernel
theorem dL_law_1648 : decode cL_law 1648 = .ok (.i2l, 1) := by decide +kernel
theorem dL_law_1649 : decode cL_law 1649 = .ok (.lcmp, 1) := by decide +kernel
theorem dL_law_1650 : decode cL_law 1650 = .ok (.ifCond .eq 5, 3) := by decide +kernel
theorem dL_law_1653 : decode cL_law 1653 = .ok (.iconst 0, 1) := by decide +kernel
theorem dL_law_1654 : decode cL_law 1654 = .ok (.ireturn, 1) := by decide +kernel
theorem dL_law_1655 : decode cL_law 1655 = .ok (.goto 61, 3) := by decide +kernel
theorem dL_law_1658 : decode cL_law 1658 = .ok (.aload_n 1, 1) := by decide +kernel
theorem dL_law_1659 : decode cL_law 1659 = .ok (.aload_n 3, 1) := by decide +kernel
theorem dL_law_1660 : decode cL_law 1660 = .ok (.invokestatic 210, 3) := by decide +kernel
theorem dL_law_1663 : decode cL_law 1663 = .ok (.istore 5, 2) := by decide +kernel
theorem dL_law_1665 : decode cL_law 1665 = .ok (.aload_n 2, 1) := by decide +kernel
theorem dL_law_1666 : decode cL_law 1666 = .ok (.invokevirtual 212, 3) := by decide +kernel
theorem dL_law_1669 : decode cL_law 1669 = .ok (.istore 6, 2) := by decide +kernel
theorem dL_law_1671 : decode cL_law 1671 = .ok (.aload_n 2, 1) := by decide +kernel
theorem dL_law_1672 : decode cL_law 1672 = .ok (.invokevirtual 98, 3) := by decide +kernel
theorem dL_law_1675 : decode cL_law 1675 = .ok (.iload 5, 2) := by decide +kernel
theorem dL_law_1677 : decode cL_law 1677 = .ok (.if_icmp .eq 5, 3) := by decide +kernel
theorem dL_law_1680 : decode cL_law 1680 = .ok (.iconst 0, 1) := by decide +kernel
theorem dL_law_1681 : decode cL_law 1681 = .ok (.ireturn, 1) := by decide +kernel
theorem dL_law_1682 : decode cL_law 1682 = .ok (.iload 5, 2) := by decide +kernel
theorem dL_law_1684 : decode cL_law 1684 = .ok (.ifCond .ne 15, 3) := by decide +kernel
theorem dL_law_1687 : decode cL_law 1687 = .ok (.aload_n 3, 1) := by decide +kernel
theorem dL_law_1688 : decode cL_law 1688 = .ok (.iconst 0, 1) := by decide +kernel
theorem dL_law_1689 : decode cL_law 1689 = .ok (.laload, 1) := by decide +kernel
theorem dL_law_1690 : decode cL_law 1690 = .ok (.iload 6, 2) := by decide +kernel
theorem dL_law_1692 : decode cL_law 1692 = .ok (.i2l, 1) := by decide +kernel
theorem dL_law_1693 : decode cL_law 1693 = .ok (.lcmp, 1) := by decide +kernel
theorem dL_law_1694 : decode cL_law 1694 = .ok (.ifCond .eq 5, 3) := by decide +kernel
theorem dL_law_1697 : decode cL_law 1697 = .ok (.iconst 0, 1) := by decide +kernel
theorem dL_law_1698 : decode cL_law 1698 = .ok (.ireturn, 1) := by decide +kernel
theorem dL_law_1699 : decode cL_law 1699 = .ok (.goto 17, 3) := by decide +kernel
theorem dL_law_1702 : decode cL_law 1702 = .ok (.aload_n 1, 1) := by decide +kernel
theorem dL_law_1703 : decode cL_law 1703 = .ok (.invokevirtual 213, 3) := by decide +kernel
theorem dL_law_1706 : decode cL_law 1706 = .ok (.aload_n 2, 1) := by decide +kernel
theorem dL_law_1707 : decode cL_law 1707 = .ok (.invokevirtual 217, 3) := by decide +kernel
theorem dL_law_1710 : decode cL_law 1710 = .ok (.lcmp, 1) := by decide +kernel
theorem dL_law_1711 : decode cL_law 1711 = .ok (.ifCond .eq 5, 3) := by decide +kernel
theorem dL_law_1714 : decode cL_law 1714 = .ok (.iconst 0, 1) := by decide +kernel
theorem dL_law_1715 : decode cL_law 1715 = .ok (.ireturn, 1) := by decide +kernel
theorem dL_law_1716 : decode cL_law 1716 = .ok (.iinc 4 3, 3) := by decide +kernel
theorem dL_law_1719 : decode cL_law 1719 = .ok (.goto (-1696), 3) := by decide +kernel
theorem dL_law_1722 : decode cL_law 1722 = .ok (.iconst 1, 1) := by decide +kernel
theorem dL_law_1723 : decode cL_law 1723 = .ok (.ireturn, 1) := by decide +kernel
