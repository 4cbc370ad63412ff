theorem dX0_init_0 : decode cX0_init 0 = .ok (.aload_n 0, 1) := by decide +kernel
theorem dX0_init_1 : decode cX0_init 1 = .ok (.invokespecial 3, 3) := by decide +kernel
theorem dX0_init_4 : decode cX0_init 4 = .ok (.aload_n 0, 1) := by decide +kernel
theorem dX0_init_5 : decode cX0_init 5 = .ok (.bipush 17, 2) := by decide +kernel
theorem dX0_init_7 : decode cX0_init 7 = .ok (.anewarray 11, 3) := by decide +kernel
theorem dX0_init_10 : decode cX0_init 10 = .ok (.putfield 13, 3) := by decide +kernel
theorem dX0_init_13 : decode cX0_init 13 = .ok (.aload_n 0, 1) := by decide +kernel
theorem dX0_init_14 : decode cX0_init 14 = .ok (.bipush 17, 2) := by decide +kernel
theorem dX0_init_16 : decode cX0_init 16 = .ok (.newarray .int, 2) := by decide +kernel
theorem dX0_init_18 : decode cX0_init 18 = .ok (.putfield 17, 3) := by decide +kernel
theorem dX0_init_21 : decode cX0_init 21 = .ok (.iconst 0, 1) := by decide +kernel
theorem dX0_init_22 : decode cX0_init 22 = .ok (.istore_n 1, 1) := by decide +kernel
theorem dX0_init_23 : decode cX0_init 23 = .ok (.iload_n 1, 1) := by decide +kernel
theorem dX0_init_24 : decode cX0_init 24 = .ok (.bipush 17, 2) := by decide +kernel
theorem dX0_init_26 : decode cX0_init 26 = .ok (.if_icmp .ge 22, 3) := by decide +kernel
theorem dX0_init_29 : decode cX0_init 29 = .ok (.aload_n 0, 1) := by decide +kernel
theorem dX0_init_30 : decode cX0_init 30 = .ok (.getfield 13, 3) := by decide +kernel
theorem dX0_init_33 : decode cX0_init 33 = .ok (.iload_n 1, 1) := by decide +kernel
theorem dX0_init_34 : decode cX0_init 34 = .ok (.new 11, 3) := by decide +kernel
theorem dX0_init_37 : decode cX0_init 37 = .ok (.dup, 1) := by decide +kernel
theorem dX0_init_38 : decode cX0_init 38 = .ok (.invokespecial 21, 3) := by decide +kernel
theorem dX0_init_41 : decode cX0_init 41 = .ok (.aastore, 1) := by decide +kernel
theorem dX0_init_42 : decode cX0_init 42 = .ok (.iinc 1 1, 3) := by decide +kernel
theorem dX0_init_45 : decode cX0_init 45 = .ok (.goto (-22), 3) := by decide +kernel
theorem dX0_init_48 : decode cX0_init 48 = .ok (.return_, 1) := by decide +kernel
theorem dX0_clear_0 : decode cX0_clear 0 = .ok (.aload_n 0, 1) := by decide +kernel
theorem dX0_clear_1 : decode cX0_clear 1 = .ok (.iconst 0, 1) := by decide +kernel
theorem dX0_clear_2 : decode cX0_clear 2 = .ok (.putfield 22, 3) := by decide +kernel
theorem dX0_clear_5 : decode cX0_clear 5 = .ok (.return_, 1) := by decide +kernel
theorem dX0_draft_0 : decode cX0_draft 0 = .ok (.aload_n 0, 1) := by decide +kernel
theorem dX0_draft_1 : decode cX0_draft 1 = .ok (.getfield 13, 3) := by decide +kernel
theorem dX0_draft_4 : decode cX0_draft 4 = .ok (.aload_n 0, 1) := by decide +kernel
theorem dX0_draft_5 : decode cX0_draft 5 = .ok (.aload_n 0, 1) := by decide +kernel
theorem dX0_draft_6 : decode cX0_draft 6 = .ok (.getfield 22, 3) := by decide +kernel
theorem dX0_draft_9 : decode cX0_draft 9 = .ok (.invokevirtual 26, 3) := by decide +kernel
theorem dX0_draft_12 : decode cX0_draft 12 = .ok (.aaload, 1) := by decide +kernel
theorem dX0_draft_13 : decode cX0_draft 13 = .ok (.astore_n 2, 1) := by decide +kernel
theorem dX0_draft_14 : decode cX0_draft 14 = .ok (.aload_n 1, 1) := by decide +kernel
theorem dX0_draft_15 : decode cX0_draft 15 = .ok (.ifnull 12, 3) := by decide +kernel
theorem dX0_draft_18 : decode cX0_draft 18 = .ok (.aload_n 2, 1) := by decide +kernel
theorem dX0_draft_19 : decode cX0_draft 19 = .ok (.ifnull 8, 3) := by decide +kernel
theorem dX0_draft_22 : decode cX0_draft 22 = .ok (.aload_n 2, 1) := by decide +kernel
theorem dX0_draft_23 : decode cX0_draft 23 = .ok (.aload_n 1, 1) := by decide +kernel
theorem dX0_draft_24 : decode cX0_draft 24 = .ok (.invokevirtual 30, 3) := by decide +kernel
theorem dX0_draft_27 : decode cX0_draft 27 = .ok (.return_, 1) := by decide +kernel
theorem dX0_keep_0 : decode cX0_keep 0 = .ok (.aload_n 0, 1) := by decide +kernel
theorem dX0_keep_1 : decode cX0_keep 1 = .ok (.getfield 17, 3) := by decide +kernel
theorem dX0_keep_4 : decode cX0_keep 4 = .ok (.aload_n 0, 1) := by decide +kernel
theorem dX0_keep_5 : decode cX0_keep 5 = .ok (.aload_n 0, 1) := by decide +kernel
theorem dX0_keep_6 : decode cX0_keep 6 = .ok (.getfield 22, 3) := by decide +kernel
theorem dX0_keep_9 : decode cX0_keep 9 = .ok (.invokevirtual 26, 3) := by decide +kernel
theorem dX0_keep_12 : decode cX0_keep 12 = .ok (.iload_n 1, 1) := by decide +kernel
theorem dX0_keep_13 : decode cX0_keep 13 = .ok (.iastore, 1) := by decide +kernel
theorem dX0_keep_14 : decode cX0_keep 14 = .ok (.aload_n 0, 1) := by decide +kernel
theorem dX0_keep_15 : decode cX0_keep 15 = .ok (.getfield 22, 3) := by decide +kernel
theorem dX0_keep_18 : decode cX0_keep 18 = .ok (.bipush 16, 2) := by decide +kernel
theorem dX0_keep_20 : decode cX0_keep 20 = .ok (.if_icmp .ge 16, 3) := by decide +kernel
theorem dX0_keep_23 : decode cX0_keep 23 = .ok (.aload_n 0, 1) := by decide +kernel
theorem dX0_keep_24 : decode cX0_keep 24 = .ok (.dup, 1) := by decide +kernel
theorem dX0_keep_25 : decode cX0_keep 25 = .ok (.getfield 22, 3) := by decide +kernel
theorem dX0_keep_28 : decode cX0_keep 28 = .ok (.iconst 1, 1) := by decide +kernel
theorem dX0_keep_29 : decode cX0_keep 29 = .ok (.iadd, 1) := by decide +kernel
theorem dX0_keep_30 : decode cX0_keep 30 = .ok (.putfield 22, 3) := by decide +kernel
theorem dX0_keep_33 : decode cX0_keep 33 = .ok (.goto 12, 3) := by decide +kernel
theorem dX0_keep_36 : decode cX0_keep 36 = .ok (.aload_n 0, 1) := by decide +kernel
theorem dX0_keep_37 : decode cX0_keep 37 = .ok (.aload_n 0, 1) := by decide +kernel
theorem dX0_keep_38 : decode cX0_keep 38 = .ok (.iconst 1, 1) := by decide +kernel
theorem dX0_keep_39 : decode cX0_keep 39 = .ok (.invokevirtual 26, 3) := by decide +kernel
theorem dX0_keep_42 : decode cX0_keep 42 = .ok (.putfield 34, 3) := by decide +kernel
theorem dX0_keep_45 : decode cX0_keep 45 = .ok (.return_, 1) := by decide +kernel
theorem dX0_takeBack_0 : decode cX0_takeBack 0 = .ok (.aload_n 0, 1) := by decide +kernel
theorem dX0_takeBack_1 : decode cX0_takeBack 1 = .ok (.getfield 22, 3) := by decide +kernel
theorem dX0_takeBack_4 : decode cX0_takeBack 4 = .ok (.ifCond .le 21, 3) := by decide +kernel
theorem dX0_takeBack_7 : decode cX0_takeBack 7 = .ok (.aload_n 0, 1) := by decide +kernel
theorem dX0_takeBack_8 : decode cX0_takeBack 8 = .ok (.getfield 13, 3) := by decide +kernel
theorem dX0_takeBack_11 : decode cX0_takeBack 11 = .ok (.aload_n 0, 1) := by decide +kernel
theorem dX0_takeBack_12 : decode cX0_takeBack 12 = .ok (.aload_n 0, 1) := by decide +kernel
theorem dX0_takeBack_13 : decode cX0_takeBack 13 = .ok (.getfield 22, 3) := by decide +kernel
theorem dX0_takeBack_16 : decode cX0_takeBack 16 = .ok (.iconst 1, 1) := by decide +kernel
theorem dX0_takeBack_17 : decode cX0_takeBack 17 = .ok (.isub, 1) := by decide +kernel
theorem dX0_takeBack_18 : decode cX0_takeBack 18 = .ok (.invokevirtual 26, 3) := by decide +kernel
theorem dX0_takeBack_21 : decode cX0_takeBack 21 = .ok (.aaload, 1) := by decide +kernel
theorem dX0_takeBack_22 : decode cX0_takeBack 22 = .ok (.goto 4, 3) := by decide +kernel
theorem dX0_takeBack_25 : decode cX0_takeBack 25 = .ok (.aconst_null, 1) := by decide +kernel
theorem dX0_takeBack_26 : decode cX0_takeBack 26 = .ok (.astore_n 2, 1) := by decide +kernel
theorem dX0_takeBack_27 : decode cX0_takeBack 27 = .ok (.aload_n 2, 1) := by decide +kernel
theorem dX0_takeBack_28 : decode cX0_takeBack 28 = .ok (.ifnonnull 6, 3) := by decide +kernel
theorem dX0_takeBack_31 : decode cX0_takeBack 31 = .ok (.bipush (-3), 2) := by decide +kernel
theorem dX0_takeBack_33 : decode cX0_takeBack 33 = .ok (.ireturn, 1) := by decide +kernel
theorem dX0_takeBack_34 : decode cX0_takeBack 34 = .ok (.aload_n 0, 1) := by decide +kernel
theorem dX0_takeBack_35 : decode cX0_takeBack 35 = .ok (.dup, 1) := by decide +kernel
theorem dX0_takeBack_36 : decode cX0_takeBack 36 = .ok (.getfield 22, 3) := by decide +kernel
theorem dX0_takeBack_39 : decode cX0_takeBack 39 = .ok (.iconst 1, 1) := by decide +kernel
theorem dX0_takeBack_40 : decode cX0_takeBack 40 = .ok (.isub, 1) := by decide +kernel
theorem dX0_takeBack_41 : decode cX0_takeBack 41 = .ok (.putfield 22, 3) := by decide +kernel
theorem dX0_takeBack_44 : decode cX0_takeBack 44 = .ok (.aload_n 1, 1) := by decide +kernel
theorem dX0_takeBack_45 : decode cX0_takeBack 45 = .ok (.aload_n 2, 1) := by decide +kernel
theorem dX0_takeBack_46 : decode cX0_takeBack 46 = .ok (.invokevirtual 30, 3) := by decide +kernel
theorem dX0_takeBack_49 : decode cX0_takeBack 49 = .ok (.aload_n 0, 1) := by decide +kernel
theorem dX0_takeBack_50 : decode cX0_takeBack 50 = .ok (.getfield 17, 3) := by decide +kernel
theorem dX0_takeBack_53 : decode cX0_takeBack 53 = .ok (.aload_n 0, 1) := by decide +kernel
theorem dX0_takeBack_54 : decode cX0_takeBack 54 = .ok (.aload_n 0, 1) := by decide +kernel
theorem dX0_takeBack_55 : decode cX0_takeBack 55 = .ok (.getfield 22, 3) := by decide +kernel
theorem dX0_takeBack_58 : decode cX0_takeBack 58 = .ok (.invokevirtual 26, 3) := by decide +kernel
theorem dX0_takeBack_61 : decode cX0_takeBack 61 = .ok (.iaload, 1) := by decide +kernel
theorem dX0_takeBack_62 : decode cX0_takeBack 62 = .ok (.ireturn, 1) := by decide +kernel
theorem dX0_appendAll_0 : decode cX0_appendAll 0 = .ok (.iconst 0, 1) := by decide +kernel
theorem dX0_appendAll_1 : decode cX0_appendAll 1 = .ok (.istore_n 2, 1) := by decide +kernel
theorem dX0_appendAll_2 : decode cX0_appendAll 2 = .ok (.iload_n 2, 1) := by decide +kernel
theorem dX0_appendAll_3 : decode cX0_appendAll 3 = .ok (.aload_n 1, 1) := by decide +kernel
theorem dX0_appendAll_4 : decode cX0_appendAll 4 = .ok (.getfield 22, 3) := by decide +kernel
theorem dX0_appendAll_7 : decode cX0_appendAll 7 = .ok (.if_icmp .ge 35, 3) := by decide +kernel
theorem dX0_appendAll_10 : decode cX0_appendAll 10 = .ok (.aload_n 1, 1) := by decide +kernel
theorem dX0_appendAll_11 : decode cX0_appendAll 11 = .ok (.iload_n 2, 1) := by decide +kernel
theorem dX0_appendAll_12 : decode cX0_appendAll 12 = .ok (.invokevirtual 26, 3) := by decide +kernel
theorem dX0_appendAll_15 : decode cX0_appendAll 15 = .ok (.istore_n 3, 1) := by decide +kernel
theorem dX0_appendAll_16 : decode cX0_appendAll 16 = .ok (.aload_n 0, 1) := by decide +kernel
theorem dX0_appendAll_17 : decode cX0_appendAll 17 = .ok (.aload_n 1, 1) := by decide +kernel
theorem dX0_appendAll_18 : decode cX0_appendAll 18 = .ok (.getfield 13, 3) := by decide +kernel
theorem dX0_appendAll_21 : decode cX0_appendAll 21 = .ok (.iload_n 3, 1) := by decide +kernel
theorem dX0_appendAll_22 : decode cX0_appendAll 22 = .ok (.aaload, 1) := by decide +kernel
theorem dX0_appendAll_23 : decode cX0_appendAll 23 = .ok (.invokevirtual 37, 3) := by decide +kernel
theorem dX0_appendAll_26 : decode cX0_appendAll 26 = .ok (.aload_n 0, 1) := by decide +kernel
theorem dX0_appendAll_27 : decode cX0_appendAll 27 = .ok (.aload_n 1, 1) := by decide +kernel
theorem dX0_appendAll_28 : decode cX0_appendAll 28 = .ok (.getfield 17, 3) := by decide +kernel
theorem dX0_appendAll_31 : decode cX0_appendAll 31 = .ok (.iload_n 3, 1) := by decide +kernel
theorem dX0_appendAll_32 : decode cX0_appendAll 32 = .ok (.iaload, 1) := by decide +kernel
theorem dX0_appendAll_33 : decode cX0_appendAll 33 = .ok (.invokevirtual 40, 3) := by decide +kernel
theorem dX0_appendAll_36 : decode cX0_appendAll 36 = .ok (.iinc 2 1, 3) := by decide +kernel
theorem dX0_appendAll_39 : decode cX0_appendAll 39 = .ok (.goto (-37), 3) := by decide +kernel
theorem dX0_appendAll_42 : decode cX0_appendAll 42 = .ok (.return_, 1) := by decide +kernel
theorem dX0_slot_0 : decode cX0_slot 0 = .ok (.aload_n 0, 1) := by decide +kernel
theorem dX0_slot_1 : decode cX0_slot 1 = .ok (.getfield 34, 3) := by decide +kernel
theorem dX0_slot_4 : decode cX0_slot 4 = .ok (.iload_n 1, 1) := by decide +kernel
theorem dX0_slot_5 : decode cX0_slot 5 = .ok (.iadd, 1) := by decide +kernel
theorem dX0_slot_6 : decode cX0_slot 6 = .ok (.bipush 17, 2) := by decide +kernel
theorem dX0_slot_8 : decode cX0_slot 8 = .ok (.irem, 1) := by decide +kernel
theorem dX0_slot_9 : decode cX0_slot 9 = .ok (.ireturn, 1) := by decide +kernel
theorem dX1_init_0 : decode cX1_init 0 = .ok (.aload_n 0, 1) := by decide +kernel
theorem dX1_init_1 : decode cX1_init 1 = .ok (.invokespecial 3, 3) := by decide +kernel
theorem dX1_init_4 : decode cX1_init 4 = .ok (.aload_n 0, 1) := by decide +kernel
theorem dX1_init_5 : decode cX1_init 5 = .ok (.bipush 90, 2) := by decide +kernel
theorem dX1_init_7 : decode cX1_init 7 = .ok (.newarray .int, 2) := by decide +kernel
theorem dX1_init_9 : decode cX1_init 9 = .ok (.putfield 9, 3) := by decide +kernel
theorem dX1_init_12 : decode cX1_init 12 = .ok (.aload_n 0, 1) := by decide +kernel
theorem dX1_init_13 : decode cX1_init 13 = .ok (.bipush 30, 2) := by decide +kernel
theorem dX1_init_15 : decode cX1_init 15 = .ok (.newarray .int, 2) := by decide +kernel
theorem dX1_init_17 : decode cX1_init 17 = .ok (.putfield 15, 3) := by decide +kernel
theorem dX1_init_20 : decode cX1_init 20 = .ok (.aload_n 0, 1) := by decide +kernel
theorem dX1_init_21 : decode cX1_init 21 = .ok (.bipush 30, 2) := by decide +kernel
theorem dX1_init_23 : decode cX1_init 23 = .ok (.newarray .int, 2) := by decide +kernel
theorem dX1_init_25 : decode cX1_init 25 = .ok (.putfield 18, 3) := by decide +kernel
theorem dX1_init_28 : decode cX1_init 28 = .ok (.aload_n 0, 1) := by decide +kernel
theorem dX1_init_29 : decode cX1_init 29 = .ok (.bipush 60, 2) := by decide +kernel
theorem dX1_init_31 : decode cX1_init 31 = .ok (.newarray .int, 2) := by decide +kernel
theorem dX1_init_33 : decode cX1_init 33 = .ok (.putfield 21, 3) := by decide +kernel
theorem dX1_init_36 : decode cX1_init 36 = .ok (.aload_n 0, 1) := by decide +kernel
theorem dX1_init_37 : decode cX1_init 37 = .ok (.bipush 60, 2) := by decide +kernel
theorem dX1_init_39 : decode cX1_init 39 = .ok (.newarray .int, 2) := by decide +kernel
theorem dX1_init_41 : decode cX1_init 41 = .ok (.putfield 24, 3) := by decide +kernel
theorem dX1_init_44 : decode cX1_init 44 = .ok (.aload_n 0, 1) := by decide +kernel
theorem dX1_init_45 : decode cX1_init 45 = .ok (.bipush 60, 2) := by decide +kernel
theorem dX1_init_47 : decode cX1_init 47 = .ok (.newarray .int, 2) := by decide +kernel
theorem dX1_init_49 : decode cX1_init 49 = .ok (.putfield 27, 3) := by decide +kernel
theorem dX1_init_52 : decode cX1_init 52 = .ok (.aload_n 0, 1) := by decide +kernel
theorem dX1_init_53 : decode cX1_init 53 = .ok (.bipush 63, 2) := by decide +kernel
theorem dX1_init_55 : decode cX1_init 55 = .ok (.newarray .int, 2) := by decide +kernel
theorem dX1_init_57 : decode cX1_init 57 = .ok (.putfield 30, 3) := by decide +kernel
theorem dX1_init_60 : decode cX1_init 60 = .ok (.aload_n 0, 1) := by decide +kernel
theorem dX1_init_61 : decode cX1_init 61 = .ok (.aload_n 1, 1) := by decide +kernel
theorem dX1_init_62 : decode cX1_init 62 = .ok (.putfield 33, 3) := by decide +kernel
theorem dX1_init_65 : decode cX1_init 65 = .ok (.return_, 1) := by decide +kernel
theorem dX1_leavesNone_0 : decode cX1_leavesNone 0 = .ok (.aload_n 1, 1) := by decide +kernel
theorem dX1_leavesNone_1 : decode cX1_leavesNone 1 = .ok (.getfield 37, 3) := by decide +kernel
theorem dX1_leavesNone_4 : decode cX1_leavesNone 4 = .ok (.iconst 3, 1) := by decide +kernel
theorem dX1_leavesNone_5 : decode cX1_leavesNone 5 = .ok (.iload_n 3, 1) := by decide +kernel
theorem dX1_leavesNone_6 : decode cX1_leavesNone 6 = .ok (.imul, 1) := by decide +kernel
theorem dX1_leavesNone_7 : decode cX1_leavesNone 7 = .ok (.if_icmp .gt 17, 3) := by decide +kernel
theorem dX1_leavesNone_10 : decode cX1_leavesNone 10 = .ok (.aload_n 0, 1) := by decide +kernel
theorem dX1_leavesNone_11 : decode cX1_leavesNone 11 = .ok (.aload_n 1, 1) := by decide +kernel
theorem dX1_leavesNone_12 : decode cX1_leavesNone 12 = .ok (.iload_n 2, 1) := by decide +kernel
theorem dX1_leavesNone_13 : decode cX1_leavesNone 13 = .ok (.iload_n 3, 1) := by decide +kernel
theorem dX1_leavesNone_14 : decode cX1_leavesNone 14 = .ok (.invokevirtual 43, 3) := by decide +kernel
theorem dX1_leavesNone_17 : decode cX1_leavesNone 17 = .ok (.ifCond .ne 7, 3) := by decide +kernel
theorem dX1_leavesNone_20 : decode cX1_leavesNone 20 = .ok (.iconst 1, 1) := by decide +kernel
theorem dX1_leavesNone_21 : decode cX1_leavesNone 21 = .ok (.goto 4, 3) := by decide +kernel
theorem dX1_leavesNone_24 : decode cX1_leavesNone 24 = .ok (.iconst 0, 1) := by decide +kernel
theorem dX1_leavesNone_25 : decode cX1_leavesNone 25 = .ok (.ireturn, 1) := by decide +kernel
theorem dX1_coreSize_0 : decode cX1_coreSize 0 = .ok (.aload_n 0, 1) := by decide +kernel
theorem dX1_coreSize_1 : decode cX1_coreSize 1 = .ok (.aload_n 1, 1) := by decide +kernel
theorem dX1_coreSize_2 : decode cX1_coreSize 2 = .ok (.iload_n 2, 1) := by decide +kernel
theorem dX1_coreSize_3 : decode cX1_coreSize 3 = .ok (.iload_n 3, 1) := by decide +kernel
theorem dX1_coreSize_4 : decode cX1_coreSize 4 = .ok (.invokevirtual 47, 3) := by decide +kernel
theorem dX1_coreSize_7 : decode cX1_coreSize 7 = .ok (.iconst 0, 1) := by decide +kernel
theorem dX1_coreSize_8 : decode cX1_coreSize 8 = .ok (.istore 4, 2) := by decide +kernel
theorem dX1_coreSize_10 : decode cX1_coreSize 10 = .ok (.iconst 0, 1) := by decide +kernel
theorem dX1_coreSize_11 : decode cX1_coreSize 11 = .ok (.istore 5, 2) := by decide +kernel
theorem dX1_coreSize_13 : decode cX1_coreSize 13 = .ok (.iload 5, 2) := by decide +kernel
theorem dX1_coreSize_15 : decode cX1_coreSize 15 = .ok (.iconst 3, 1) := by decide +kernel
theorem dX1_coreSize_16 : decode cX1_coreSize 16 = .ok (.iload_n 3, 1) := by decide +kernel
theorem dX1_coreSize_17 : decode cX1_coreSize 17 = .ok (.imul, 1) := by decide +kernel
theorem dX1_coreSize_18 : decode cX1_coreSize 18 = .ok (.if_icmp .ge 39, 3) := by decide +kernel
theorem dX1_coreSize_21 : decode cX1_coreSize 21 = .ok (.iload 5, 2) := by decide +kernel
theorem dX1_coreSize_23 : decode cX1_coreSize 23 = .ok (.bipush 60, 2) := by decide +kernel
theorem dX1_coreSize_25 : decode cX1_coreSize 25 = .ok (.if_icmp .ge 32, 3) := by decide +kernel
theorem dX1_coreSize_28 : decode cX1_coreSize 28 = .ok (.aload_n 0, 1) := by decide +kernel
theorem dX1_coreSize_29 : decode cX1_coreSize 29 = .ok (.getfield 21, 3) := by decide +kernel
theorem dX1_coreSize_32 : decode cX1_coreSize 32 = .ok (.iload 5, 2) := by decide +kernel
theorem dX1_coreSize_34 : decode cX1_coreSize 34 = .ok (.iaload, 1) := by decide +kernel
theorem dX1_coreSize_35 : decode cX1_coreSize 35 = .ok (.iconst 1, 1) := by decide +kernel
theorem dX1_coreSize_36 : decode cX1_coreSize 36 = .ok (.if_icmp .ne 15, 3) := by decide +kernel
theorem dX1_coreSize_39 : decode cX1_coreSize 39 = .ok (.aload_n 0, 1) := by decide +kernel
theorem dX1_coreSize_40 : decode cX1_coreSize 40 = .ok (.getfield 30, 3) := by decide +kernel
theorem dX1_coreSize_43 : decode cX1_coreSize 43 = .ok (.iload 4, 2) := by decide +kernel
theorem dX1_coreSize_45 : decode cX1_coreSize 45 = .ok (.iload 5, 2) := by decide +kernel
theorem dX1_coreSize_47 : decode cX1_coreSize 47 = .ok (.iastore, 1) := by decide +kernel
theorem dX1_coreSize_48 : decode cX1_coreSize 48 = .ok (.iinc 4 1, 3) := by decide +kernel
theorem dX1_coreSize_51 : decode cX1_coreSize 51 = .ok (.iinc 5 1, 3) := by decide +kernel
theorem dX1_coreSize_54 : decode cX1_coreSize 54 = .ok (.goto (-41), 3) := by decide +kernel
theorem dX1_coreSize_57 : decode cX1_coreSize 57 = .ok (.aload_n 1, 1) := by decide +kernel
theorem dX1_coreSize_58 : decode cX1_coreSize 58 = .ok (.getfield 37, 3) := by decide +kernel
theorem dX1_coreSize_61 : decode cX1_coreSize 61 = .ok (.istore 5, 2) := by decide +kernel
theorem dX1_coreSize_63 : decode cX1_coreSize 63 = .ok (.iconst 0, 1) := by decide +kernel
theorem dX1_coreSize_64 : decode cX1_coreSize 64 = .ok (.istore 6, 2) := by decide +kernel
theorem dX1_coreSize_66 : decode cX1_coreSize 66 = .ok (.iload 6, 2) := by decide +kernel
theorem dX1_coreSize_68 : decode cX1_coreSize 68 = .ok (.iload 4, 2) := by decide +kernel
theorem dX1_coreSize_70 : decode cX1_coreSize 70 = .ok (.if_icmp .ge 54, 3) := by decide +kernel
theorem dX1_coreSize_73 : decode cX1_coreSize 73 = .ok (.iload 6, 2) := by decide +kernel
theorem dX1_coreSize_75 : decode cX1_coreSize 75 = .ok (.bipush 60, 2) := by decide +kernel
theorem dX1_coreSize_77 : decode cX1_coreSize 77 = .ok (.if_icmp .ge 47, 3) := by decide +kernel
theorem dX1_coreSize_80 : decode cX1_coreSize 80 = .ok (.aload_n 0, 1) := by decide +kernel
theorem dX1_coreSize_81 : decode cX1_coreSize 81 = .ok (.getfield 30, 3) := by decide +kernel
theorem dX1_coreSize_84 : decode cX1_coreSize 84 = .ok (.iload 6, 2) := by decide +kernel
theorem dX1_coreSize_86 : decode cX1_coreSize 86 = .ok (.iaload, 1) := by decide +kernel
theorem dX1_coreSize_87 : decode cX1_coreSize 87 = .ok (.istore 7, 2) := by decide +kernel
theorem dX1_coreSize_89 : decode cX1_coreSize 89 = .ok (.aload_n 0, 1) := by decide +kernel
theorem dX1_coreSize_90 : decode cX1_coreSize 90 = .ok (.getfield 21, 3) := by decide +kernel
theorem dX1_coreSize_93 : decode cX1_coreSize 93 = .ok (.iload 7, 2) := by decide +kernel
theorem dX1_coreSize_95 : decode cX1_coreSize 95 = .ok (.iaload, 1) := by decide +kernel
theorem dX1_coreSize_96 : decode cX1_coreSize 96 = .ok (.iconst 1, 1) := by decide +kernel
theorem dX1_coreSize_97 : decode cX1_coreSize 97 = .ok (.if_icmp .ne 21, 3) := by decide +kernel
theorem dX1_coreSize_100 : decode cX1_coreSize 100 = .ok (.aload_n 0, 1) := by decide +kernel
theorem dX1_coreSize_101 : decode cX1_coreSize 101 = .ok (.aload_n 0, 1) := by decide +kernel
theorem dX1_coreSize_102 : decode cX1_coreSize 102 = .ok (.getfield 24, 3) := by decide +kernel
theorem dX1_coreSize_105 : decode cX1_coreSize 105 = .ok (.iload 7, 2) := by decide +kernel
theorem dX1_coreSize_107 : decode cX1_coreSize 107 = .ok (.iaload, 1) := by decide +kernel
theorem dX1_coreSize_108 : decode cX1_coreSize 108 = .ok (.iload 4, 2) := by decide +kernel
theorem dX1_coreSize_110 : decode cX1_coreSize 110 = .ok (.invokevirtual 51, 3) := by decide +kernel
theorem dX1_coreSize_113 : decode cX1_coreSize 113 = .ok (.istore 4, 2) := by decide +kernel
theorem dX1_coreSize_115 : decode cX1_coreSize 115 = .ok (.iinc 5 (-1), 3) := by decide +kernel
theorem dX1_coreSize_118 : decode cX1_coreSize 118 = .ok (.iinc 6 1, 3) := by decide +kernel
theorem dX1_coreSize_121 : decode cX1_coreSize 121 = .ok (.goto (-55), 3) := by decide +kernel
theorem dX1_coreSize_124 : decode cX1_coreSize 124 = .ok (.iload 5, 2) := by decide +kernel
theorem dX1_coreSize_126 : decode cX1_coreSize 126 = .ok (.ireturn, 1) := by decide +kernel
theorem dX1_peel_0 : decode cX1_peel 0 = .ok (.aload_n 0, 1) := by decide +kernel
theorem dX1_peel_1 : decode cX1_peel 1 = .ok (.aload_n 1, 1) := by decide +kernel
theorem dX1_peel_2 : decode cX1_peel 2 = .ok (.iload_n 2, 1) := by decide +kernel
theorem dX1_peel_3 : decode cX1_peel 3 = .ok (.aload_n 1, 1) := by decide +kernel
theorem dX1_peel_4 : decode cX1_peel 4 = .ok (.getfield 55, 3) := by decide +kernel
theorem dX1_peel_7 : decode cX1_peel 7 = .ok (.invokevirtual 47, 3) := by decide +kernel
theorem dX1_peel_10 : decode cX1_peel 10 = .ok (.iconst 0, 1) := by decide +kernel
theorem dX1_peel_11 : decode cX1_peel 11 = .ok (.istore 4, 2) := by decide +kernel
theorem dX1_peel_13 : decode cX1_peel 13 = .ok (.iload 4, 2) := by decide +kernel
theorem dX1_peel_15 : decode cX1_peel 15 = .ok (.iconst 3, 1) := by decide +kernel
theorem dX1_peel_16 : decode cX1_peel 16 = .ok (.aload_n 1, 1) := by decide +kernel
theorem dX1_peel_17 : decode cX1_peel 17 = .ok (.getfield 55, 3) := by decide +kernel
theorem dX1_peel_20 : decode cX1_peel 20 = .ok (.imul, 1) := by decide +kernel
theorem dX1_peel_21 : decode cX1_peel 21 = .ok (.if_icmp .ge 35, 3) := by decide +kernel
theorem dX1_peel_24 : decode cX1_peel 24 = .ok (.aload_n 0, 1) := by decide +kernel
theorem dX1_peel_25 : decode cX1_peel 25 = .ok (.getfield 27, 3) := by decide +kernel
theorem dX1_peel_28 : decode cX1_peel 28 = .ok (.iload 4, 2) := by decide +kernel
theorem dX1_peel_30 : decode cX1_peel 30 = .ok (.aload_n 0, 1) := by decide +kernel
theorem dX1_peel_31 : decode cX1_peel 31 = .ok (.getfield 33, 3) := by decide +kernel
theorem dX1_peel_34 : decode cX1_peel 34 = .ok (.aload_n 3, 1) := by decide +kernel
theorem dX1_peel_35 : decode cX1_peel 35 = .ok (.aload_n 1, 1) := by decide +kernel
theorem dX1_peel_36 : decode cX1_peel 36 = .ok (.iload_n 2, 1) := by decide +kernel
theorem dX1_peel_37 : decode cX1_peel 37 = .ok (.iload 4, 2) := by decide +kernel
theorem dX1_peel_39 : decode cX1_peel 39 = .ok (.aload_n 0, 1) := by decide +kernel
theorem dX1_peel_40 : decode cX1_peel 40 = .ok (.getfield 21, 3) := by decide +kernel
theorem dX1_peel_43 : decode cX1_peel 43 = .ok (.iload 4, 2) := by decide +kernel
theorem dX1_peel_45 : decode cX1_peel 45 = .ok (.iaload, 1) := by decide +kernel
theorem dX1_peel_46 : decode cX1_peel 46 = .ok (.invokevirtual 58, 3) := by decide +kernel
theorem dX1_peel_49 : decode cX1_peel 49 = .ok (.iastore, 1) := by decide +kernel
theorem dX1_peel_50 : decode cX1_peel 50 = .ok (.iinc 4 1, 3) := by decide +kernel
theorem dX1_peel_53 : decode cX1_peel 53 = .ok (.goto (-40), 3) := by decide +kernel
theorem dX1_peel_56 : decode cX1_peel 56 = .ok (.aload_n 0, 1) := by decide +kernel
theorem dX1_peel_57 : decode cX1_peel 57 = .ok (.iconst 0, 1) := by decide +kernel
theorem dX1_peel_58 : decode cX1_peel 58 = .ok (.putfield 64, 3) := by decide +kernel
theorem dX1_peel_61 : decode cX1_peel 61 = .ok (.iconst 0, 1) := by decide +kernel
theorem dX1_peel_62 : decode cX1_peel 62 = .ok (.istore 4, 2) := by decide +kernel
theorem dX1_peel_64 : decode cX1_peel 64 = .ok (.iload 4, 2) := by decide +kernel
theorem dX1_peel_66 : decode cX1_peel 66 = .ok (.aload_n 1, 1) := by decide +kernel
theorem dX1_peel_67 : decode cX1_peel 67 = .ok (.getfield 37, 3) := by decide +kernel
theorem dX1_peel_70 : decode cX1_peel 70 = .ok (.if_icmp .ge 78, 3) := by decide +kernel
theorem dX1_peel_73 : decode cX1_peel 73 = .ok (.aload_n 0, 1) := by decide +kernel
theorem dX1_peel_74 : decode cX1_peel 74 = .ok (.iconst 3, 1) := by decide +kernel
theorem dX1_peel_75 : decode cX1_peel 75 = .ok (.aload_n 1, 1) := by decide +kernel
theorem dX1_peel_76 : decode cX1_peel 76 = .ok (.getfield 55, 3) := by decide +kernel
theorem dX1_peel_79 : decode cX1_peel 79 = .ok (.imul, 1) := by decide +kernel
theorem dX1_peel_80 : decode cX1_peel 80 = .ok (.invokevirtual 67, 3) := by decide +kernel
theorem dX1_peel_83 : decode cX1_peel 83 = .ok (.istore 5, 2) := by decide +kernel
theorem dX1_peel_85 : decode cX1_peel 85 = .ok (.iload 5, 2) := by decide +kernel
theorem dX1_peel_87 : decode cX1_peel 87 = .ok (.iconst (-1), 1) := by decide +kernel
theorem dX1_peel_88 : decode cX1_peel 88 = .ok (.if_icmp .ne 4, 3) := by decide +kernel
theorem dX1_peel_91 : decode cX1_peel 91 = .ok (.return_, 1) := by decide +kernel
theorem dX1_peel_92 : decode cX1_peel 92 = .ok (.aload_n 0, 1) := by decide +kernel
theorem dX1_peel_93 : decode cX1_peel 93 = .ok (.getfield 15, 3) := by decide +kernel
theorem dX1_peel_96 : decode cX1_peel 96 = .ok (.aload_n 0, 1) := by decide +kernel
theorem dX1_peel_97 : decode cX1_peel 97 = .ok (.getfield 64, 3) := by decide +kernel
theorem dX1_peel_100 : decode cX1_peel 100 = .ok (.aload_n 0, 1) := by decide +kernel
theorem dX1_peel_101 : decode cX1_peel 101 = .ok (.getfield 24, 3) := by decide +kernel
theorem dX1_peel_104 : decode cX1_peel 104 = .ok (.iload 5, 2) := by decide +kernel
theorem dX1_peel_106 : decode cX1_peel 106 = .ok (.iaload, 1) := by decide +kernel
theorem dX1_peel_107 : decode cX1_peel 107 = .ok (.iastore, 1) := by decide +kernel
theorem dX1_peel_108 : decode cX1_peel 108 = .ok (.aload_n 0, 1) := by decide +kernel
theorem dX1_peel_109 : decode cX1_peel 109 = .ok (.getfield 18, 3) := by decide +kernel
theorem dX1_peel_112 : decode cX1_peel 112 = .ok (.aload_n 0, 1) := by decide +kernel
theorem dX1_peel_113 : decode cX1_peel 113 = .ok (.getfield 64, 3) := by decide +kernel
theorem dX1_peel_116 : decode cX1_peel 116 = .ok (.iload 5, 2) := by decide +kernel
theorem dX1_peel_118 : decode cX1_peel 118 = .ok (.iastore, 1) := by decide +kernel
theorem dX1_peel_119 : decode cX1_peel 119 = .ok (.aload_n 0, 1) := by decide +kernel
theorem dX1_peel_120 : decode cX1_peel 120 = .ok (.dup, 1) := by decide +kernel
theorem dX1_peel_121 : decode cX1_peel 121 = .ok (.getfield 64, 3) := by decide +kernel
theorem dX1_peel_124 : decode cX1_peel 124 = .ok (.iconst 1, 1) := by decide +kernel
theorem dX1_peel_125 : decode cX1_peel 125 = .ok (.iadd, 1) := by decide +kernel
theorem dX1_peel_126 : decode cX1_peel 126 = .ok (.putfield 64, 3) := by decide +kernel
theorem dX1_peel_129 : decode cX1_peel 129 = .ok (.aload_n 0, 1) := by decide +kernel
theorem dX1_peel_130 : decode cX1_peel 130 = .ok (.aload_n 0, 1) := by decide +kernel
theorem dX1_peel_131 : decode cX1_peel 131 = .ok (.getfield 24, 3) := by decide +kernel
theorem dX1_peel_134 : decode cX1_peel 134 = .ok (.iload 5, 2) := by decide +kernel
theorem dX1_peel_136 : decode cX1_peel 136 = .ok (.iaload, 1) := by decide +kernel
theorem dX1_peel_137 : decode cX1_peel 137 = .ok (.iconst 0, 1) := by decide +kernel
theorem dX1_peel_138 : decode cX1_peel 138 = .ok (.invokevirtual 51, 3) := by decide +kernel
theorem dX1_peel_141 : decode cX1_peel 141 = .ok (.pop, 1) := by decide +kernel
theorem dX1_peel_142 : decode cX1_peel 142 = .ok (.iinc 4 1, 3) := by decide +kernel
theorem dX1_peel_145 : decode cX1_peel 145 = .ok (.goto (-81), 3) := by decide +kernel
theorem dX1_peel_148 : decode cX1_peel 148 = .ok (.return_, 1) := by decide +kernel
theorem dX1_lay_0 : decode cX1_lay 0 = .ok (.aload_n 0, 1) := by decide +kernel
theorem dX1_lay_1 : decode cX1_lay 1 = .ok (.getfield 21, 3) := by decide +kernel
theorem dX1_lay_4 : decode cX1_lay 4 = .ok (.iconst 0, 1) := by decide +kernel
theorem dX1_lay_5 : decode cX1_lay 5 = .ok (.invokestatic 71, 3) := by decide +kernel
theorem dX1_lay_8 : decode cX1_lay 8 = .ok (.aload_n 0, 1) := by decide +kernel
theorem dX1_lay_9 : decode cX1_lay 9 = .ok (.getfield 24, 3) := by decide +kernel
theorem dX1_lay_12 : decode cX1_lay 12 = .ok (.iconst 0, 1) := by decide +kernel
theorem dX1_lay_13 : decode cX1_lay 13 = .ok (.invokestatic 71, 3) := by decide +kernel
theorem dX1_lay_16 : decode cX1_lay 16 = .ok (.iconst 0, 1) := by decide +kernel
theorem dX1_lay_17 : decode cX1_lay 17 = .ok (.istore 4, 2) := by decide +kernel
theorem dX1_lay_19 : decode cX1_lay 19 = .ok (.iload 4, 2) := by decide +kernel
theorem dX1_lay_21 : decode cX1_lay 21 = .ok (.aload_n 1, 1) := by decide +kernel
theorem dX1_lay_22 : decode cX1_lay 22 = .ok (.getfield 37, 3) := by decide +kernel
theorem dX1_lay_25 : decode cX1_lay 25 = .ok (.if_icmp .ge 77, 3) := by decide +kernel
theorem dX1_lay_28 : decode cX1_lay 28 = .ok (.iconst 0, 1) := by decide +kernel
theorem dX1_lay_29 : decode cX1_lay 29 = .ok (.istore 5, 2) := by decide +kernel
theorem dX1_lay_31 : decode cX1_lay 31 = .ok (.iload 5, 2) := by decide +kernel
theorem dX1_lay_33 : decode cX1_lay 33 = .ok (.iconst 3, 1) := by decide +kernel
theorem dX1_lay_34 : decode cX1_lay 34 = .ok (.if_icmp .ge 62, 3) := by decide +kernel
theorem dX1_lay_37 : decode cX1_lay 37 = .ok (.aload_n 1, 1) := by decide +kernel
theorem dX1_lay_38 : decode cX1_lay 38 = .ok (.getfield 77, 3) := by decide +kernel
theorem dX1_lay_41 : decode cX1_lay 41 = .ok (.iload 4, 2) := by decide +kernel
theorem dX1_lay_43 : decode cX1_lay 43 = .ok (.iaload, 1) := by decide +kernel
theorem dX1_lay_44 : decode cX1_lay 44 = .ok (.iload 5, 2) := by decide +kernel
theorem dX1_lay_46 : decode cX1_lay 46 = .ok (.iload_n 2, 1) := by decide +kernel
theorem dX1_lay_47 : decode cX1_lay 47 = .ok (.iload_n 3, 1) := by decide +kernel
theorem dX1_lay_48 : decode cX1_lay 48 = .ok (.invokestatic 80, 3) := by decide +kernel
theorem dX1_lay_51 : decode cX1_lay 51 = .ok (.istore 6, 2) := by decide +kernel
theorem dX1_lay_53 : decode cX1_lay 53 = .ok (.aload_n 0, 1) := by decide +kernel
theorem dX1_lay_54 : decode cX1_lay 54 = .ok (.getfield 9, 3) := by decide +kernel
theorem dX1_lay_57 : decode cX1_lay 57 = .ok (.iconst 3, 1) := by decide +kernel
theorem dX1_lay_58 : decode cX1_lay 58 = .ok (.iload 4, 2) := by decide +kernel
theorem dX1_lay_60 : decode cX1_lay 60 = .ok (.imul, 1) := by decide +kernel
theorem dX1_lay_61 : decode cX1_lay 61 = .ok (.iload 5, 2) := by decide +kernel
theorem dX1_lay_63 : decode cX1_lay 63 = .ok (.iadd, 1) := by decide +kernel
theorem dX1_lay_64 : decode cX1_lay 64 = .ok (.iload 6, 2) := by decide +kernel
theorem dX1_lay_66 : decode cX1_lay 66 = .ok (.iastore, 1) := by decide +kernel
theorem dX1_lay_67 : decode cX1_lay 67 = .ok (.aload_n 0, 1) := by decide +kernel
theorem dX1_lay_68 : decode cX1_lay 68 = .ok (.getfield 21, 3) := by decide +kernel
theorem dX1_lay_71 : decode cX1_lay 71 = .ok (.iload 6, 2) := by decide +kernel
theorem dX1_lay_73 : decode cX1_lay 73 = .ok (.dup2, 1) := by decide +kernel
theorem dX1_lay_74 : decode cX1_lay 74 = .ok (.iaload, 1) := by decide +kernel
theorem dX1_lay_75 : decode cX1_lay 75 = .ok (.iconst 1, 1) := by decide +kernel
theorem dX1_lay_76 : decode cX1_lay 76 = .ok (.iadd, 1) := by decide +kernel
theorem dX1_lay_77 : decode cX1_lay 77 = .ok (.iastore, 1) := by decide +kernel
theorem dX1_lay_78 : decode cX1_lay 78 = .ok (.aload_n 0, 1) := by decide +kernel
theorem dX1_lay_79 : decode cX1_lay 79 = .ok (.getfield 24, 3) := by decide +kernel
theorem dX1_lay_82 : decode cX1_lay 82 = .ok (.iload 6, 2) := by decide +kernel
theorem dX1_lay_84 : decode cX1_lay 84 = .ok (.dup2, 1) := by decide +kernel
theorem dX1_lay_85 : decode cX1_lay 85 = .ok (.iaload, 1) := by decide +kernel
theorem dX1_lay_86 : decode cX1_lay 86 = .ok (.iload 4, 2) := by decide +kernel
theorem dX1_lay_88 : decode cX1_lay 88 = .ok (.ixor, 1) := by decide +kernel
theorem dX1_lay_89 : decode cX1_lay 89 = .ok (.iastore, 1) := by decide +kernel
theorem dX1_lay_90 : decode cX1_lay 90 = .ok (.iinc 5 1, 3) := by decide +kernel
theorem dX1_lay_93 : decode cX1_lay 93 = .ok (.goto (-62), 3) := by decide +kernel
theorem dX1_lay_96 : decode cX1_lay 96 = .ok (.iinc 4 1, 3) := by decide +kernel
theorem dX1_lay_99 : decode cX1_lay 99 = .ok (.goto (-80), 3) := by decide +kernel
theorem dX1_lay_102 : decode cX1_lay 102 = .ok (.return_, 1) := by decide +kernel
theorem dX1_leastFree_0 : decode cX1_leastFree 0 = .ok (.iconst (-1), 1) := by decide +kernel
theorem dX1_leastFree_1 : decode cX1_leastFree 1 = .ok (.istore_n 2, 1) := by decide +kernel
theorem dX1_leastFree_2 : decode cX1_leastFree 2 = .ok (.iconst 0, 1) := by decide +kernel
theorem dX1_leastFree_3 : decode cX1_leastFree 3 = .ok (.istore_n 3, 1) := by decide +kernel
theorem dX1_leastFree_4 : decode cX1_leastFree 4 = .ok (.iload_n 3, 1) := by decide +kernel
theorem dX1_leastFree_5 : decode cX1_leastFree 5 = .ok (.iload_n 1, 1) := by decide +kernel
theorem dX1_leastFree_6 : decode cX1_leastFree 6 = .ok (.if_icmp .ge 41, 3) := by decide +kernel
theorem dX1_leastFree_9 : decode cX1_leastFree 9 = .ok (.aload_n 0, 1) := by decide +kernel
theorem dX1_leastFree_10 : decode cX1_leastFree 10 = .ok (.getfield 21, 3) := by decide +kernel
theorem dX1_leastFree_13 : decode cX1_leastFree 13 = .ok (.iload_n 3, 1) := by decide +kernel
theorem dX1_leastFree_14 : decode cX1_leastFree 14 = .ok (.iaload, 1) := by decide +kernel
theorem dX1_leastFree_15 : decode cX1_leastFree 15 = .ok (.iconst 1, 1) := by decide +kernel
theorem dX1_leastFree_16 : decode cX1_leastFree 16 = .ok (.if_icmp .ne 25, 3) := by decide +kernel
theorem dX1_leastFree_19 : decode cX1_leastFree 19 = .ok (.iload_n 2, 1) := by decide +kernel
theorem dX1_leastFree_20 : decode cX1_leastFree 20 = .ok (.iconst (-1), 1) := by decide +kernel
theorem dX1_leastFree_21 : decode cX1_leastFree 21 = .ok (.if_icmp .eq 18, 3) := by decide +kernel
theorem dX1_leastFree_24 : decode cX1_leastFree 24 = .ok (.aload_n 0, 1) := by decide +kernel
theorem dX1_leastFree_25 : decode cX1_leastFree 25 = .ok (.getfield 27, 3) := by decide +kernel
theorem dX1_leastFree_28 : decode cX1_leastFree 28 = .ok (.iload_n 3, 1) := by decide +kernel
theorem dX1_leastFree_29 : decode cX1_leastFree 29 = .ok (.iaload, 1) := by decide +kernel
theorem dX1_leastFree_30 : decode cX1_leastFree 30 = .ok (.aload_n 0, 1) := by decide +kernel
theorem dX1_leastFree_31 : decode cX1_leastFree 31 = .ok (.getfield 27, 3) := by decide +kernel
theorem dX1_leastFree_34 : decode cX1_leastFree 34 = .ok (.iload_n 2, 1) := by decide +kernel
theorem dX1_leastFree_35 : decode cX1_leastFree 35 = .ok (.iaload, 1) := by decide +kernel
theorem dX1_leastFree_36 : decode cX1_leastFree 36 = .ok (.if_icmp .ge 5, 3) := by decide +kernel
theorem dX1_leastFree_39 : decode cX1_leastFree 39 = .ok (.iload_n 3, 1) := by decide +kernel
theorem dX1_leastFree_40 : decode cX1_leastFree 40 = .ok (.istore_n 2, 1) := by decide +kernel
theorem dX1_leastFree_41 : decode cX1_leastFree 41 = .ok (.iinc 3 1, 3) := by decide +kernel
theorem dX1_leastFree_44 : decode cX1_leastFree 44 = .ok (.goto (-40), 3) := by decide +kernel
theorem dX1_leastFree_47 : decode cX1_leastFree 47 = .ok (.iload_n 2, 1) := by decide +kernel
theorem dX1_leastFree_48 : decode cX1_leastFree 48 = .ok (.ireturn, 1) := by decide +kernel
theorem dX1_letGo_0 : decode cX1_letGo 0 = .ok (.iload_n 2, 1) := by decide +kernel
theorem dX1_letGo_1 : decode cX1_letGo 1 = .ok (.istore_n 3, 1) := by decide +kernel
theorem dX1_letGo_2 : decode cX1_letGo 2 = .ok (.iconst 0, 1) := by decide +kernel
theorem dX1_letGo_3 : decode cX1_letGo 3 = .ok (.istore 4, 2) := by decide +kernel
theorem dX1_letGo_5 : decode cX1_letGo 5 = .ok (.iload 4, 2) := by decide +kernel
theorem dX1_letGo_7 : decode cX1_letGo 7 = .ok (.iconst 3, 1) := by decide +kernel
theorem dX1_letGo_8 : decode cX1_letGo 8 = .ok (.if_icmp .ge 75, 3) := by decide +kernel
theorem dX1_letGo_11 : decode cX1_letGo 11 = .ok (.aload_n 0, 1) := by decide +kernel
theorem dX1_letGo_12 : decode cX1_letGo 12 = .ok (.getfield 9, 3) := by decide +kernel
theorem dX1_letGo_15 : decode cX1_letGo 15 = .ok (.iconst 3, 1) := by decide +kernel
theorem dX1_letGo_16 : decode cX1_letGo 16 = .ok (.iload_n 1, 1) := by decide +kernel
theorem dX1_letGo_17 : decode cX1_letGo 17 = .ok (.imul, 1) := by decide +kernel
theorem dX1_letGo_18 : decode cX1_letGo 18 = .ok (.iload 4, 2) := by decide +kernel
theorem dX1_letGo_20 : decode cX1_letGo 20 = .ok (.iadd, 1) := by decide +kernel
theorem dX1_letGo_21 : decode cX1_letGo 21 = .ok (.iaload, 1) := by decide +kernel
theorem dX1_letGo_22 : decode cX1_letGo 22 = .ok (.istore 5, 2) := by decide +kernel
theorem dX1_letGo_24 : decode cX1_letGo 24 = .ok (.aload_n 0, 1) := by decide +kernel
theorem dX1_letGo_25 : decode cX1_letGo 25 = .ok (.getfield 21, 3) := by decide +kernel
theorem dX1_letGo_28 : decode cX1_letGo 28 = .ok (.iload 5, 2) := by decide +kernel
theorem dX1_letGo_30 : decode cX1_letGo 30 = .ok (.dup2, 1) := by decide +kernel
theorem dX1_letGo_31 : decode cX1_letGo 31 = .ok (.iaload, 1) := by decide +kernel
theorem dX1_letGo_32 : decode cX1_letGo 32 = .ok (.iconst 1, 1) := by decide +kernel
theorem dX1_letGo_33 : decode cX1_letGo 33 = .ok (.isub, 1) := by decide +kernel
theorem dX1_letGo_34 : decode cX1_letGo 34 = .ok (.iastore, 1) := by decide +kernel
theorem dX1_letGo_35 : decode cX1_letGo 35 = .ok (.aload_n 0, 1) := by decide +kernel
theorem dX1_letGo_36 : decode cX1_letGo 36 = .ok (.getfield 24, 3) := by decide +kernel
theorem dX1_letGo_39 : decode cX1_letGo 39 = .ok (.iload 5, 2) := by decide +kernel
theorem dX1_letGo_41 : decode cX1_letGo 41 = .ok (.dup2, 1) := by decide +kernel
theorem dX1_letGo_42 : decode cX1_letGo 42 = .ok (.iaload, 1) := by decide +kernel
theorem dX1_letGo_43 : decode cX1_letGo 43 = .ok (.iload_n 1, 1) := by decide +kernel
theorem dX1_letGo_44 : decode cX1_letGo 44 = .ok (.ixor, 1) := by decide +kernel
theorem dX1_letGo_45 : decode cX1_letGo 45 = .ok (.iastore, 1) := by decide +kernel
theorem dX1_letGo_46 : decode cX1_letGo 46 = .ok (.aload_n 0, 1) := by decide +kernel
theorem dX1_letGo_47 : decode cX1_letGo 47 = .ok (.getfield 21, 3) := by decide +kernel
theorem dX1_letGo_50 : decode cX1_letGo 50 = .ok (.iload 5, 2) := by decide +kernel
theorem dX1_letGo_52 : decode cX1_letGo 52 = .ok (.iaload, 1) := by decide +kernel
theorem dX1_letGo_53 : decode cX1_letGo 53 = .ok (.iconst 1, 1) := by decide +kernel
theorem dX1_letGo_54 : decode cX1_letGo 54 = .ok (.if_icmp .ne 23, 3) := by decide +kernel
theorem dX1_letGo_57 : decode cX1_letGo 57 = .ok (.iload_n 3, 1) := by decide +kernel
theorem dX1_letGo_58 : decode cX1_letGo 58 = .ok (.aload_n 0, 1) := by decide +kernel
theorem dX1_letGo_59 : decode cX1_letGo 59 = .ok (.getfield 30, 3) := by decide +kernel
theorem dX1_letGo_62 : decode cX1_letGo 62 = .ok (.arraylength, 1) := by decide +kernel
theorem dX1_letGo_63 : decode cX1_letGo 63 = .ok (.if_icmp .ge 14, 3) := by decide +kernel
theorem dX1_letGo_66 : decode cX1_letGo 66 = .ok (.aload_n 0, 1) := by decide +kernel
theorem dX1_letGo_67 : decode cX1_letGo 67 = .ok (.getfield 30, 3) := by decide +kernel
theorem dX1_letGo_70 : decode cX1_letGo 70 = .ok (.iload_n 3, 1) := by decide +kernel
theorem dX1_letGo_71 : decode cX1_letGo 71 = .ok (.iload 5, 2) := by decide +kernel
theorem dX1_letGo_73 : decode cX1_letGo 73 = .ok (.iastore, 1) := by decide +kernel
theorem dX1_letGo_74 : decode cX1_letGo 74 = .ok (.iinc 3 1, 3) := by decide +kernel
theorem dX1_letGo_77 : decode cX1_letGo 77 = .ok (.iinc 4 1, 3) := by decide +kernel
theorem dX1_letGo_80 : decode cX1_letGo 80 = .ok (.goto (-75), 3) := by decide +kernel
theorem dX1_letGo_83 : decode cX1_letGo 83 = .ok (.iload_n 3, 1) := by decide +kernel
theorem dX1_letGo_84 : decode cX1_letGo 84 = .ok (.ireturn, 1) := by decide +kernel
theorem dX2_init_0 : decode cX2_init 0 = .ok (.aload_n 0, 1) := by decide +kernel
theorem dX2_init_1 : decode cX2_init 1 = .ok (.invokespecial 3, 3) := by decide +kernel
theorem dX2_init_4 : decode cX2_init 4 = .ok (.aload_n 0, 1) := by decide +kernel
theorem dX2_init_5 : decode cX2_init 5 = .ok (.sipush 400, 3) := by decide +kernel
theorem dX2_init_8 : decode cX2_init 8 = .ok (.newarray .int, 2) := by decide +kernel
theorem dX2_init_10 : decode cX2_init 10 = .ok (.putfield 9, 3) := by decide +kernel
theorem dX2_init_13 : decode cX2_init 13 = .ok (.aload_n 0, 1) := by decide +kernel
theorem dX2_init_14 : decode cX2_init 14 = .ok (.new 15, 3) := by decide +kernel
theorem dX2_init_17 : decode cX2_init 17 = .ok (.dup, 1) := by decide +kernel
theorem dX2_init_18 : decode cX2_init 18 = .ok (.bipush 12, 2) := by decide +kernel
theorem dX2_init_20 : decode cX2_init 20 = .ok (.sipush 460, 3) := by decide +kernel
theorem dX2_init_23 : decode cX2_init 23 = .ok (.invokespecial 17, 3) := by decide +kernel
theorem dX2_init_26 : decode cX2_init 26 = .ok (.putfield 20, 3) := by decide +kernel
theorem dX2_init_29 : decode cX2_init 29 = .ok (.aload_n 0, 1) := by decide +kernel
theorem dX2_init_30 : decode cX2_init 30 = .ok (.bipush 50, 2) := by decide +kernel
theorem dX2_init_32 : decode cX2_init 32 = .ok (.newarray .int, 2) := by decide +kernel
theorem dX2_init_34 : decode cX2_init 34 = .ok (.putfield 24, 3) := by decide +kernel
theorem dX2_init_37 : decode cX2_init 37 = .ok (.aload_n 0, 1) := by decide +kernel
theorem dX2_init_38 : decode cX2_init 38 = .ok (.bipush 50, 2) := by decide +kernel
theorem dX2_init_40 : decode cX2_init 40 = .ok (.newarray .boolean, 2) := by decide +kernel
theorem dX2_init_42 : decode cX2_init 42 = .ok (.putfield 27, 3) := by decide +kernel
theorem dX2_init_45 : decode cX2_init 45 = .ok (.aload_n 0, 1) := by decide +kernel
theorem dX2_init_46 : decode cX2_init 46 = .ok (.iconst (-1), 1) := by decide +kernel
theorem dX2_init_47 : decode cX2_init 47 = .ok (.putfield 31, 3) := by decide +kernel
theorem dX2_init_50 : decode cX2_init 50 = .ok (.aload_n 0, 1) := by decide +kernel
theorem dX2_init_51 : decode cX2_init 51 = .ok (.sipush 401, 3) := by decide +kernel
theorem dX2_init_54 : decode cX2_init 54 = .ok (.newarray .int, 2) := by decide +kernel
theorem dX2_init_56 : decode cX2_init 56 = .ok (.putfield 35, 3) := by decide +kernel
theorem dX2_init_59 : decode cX2_init 59 = .ok (.aload_n 0, 1) := by decide +kernel
theorem dX2_init_60 : decode cX2_init 60 = .ok (.sipush 401, 3) := by decide +kernel
theorem dX2_init_63 : decode cX2_init 63 = .ok (.newarray .int, 2) := by decide +kernel
theorem dX2_init_65 : decode cX2_init 65 = .ok (.putfield 38, 3) := by decide +kernel
theorem dX2_init_68 : decode cX2_init 68 = .ok (.aload_n 0, 1) := by decide +kernel
theorem dX2_init_69 : decode cX2_init 69 = .ok (.sipush 401, 3) := by decide +kernel
theorem dX2_init_72 : decode cX2_init 72 = .ok (.newarray .int, 2) := by decide +kernel
theorem dX2_init_74 : decode cX2_init 74 = .ok (.putfield 41, 3) := by decide +kernel
theorem dX2_init_77 : decode cX2_init 77 = .ok (.return_, 1) := by decide +kernel
theorem dX2_append_0 : decode cX2_append 0 = .ok (.bipush 24, 2) := by decide +kernel
theorem dX2_append_2 : decode cX2_append 2 = .ok (.istore_n 2, 1) := by decide +kernel
theorem dX2_append_3 : decode cX2_append 3 = .ok (.iload_n 2, 1) := by decide +kernel
theorem dX2_append_4 : decode cX2_append 4 = .ok (.ifCond .lt 45, 3) := by decide +kernel
theorem dX2_append_7 : decode cX2_append 7 = .ok (.aload_n 0, 1) := by decide +kernel
theorem dX2_append_8 : decode cX2_append 8 = .ok (.getfield 44, 3) := by decide +kernel
theorem dX2_append_11 : decode cX2_append 11 = .ok (.sipush 400, 3) := by decide +kernel
theorem dX2_append_14 : decode cX2_append 14 = .ok (.if_icmp .ge 35, 3) := by decide +kernel
theorem dX2_append_17 : decode cX2_append 17 = .ok (.aload_n 0, 1) := by decide +kernel
theorem dX2_append_18 : decode cX2_append 18 = .ok (.getfield 9, 3) := by decide +kernel
theorem dX2_append_21 : decode cX2_append 21 = .ok (.aload_n 0, 1) := by decide +kernel
theorem dX2_append_22 : decode cX2_append 22 = .ok (.getfield 44, 3) := by decide +kernel
theorem dX2_append_25 : decode cX2_append 25 = .ok (.iload_n 1, 1) := by decide +kernel
theorem dX2_append_26 : decode cX2_append 26 = .ok (.iload_n 2, 1) := by decide +kernel
theorem dX2_append_27 : decode cX2_append 27 = .ok (.iushr, 1) := by decide +kernel
theorem dX2_append_28 : decode cX2_append 28 = .ok (.sipush 255, 3) := by decide +kernel
theorem dX2_append_31 : decode cX2_append 31 = .ok (.iand, 1) := by decide +kernel
theorem dX2_append_32 : decode cX2_append 32 = .ok (.iastore, 1) := by decide +kernel
theorem dX2_append_33 : decode cX2_append 33 = .ok (.aload_n 0, 1) := by decide +kernel
theorem dX2_append_34 : decode cX2_append 34 = .ok (.dup, 1) := by decide +kernel
theorem dX2_append_35 : decode cX2_append 35 = .ok (.getfield 44, 3) := by decide +kernel
theorem dX2_append_38 : decode cX2_append 38 = .ok (.iconst 1, 1) := by decide +kernel
theorem dX2_append_39 : decode cX2_append 39 = .ok (.iadd, 1) := by decide +kernel
theorem dX2_append_40 : decode cX2_append 40 = .ok (.putfield 44, 3) := by decide +kernel
theorem dX2_append_43 : decode cX2_append 43 = .ok (.iinc 2 (-8), 3) := by decide +kernel
theorem dX2_append_46 : decode cX2_append 46 = .ok (.goto (-43), 3) := by decide +kernel
theorem dX2_append_49 : decode cX2_append 49 = .ok (.return_, 1) := by decide +kernel
theorem dX2_read_0 : decode cX2_read 0 = .ok (.aload_n 0, 1) := by decide +kernel
theorem dX2_read_1 : decode cX2_read 1 = .ok (.invokevirtual 47, 3) := by decide +kernel
theorem dX2_read_4 : decode cX2_read 4 = .ok (.aload_n 0, 1) := by decide +kernel
theorem dX2_read_5 : decode cX2_read 5 = .ok (.iconst 0, 1) := by decide +kernel
theorem dX2_read_6 : decode cX2_read 6 = .ok (.putfield 44, 3) := by decide +kernel
theorem dX2_read_9 : decode cX2_read 9 = .ok (.aload_n 0, 1) := by decide +kernel
theorem dX2_read_10 : decode cX2_read 10 = .ok (.iconst (-1), 1) := by decide +kernel
theorem dX2_read_11 : decode cX2_read 11 = .ok (.putfield 31, 3) := by decide +kernel
theorem dX2_read_14 : decode cX2_read 14 = .ok (.aload_n 0, 1) := by decide +kernel
theorem dX2_read_15 : decode cX2_read 15 = .ok (.iconst 0, 1) := by decide +kernel
theorem dX2_read_16 : decode cX2_read 16 = .ok (.putfield 50, 3) := by decide +kernel
theorem dX2_read_19 : decode cX2_read 19 = .ok (.aload_n 0, 1) := by decide +kernel
theorem dX2_read_20 : decode cX2_read 20 = .ok (.iconst 0, 1) := by decide +kernel
theorem dX2_read_21 : decode cX2_read 21 = .ok (.putfield 53, 3) := by decide +kernel
theorem dX2_read_24 : decode cX2_read 24 = .ok (.aload_n 0, 1) := by decide +kernel
theorem dX2_read_25 : decode cX2_read 25 = .ok (.iconst 0, 1) := by decide +kernel
theorem dX2_read_26 : decode cX2_read 26 = .ok (.putfield 56, 3) := by decide +kernel
theorem dX2_read_29 : decode cX2_read 29 = .ok (.aload_n 0, 1) := by decide +kernel
theorem dX2_read_30 : decode cX2_read 30 = .ok (.iload_n 1, 1) := by decide +kernel
theorem dX2_read_31 : decode cX2_read 31 = .ok (.putfield 59, 3) := by decide +kernel
theorem dX2_read_34 : decode cX2_read 34 = .ok (.aload_n 0, 1) := by decide +kernel
theorem dX2_read_35 : decode cX2_read 35 = .ok (.getfield 20, 3) := by decide +kernel
theorem dX2_read_38 : decode cX2_read 38 = .ok (.invokevirtual 63, 3) := by decide +kernel
theorem dX2_read_41 : decode cX2_read 41 = .ok (.iconst 0, 1) := by decide +kernel
theorem dX2_read_42 : decode cX2_read 42 = .ok (.istore_n 2, 1) := by decide +kernel
theorem dX2_read_43 : decode cX2_read 43 = .ok (.iload_n 2, 1) := by decide +kernel
theorem dX2_read_44 : decode cX2_read 44 = .ok (.bipush 12, 2) := by decide +kernel
theorem dX2_read_46 : decode cX2_read 46 = .ok (.if_icmp .ge 46, 3) := by decide +kernel
theorem dX2_read_49 : decode cX2_read 49 = .ok (.aload_n 0, 1) := by decide +kernel
theorem dX2_read_50 : decode cX2_read 50 = .ok (.iload_n 2, 1) := by decide +kernel
theorem dX2_read_51 : decode cX2_read 51 = .ok (.invokevirtual 66, 3) := by decide +kernel
theorem dX2_read_54 : decode cX2_read 54 = .ok (.ifCond .ne 5, 3) := by decide +kernel
theorem dX2_read_57 : decode cX2_read 57 = .ok (.iconst 0, 1) := by decide +kernel
theorem dX2_read_58 : decode cX2_read 58 = .ok (.ireturn, 1) := by decide +kernel
theorem dX2_read_59 : decode cX2_read 59 = .ok (.aload_n 0, 1) := by decide +kernel
theorem dX2_read_60 : decode cX2_read 60 = .ok (.getfield 35, 3) := by decide +kernel
theorem dX2_read_63 : decode cX2_read 63 = .ok (.aload_n 0, 1) := by decide +kernel
theorem dX2_read_64 : decode cX2_read 64 = .ok (.getfield 50, 3) := by decide +kernel
theorem dX2_read_67 : decode cX2_read 67 = .ok (.iaload, 1) := by decide +kernel
theorem dX2_read_68 : decode cX2_read 68 = .ok (.bipush 24, 2) := by decide +kernel
theorem dX2_read_70 : decode cX2_read 70 = .ok (.if_icmp .ne 5, 3) := by decide +kernel
theorem dX2_read_73 : decode cX2_read 73 = .ok (.iconst 1, 1) := by decide +kernel
theorem dX2_read_74 : decode cX2_read 74 = .ok (.ireturn, 1) := by decide +kernel
theorem dX2_read_75 : decode cX2_read 75 = .ok (.aload_n 0, 1) := by decide +kernel
theorem dX2_read_76 : decode cX2_read 76 = .ok (.bipush 59, 2) := by decide +kernel
theorem dX2_read_78 : decode cX2_read 78 = .ok (.invokevirtual 70, 3) := by decide +kernel
theorem dX2_read_81 : decode cX2_read 81 = .ok (.ifCond .ne 5, 3) := by decide +kernel
theorem dX2_read_84 : decode cX2_read 84 = .ok (.iconst 0, 1) := by decide +kernel
theorem dX2_read_85 : decode cX2_read 85 = .ok (.ireturn, 1) := by decide +kernel
theorem dX2_read_86 : decode cX2_read 86 = .ok (.iinc 2 1, 3) := by decide +kernel
theorem dX2_read_89 : decode cX2_read 89 = .ok (.goto (-46), 3) := by decide +kernel
theorem dX2_read_92 : decode cX2_read 92 = .ok (.aload_n 0, 1) := by decide +kernel
theorem dX2_read_93 : decode cX2_read 93 = .ok (.invokevirtual 74, 3) := by decide +kernel
theorem dX2_read_96 : decode cX2_read 96 = .ok (.ireturn, 1) := by decide +kernel
theorem dX2_splitIntoTokens_0 : decode cX2_splitIntoTokens 0 = .ok (.iconst 0, 1) := by decide +kernel
theorem dX2_splitIntoTokens_1 : decode cX2_splitIntoTokens 1 = .ok (.istore_n 1, 1) := by decide +kernel
theorem dX2_splitIntoTokens_2 : decode cX2_splitIntoTokens 2 = .ok (.iconst 0, 1) := by decide +kernel
theorem dX2_splitIntoTokens_3 : decode cX2_splitIntoTokens 3 = .ok (.istore_n 2, 1) := by decide +kernel
theorem dX2_splitIntoTokens_4 : decode cX2_splitIntoTokens 4 = .ok (.iload_n 2, 1) := by decide +kernel
theorem dX2_splitIntoTokens_5 : decode cX2_splitIntoTokens 5 = .ok (.aload_n 0, 1) := by decide +kernel
theorem dX2_splitIntoTokens_6 : decode cX2_splitIntoTokens 6 = .ok (.getfield 44, 3) := by decide +kernel
theorem dX2_splitIntoTokens_9 : decode cX2_splitIntoTokens 9 = .ok (.if_icmp .ge 145, 3) := by decide +kernel
theorem dX2_splitIntoTokens_12 : decode cX2_splitIntoTokens 12 = .ok (.iload_n 2, 1) := by decide +kernel
theorem dX2_splitIntoTokens_13 : decode cX2_splitIntoTokens 13 = .ok (.iconst 1, 1) := by decide +kernel
theorem dX2_splitIntoTokens_14 : decode cX2_splitIntoTokens 14 = .ok (.iadd, 1) := by decide +kernel
theorem dX2_splitIntoTokens_15 : decode cX2_splitIntoTokens 15 = .ok (.istore_n 3, 1) := by decide +kernel
theorem dX2_splitIntoTokens_16 : decode cX2_splitIntoTokens 16 = .ok (.aload_n 0, 1) := by decide +kernel
theorem dX2_splitIntoTokens_17 : decode cX2_splitIntoTokens 17 = .ok (.getfield 9, 3) := by decide +kernel
theorem dX2_splitIntoTokens_20 : decode cX2_splitIntoTokens 20 = .ok (.iload_n 2, 1) := by decide +kernel
theorem dX2_splitIntoTokens_21 : decode cX2_splitIntoTokens 21 = .ok (.iaload, 1) := by decide +kernel
theorem dX2_splitIntoTokens_22 : decode cX2_splitIntoTokens 22 = .ok (.invokestatic 78, 3) := by decide +kernel
theorem dX2_splitIntoTokens_25 : decode cX2_splitIntoTokens 25 = .ok (.istore 4, 2) := by decide +kernel
theorem dX2_splitIntoTokens_27 : decode cX2_splitIntoTokens 27 = .ok (.iload 4, 2) := by decide +kernel
theorem dX2_splitIntoTokens_29 : decode cX2_splitIntoTokens 29 = .ok (.bipush 25, 2) := by decide +kernel
theorem dX2_splitIntoTokens_31 : decode cX2_splitIntoTokens 31 = .ok (.if_icmp .eq 31, 3) := by decide +kernel
theorem dX2_splitIntoTokens_34 : decode cX2_splitIntoTokens 34 = .ok (.iload_n 3, 1) := by decide +kernel
theorem dX2_splitIntoTokens_35 : decode cX2_splitIntoTokens 35 = .ok (.aload_n 0, 1) := by decide +kernel
theorem dX2_splitIntoTokens_36 : decode cX2_splitIntoTokens 36 = .ok (.getfield 44, 3) := by decide +kernel
theorem dX2_splitIntoTokens_39 : decode cX2_splitIntoTokens 39 = .ok (.if_icmp .ge 23, 3) := by decide +kernel
theorem dX2_splitIntoTokens_42 : decode cX2_splitIntoTokens 42 = .ok (.aload_n 0, 1) := by decide +kernel
theorem dX2_splitIntoTokens_43 : decode cX2_splitIntoTokens 43 = .ok (.getfield 9, 3) := by decide +kernel
theorem dX2_splitIntoTokens_46 : decode cX2_splitIntoTokens 46 = .ok (.iload_n 3, 1) := by decide +kernel
theorem dX2_splitIntoTokens_47 : decode cX2_splitIntoTokens 47 = .ok (.iaload, 1) := by decide +kernel
theorem dX2_splitIntoTokens_48 : decode cX2_splitIntoTokens 48 = .ok (.invokestatic 78, 3) := by decide +kernel
theorem dX2_splitIntoTokens_51 : decode cX2_splitIntoTokens 51 = .ok (.iload 4, 2) := by decide +kernel
theorem dX2_splitIntoTokens_53 : decode cX2_splitIntoTokens 53 = .ok (.if_icmp .ne 9, 3) := by decide +kernel
theorem dX2_splitIntoTokens_56 : decode cX2_splitIntoTokens 56 = .ok (.iinc 3 1, 3) := by decide +kernel
theorem dX2_splitIntoTokens_59 : decode cX2_splitIntoTokens 59 = .ok (.goto (-32), 3) := by decide +kernel
theorem dX2_splitIntoTokens_62 : decode cX2_splitIntoTokens 62 = .ok (.aload_n 0, 1) := by decide +kernel
theorem dX2_splitIntoTokens_63 : decode cX2_splitIntoTokens 63 = .ok (.getfield 9, 3) := by decide +kernel
theorem dX2_splitIntoTokens_66 : decode cX2_splitIntoTokens 66 = .ok (.iload_n 2, 1) := by decide +kernel
theorem dX2_splitIntoTokens_67 : decode cX2_splitIntoTokens 67 = .ok (.iaload, 1) := by decide +kernel
theorem dX2_splitIntoTokens_68 : decode cX2_splitIntoTokens 68 = .ok (.bipush 32, 2) := by decide +kernel
theorem dX2_splitIntoTokens_70 : decode cX2_splitIntoTokens 70 = .ok (.if_icmp .eq 79, 3) := by decide +kernel
theorem dX2_splitIntoTokens_73 : decode cX2_splitIntoTokens 73 = .ok (.aload_n 0, 1) := by decide +kernel
theorem dX2_splitIntoTokens_74 : decode cX2_splitIntoTokens 74 = .ok (.getfield 38, 3) := by decide +kernel
theorem dX2_splitIntoTokens_77 : decode cX2_splitIntoTokens 77 = .ok (.iload_n 1, 1) := by decide +kernel
theorem dX2_splitIntoTokens_78 : decode cX2_splitIntoTokens 78 = .ok (.iload_n 2, 1) := by decide +kernel
theorem dX2_splitIntoTokens_79 : decode cX2_splitIntoTokens 79 = .ok (.iastore, 1) := by decide +kernel
theorem dX2_splitIntoTokens_80 : decode cX2_splitIntoTokens 80 = .ok (.aload_n 0, 1) := by decide +kernel
theorem dX2_splitIntoTokens_81 : decode cX2_splitIntoTokens 81 = .ok (.getfield 41, 3) := by decide +kernel
theorem dX2_splitIntoTokens_84 : decode cX2_splitIntoTokens 84 = .ok (.iload_n 1, 1) := by decide +kernel
theorem dX2_splitIntoTokens_85 : decode cX2_splitIntoTokens 85 = .ok (.iload 4, 2) := by decide +kernel
theorem dX2_splitIntoTokens_87 : decode cX2_splitIntoTokens 87 = .ok (.bipush 23, 2) := by decide +kernel
theorem dX2_splitIntoTokens_89 : decode cX2_splitIntoTokens 89 = .ok (.if_icmp .ne 12, 3) := by decide +kernel
theorem dX2_splitIntoTokens_92 : decode cX2_splitIntoTokens 92 = .ok (.aload_n 0, 1) := by decide +kernel
theorem dX2_splitIntoTokens_93 : decode cX2_splitIntoTokens 93 = .ok (.iload_n 2, 1) := by decide +kernel
theorem dX2_splitIntoTokens_94 : decode cX2_splitIntoTokens 94 = .ok (.iload_n 3, 1) := by decide +kernel
theorem dX2_splitIntoTokens_95 : decode cX2_splitIntoTokens 95 = .ok (.invokevirtual 82, 3) := by decide +kernel
theorem dX2_splitIntoTokens_98 : decode cX2_splitIntoTokens 98 = .ok (.goto 4, 3) := by decide +kernel
theorem dX2_splitIntoTokens_101 : decode cX2_splitIntoTokens 101 = .ok (.iconst (-1), 1) := by decide +kernel
theorem dX2_splitIntoTokens_102 : decode cX2_splitIntoTokens 102 = .ok (.iastore, 1) := by decide +kernel
theorem dX2_splitIntoTokens_103 : decode cX2_splitIntoTokens 103 = .ok (.aload_n 0, 1) := by decide +kernel
theorem dX2_splitIntoTokens_104 : decode cX2_splitIntoTokens 104 = .ok (.getfield 35, 3) := by decide +kernel
theorem dX2_splitIntoTokens_107 : decode cX2_splitIntoTokens 107 = .ok (.iload_n 1, 1) := by decide +kernel
theorem dX2_splitIntoTokens_108 : decode cX2_splitIntoTokens 108 = .ok (.iload 4, 2) := by decide +kernel
theorem dX2_splitIntoTokens_110 : decode cX2_splitIntoTokens 110 = .ok (.bipush 22, 2) := by decide +kernel
theorem dX2_splitIntoTokens_112 : decode cX2_splitIntoTokens 112 = .ok (.if_icmp .ne 12, 3) := by decide +kernel
theorem dX2_splitIntoTokens_115 : decode cX2_splitIntoTokens 115 = .ok (.aload_n 0, 1) := by decide +kernel
theorem dX2_splitIntoTokens_116 : decode cX2_splitIntoTokens 116 = .ok (.iload_n 2, 1) := by decide +kernel
theorem dX2_splitIntoTokens_117 : decode cX2_splitIntoTokens 117 = .ok (.iload_n 3, 1) := by decide +kernel
theorem dX2_splitIntoTokens_118 : decode cX2_splitIntoTokens 118 = .ok (.invokevirtual 86, 3) := by decide +kernel
theorem dX2_splitIntoTokens_121 : decode cX2_splitIntoTokens 121 = .ok (.goto 24, 3) := by decide +kernel
theorem dX2_splitIntoTokens_124 : decode cX2_splitIntoTokens 124 = .ok (.iload 4, 2) := by decide +kernel
theorem dX2_splitIntoTokens_126 : decode cX2_splitIntoTokens 126 = .ok (.bipush 23, 2) := by decide +kernel
theorem dX2_splitIntoTokens_128 : decode cX2_splitIntoTokens 128 = .ok (.if_icmp .ne 8, 3) := by decide +kernel
theorem dX2_splitIntoTokens_131 : decode cX2_splitIntoTokens 131 = .ok (.bipush 23, 2) := by decide +kernel
theorem dX2_splitIntoTokens_133 : decode cX2_splitIntoTokens 133 = .ok (.goto 12, 3) := by decide +kernel
theorem dX2_splitIntoTokens_136 : decode cX2_splitIntoTokens 136 = .ok (.bipush 25, 2) := by decide +kernel
theorem dX2_splitIntoTokens_138 : decode cX2_splitIntoTokens 138 = .ok (.aload_n 0, 1) := by decide +kernel
theorem dX2_splitIntoTokens_139 : decode cX2_splitIntoTokens 139 = .ok (.getfield 9, 3) := by decide +kernel
theorem dX2_splitIntoTokens_142 : decode cX2_splitIntoTokens 142 = .ok (.iload_n 2, 1) := by decide +kernel
theorem dX2_splitIntoTokens_143 : decode cX2_splitIntoTokens 143 = .ok (.iaload, 1) := by decide +kernel
theorem dX2_splitIntoTokens_144 : decode cX2_splitIntoTokens 144 = .ok (.iadd, 1) := by decide +kernel
theorem dX2_splitIntoTokens_145 : decode cX2_splitIntoTokens 145 = .ok (.iastore, 1) := by decide +kernel
theorem dX2_splitIntoTokens_146 : decode cX2_splitIntoTokens 146 = .ok (.iinc 1 1, 3) := by decide +kernel
theorem dX2_splitIntoTokens_149 : decode cX2_splitIntoTokens 149 = .ok (.iload_n 3, 1) := by decide +kernel
theorem dX2_splitIntoTokens_150 : decode cX2_splitIntoTokens 150 = .ok (.istore_n 2, 1) := by decide +kernel
theorem dX2_splitIntoTokens_151 : decode cX2_splitIntoTokens 151 = .ok (.goto (-147), 3) := by decide +kernel
theorem dX2_splitIntoTokens_154 : decode cX2_splitIntoTokens 154 = .ok (.aload_n 0, 1) := by decide +kernel
theorem dX2_splitIntoTokens_155 : decode cX2_splitIntoTokens 155 = .ok (.getfield 38, 3) := by decide +kernel
theorem dX2_splitIntoTokens_158 : decode cX2_splitIntoTokens 158 = .ok (.iload_n 1, 1) := by decide +kernel
theorem dX2_splitIntoTokens_159 : decode cX2_splitIntoTokens 159 = .ok (.aload_n 0, 1) := by decide +kernel
theorem dX2_splitIntoTokens_160 : decode cX2_splitIntoTokens 160 = .ok (.getfield 44, 3) := by decide +kernel
theorem dX2_splitIntoTokens_163 : decode cX2_splitIntoTokens 163 = .ok (.iastore, 1) := by decide +kernel
theorem dX2_splitIntoTokens_164 : decode cX2_splitIntoTokens 164 = .ok (.aload_n 0, 1) := by decide +kernel
theorem dX2_splitIntoTokens_165 : decode cX2_splitIntoTokens 165 = .ok (.getfield 41, 3) := by decide +kernel
theorem dX2_splitIntoTokens_168 : decode cX2_splitIntoTokens 168 = .ok (.iload_n 1, 1) := by decide +kernel
theorem dX2_splitIntoTokens_169 : decode cX2_splitIntoTokens 169 = .ok (.iconst (-1), 1) := by decide +kernel
theorem dX2_splitIntoTokens_170 : decode cX2_splitIntoTokens 170 = .ok (.iastore, 1) := by decide +kernel
theorem dX2_splitIntoTokens_171 : decode cX2_splitIntoTokens 171 = .ok (.aload_n 0, 1) := by decide +kernel
theorem dX2_splitIntoTokens_172 : decode cX2_splitIntoTokens 172 = .ok (.getfield 35, 3) := by decide +kernel
theorem dX2_splitIntoTokens_175 : decode cX2_splitIntoTokens 175 = .ok (.iload_n 1, 1) := by decide +kernel
theorem dX2_splitIntoTokens_176 : decode cX2_splitIntoTokens 176 = .ok (.bipush 24, 2) := by decide +kernel
theorem dX2_splitIntoTokens_178 : decode cX2_splitIntoTokens 178 = .ok (.iastore, 1) := by decide +kernel
theorem dX2_splitIntoTokens_179 : decode cX2_splitIntoTokens 179 = .ok (.return_, 1) := by decide +kernel
theorem dX2_kindOf_0 : decode cX2_kindOf 0 = .ok (.iload_n 0, 1) := by decide +kernel
theorem dX2_kindOf_1 : decode cX2_kindOf 1 = .ok (.bipush 97, 2) := by decide +kernel
theorem dX2_kindOf_3 : decode cX2_kindOf 3 = .ok (.if_icmp .lt 12, 3) := by decide +kernel
theorem dX2_kindOf_6 : decode cX2_kindOf 6 = .ok (.iload_n 0, 1) := by decide +kernel
theorem dX2_kindOf_7 : decode cX2_kindOf 7 = .ok (.bipush 122, 2) := by decide +kernel
theorem dX2_kindOf_9 : decode cX2_kindOf 9 = .ok (.if_icmp .gt 6, 3) := by decide +kernel
theorem dX2_kindOf_12 : decode cX2_kindOf 12 = .ok (.bipush 22, 2) := by decide +kernel
theorem dX2_kindOf_14 : decode cX2_kindOf 14 = .ok (.ireturn, 1) := by decide +kernel
theorem dX2_kindOf_15 : decode cX2_kindOf 15 = .ok (.iload_n 0, 1) := by decide +kernel
theorem dX2_kindOf_16 : decode cX2_kindOf 16 = .ok (.bipush 48, 2) := by decide +kernel
theorem dX2_kindOf_18 : decode cX2_kindOf 18 = .ok (.if_icmp .lt 14, 3) := by decide +kernel
theorem dX2_kindOf_21 : decode cX2_kindOf 21 = .ok (.iload_n 0, 1) := by decide +kernel
theorem dX2_kindOf_22 : decode cX2_kindOf 22 = .ok (.bipush 57, 2) := by decide +kernel
theorem dX2_kindOf_24 : decode cX2_kindOf 24 = .ok (.if_icmp .gt 8, 3) := by decide +kernel
theorem dX2_kindOf_27 : decode cX2_kindOf 27 = .ok (.bipush 23, 2) := by decide +kernel
theorem dX2_kindOf_29 : decode cX2_kindOf 29 = .ok (.goto 5, 3) := by decide +kernel
theorem dX2_kindOf_32 : decode cX2_kindOf 32 = .ok (.bipush 25, 2) := by decide +kernel
theorem dX2_kindOf_34 : decode cX2_kindOf 34 = .ok (.ireturn, 1) := by decide +kernel
theorem dX2_wordBetween_0 : decode cX2_wordBetween 0 = .ok (.iconst 0, 1) := by decide +kernel
theorem dX2_wordBetween_1 : decode cX2_wordBetween 1 = .ok (.istore_n 3, 1) := by decide +kernel
theorem dX2_wordBetween_2 : decode cX2_wordBetween 2 = .ok (.iconst 0, 1) := by decide +kernel
theorem dX2_wordBetween_3 : decode cX2_wordBetween 3 = .ok (.istore 4, 2) := by decide +kernel
theorem dX2_wordBetween_5 : decode cX2_wordBetween 5 = .ok (.iconst 0, 1) := by decide +kernel
theorem dX2_wordBetween_6 : decode cX2_wordBetween 6 = .ok (.istore 5, 2) := by decide +kernel
theorem dX2_wordBetween_8 : decode cX2_wordBetween 8 = .ok (.iload 5, 2) := by decide +kernel
theorem dX2_wordBetween_10 : decode cX2_wordBetween 10 = .ok (.ldc 89, 2) := by decide +kernel
theorem dX2_wordBetween_12 : decode cX2_wordBetween 12 = .ok (.invokevirtual 91, 3) := by decide +kernel
theorem dX2_wordBetween_15 : decode cX2_wordBetween 15 = .ok (.if_icmp .ge 94, 3) := by decide +kernel
theorem dX2_wordBetween_18 : decode cX2_wordBetween 18 = .ok (.ldc 89, 2) := by decide +kernel
theorem dX2_wordBetween_20 : decode cX2_wordBetween 20 = .ok (.iload 5, 2) := by decide +kernel
theorem dX2_wordBetween_22 : decode cX2_wordBetween 22 = .ok (.invokevirtual 96, 3) := by decide +kernel
theorem dX2_wordBetween_25 : decode cX2_wordBetween 25 = .ok (.istore 6, 2) := by decide +kernel
theorem dX2_wordBetween_27 : decode cX2_wordBetween 27 = .ok (.iload 6, 2) := by decide +kernel
theorem dX2_wordBetween_29 : decode cX2_wordBetween 29 = .ok (.bipush 32, 2) := by decide +kernel
theorem dX2_wordBetween_31 : decode cX2_wordBetween 31 = .ok (.if_icmp .eq 56, 3) := by decide +kernel
theorem dX2_wordBetween_34 : decode cX2_wordBetween 34 = .ok (.iload 4, 2) := by decide +kernel
theorem dX2_wordBetween_36 : decode cX2_wordBetween 36 = .ok (.iconst (-1), 1) := by decide +kernel
theorem dX2_wordBetween_37 : decode cX2_wordBetween 37 = .ok (.if_icmp .eq 29, 3) := by decide +kernel
theorem dX2_wordBetween_40 : decode cX2_wordBetween 40 = .ok (.iload_n 1, 1) := by decide +kernel
theorem dX2_wordBetween_41 : decode cX2_wordBetween 41 = .ok (.iload 4, 2) := by decide +kernel
theorem dX2_wordBetween_43 : decode cX2_wordBetween 43 = .ok (.iadd, 1) := by decide +kernel
theorem dX2_wordBetween_44 : decode cX2_wordBetween 44 = .ok (.iload_n 2, 1) := by decide +kernel
theorem dX2_wordBetween_45 : decode cX2_wordBetween 45 = .ok (.if_icmp .ge 21, 3) := by decide +kernel
theorem dX2_wordBetween_48 : decode cX2_wordBetween 48 = .ok (.aload_n 0, 1) := by decide +kernel
theorem dX2_wordBetween_49 : decode cX2_wordBetween 49 = .ok (.getfield 9, 3) := by decide +kernel
theorem dX2_wordBetween_52 : decode cX2_wordBetween 52 = .ok (.iload_n 1, 1) := by decide +kernel
theorem dX2_wordBetween_53 : decode cX2_wordBetween 53 = .ok (.iload 4, 2) := by decide +kernel
theorem dX2_wordBetween_55 : decode cX2_wordBetween 55 = .ok (.iadd, 1) := by decide +kernel
theorem dX2_wordBetween_56 : decode cX2_wordBetween 56 = .ok (.iaload, 1) := by decide +kernel
theorem dX2_wordBetween_57 : decode cX2_wordBetween 57 = .ok (.iload 6, 2) := by decide +kernel
theorem dX2_wordBetween_59 : decode cX2_wordBetween 59 = .ok (.if_icmp .ne 7, 3) := by decide +kernel
theorem dX2_wordBetween_62 : decode cX2_wordBetween 62 = .ok (.iconst 1, 1) := by decide +kernel
theorem dX2_wordBetween_63 : decode cX2_wordBetween 63 = .ok (.goto 4, 3) := by decide +kernel
theorem dX2_wordBetween_66 : decode cX2_wordBetween 66 = .ok (.iconst 0, 1) := by decide +kernel
theorem dX2_wordBetween_67 : decode cX2_wordBetween 67 = .ok (.istore 7, 2) := by decide +kernel
theorem dX2_wordBetween_69 : decode cX2_wordBetween 69 = .ok (.iload 7, 2) := by decide +kernel
theorem dX2_wordBetween_71 : decode cX2_wordBetween 71 = .ok (.ifCond .eq 10, 3) := by decide +kernel
theorem dX2_wordBetween_74 : decode cX2_wordBetween 74 = .ok (.iload 4, 2) := by decide +kernel
theorem dX2_wordBetween_76 : decode cX2_wordBetween 76 = .ok (.iconst 1, 1) := by decide +kernel
theorem dX2_wordBetween_77 : decode cX2_wordBetween 77 = .ok (.iadd, 1) := by decide +kernel
theorem dX2_wordBetween_78 : decode cX2_wordBetween 78 = .ok (.goto 4, 3) := by decide +kernel
theorem dX2_wordBetween_81 : decode cX2_wordBetween 81 = .ok (.iconst (-1), 1) := by decide +kernel
theorem dX2_wordBetween_82 : decode cX2_wordBetween 82 = .ok (.istore 4, 2) := by decide +kernel
theorem dX2_wordBetween_84 : decode cX2_wordBetween 84 = .ok (.goto 19, 3) := by decide +kernel
theorem dX2_wordBetween_87 : decode cX2_wordBetween 87 = .ok (.iload 4, 2) := by decide +kernel
theorem dX2_wordBetween_89 : decode cX2_wordBetween 89 = .ok (.iload_n 2, 1) := by decide +kernel
theorem dX2_wordBetween_90 : decode cX2_wordBetween 90 = .ok (.iload_n 1, 1) := by decide +kernel
theorem dX2_wordBetween_91 : decode cX2_wordBetween 91 = .ok (.isub, 1) := by decide +kernel
theorem dX2_wordBetween_92 : decode cX2_wordBetween 92 = .ok (.if_icmp .ne 5, 3) := by decide +kernel
theorem dX2_wordBetween_95 : decode cX2_wordBetween 95 = .ok (.iload_n 3, 1) := by decide +kernel
theorem dX2_wordBetween_96 : decode cX2_wordBetween 96 = .ok (.ireturn, 1) := by decide +kernel
theorem dX2_wordBetween_97 : decode cX2_wordBetween 97 = .ok (.iinc 3 1, 3) := by decide +kernel
theorem dX2_wordBetween_100 : decode cX2_wordBetween 100 = .ok (.iconst 0, 1) := by decide +kernel
theorem dX2_wordBetween_101 : decode cX2_wordBetween 101 = .ok (.istore 4, 2) := by decide +kernel
theorem dX2_wordBetween_103 : decode cX2_wordBetween 103 = .ok (.iinc 5 1, 3) := by decide +kernel
theorem dX2_wordBetween_106 : decode cX2_wordBetween 106 = .ok (.goto (-98), 3) := by decide +kernel
theorem dX2_wordBetween_109 : decode cX2_wordBetween 109 = .ok (.bipush 22, 2) := by decide +kernel
theorem dX2_wordBetween_111 : decode cX2_wordBetween 111 = .ok (.ireturn, 1) := by decide +kernel
theorem dX2_numberBetween_0 : decode cX2_numberBetween 0 = .ok (.iconst 0, 1) := by decide +kernel
theorem dX2_numberBetween_1 : decode cX2_numberBetween 1 = .ok (.istore_n 3, 1) := by decide +kernel
theorem dX2_numberBetween_2 : decode cX2_numberBetween 2 = .ok (.iload_n 1, 1) := by decide +kernel
theorem dX2_numberBetween_3 : decode cX2_numberBetween 3 = .ok (.istore 4, 2) := by decide +kernel
theorem dX2_numberBetween_5 : decode cX2_numberBetween 5 = .ok (.iload 4, 2) := by decide +kernel
theorem dX2_numberBetween_7 : decode cX2_numberBetween 7 = .ok (.iload_n 2, 1) := by decide +kernel
theorem dX2_numberBetween_8 : decode cX2_numberBetween 8 = .ok (.if_icmp .ge 31, 3) := by decide +kernel
theorem dX2_numberBetween_11 : decode cX2_numberBetween 11 = .ok (.iload_n 3, 1) := by decide +kernel
theorem dX2_numberBetween_12 : decode cX2_numberBetween 12 = .ok (.bipush 10, 2) := by decide +kernel
theorem dX2_numberBetween_14 : decode cX2_numberBetween 14 = .ok (.imul, 1) := by decide +kernel
theorem dX2_numberBetween_15 : decode cX2_numberBetween 15 = .ok (.aload_n 0, 1) := by decide +kernel
theorem dX2_numberBetween_16 : decode cX2_numberBetween 16 = .ok (.getfield 9, 3) := by decide +kernel
theorem dX2_numberBetween_19 : decode cX2_numberBetween 19 = .ok (.iload 4, 2) := by decide +kernel
theorem dX2_numberBetween_21 : decode cX2_numberBetween 21 = .ok (.iaload, 1) := by decide +kernel
theorem dX2_numberBetween_22 : decode cX2_numberBetween 22 = .ok (.iadd, 1) := by decide +kernel
theorem dX2_numberBetween_23 : decode cX2_numberBetween 23 = .ok (.bipush 48, 2) := by decide +kernel
theorem dX2_numberBetween_25 : decode cX2_numberBetween 25 = .ok (.isub, 1) := by decide +kernel
theorem dX2_numberBetween_26 : decode cX2_numberBetween 26 = .ok (.sipush 1001, 3) := by decide +kernel
theorem dX2_numberBetween_29 : decode cX2_numberBetween 29 = .ok (.invokestatic 100, 3) := by decide +kernel
theorem dX2_numberBetween_32 : decode cX2_numberBetween 32 = .ok (.istore_n 3, 1) := by decide +kernel
theorem dX2_numberBetween_33 : decode cX2_numberBetween 33 = .ok (.iinc 4 1, 3) := by decide +kernel
theorem dX2_numberBetween_36 : decode cX2_numberBetween 36 = .ok (.goto (-31), 3) := by decide +kernel
theorem dX2_numberBetween_39 : decode cX2_numberBetween 39 = .ok (.iload_n 3, 1) := by decide +kernel
theorem dX2_numberBetween_40 : decode cX2_numberBetween 40 = .ok (.ireturn, 1) := by decide +kernel
theorem dX2_readClause_0 : decode cX2_readClause 0 = .ok (.aload_n 0, 1) := by decide +kernel
theorem dX2_readClause_1 : decode cX2_readClause 1 = .ok (.getfield 59, 3) := by decide +kernel
theorem dX2_readClause_4 : decode cX2_readClause 4 = .ok (.ifCond .eq 10, 3) := by decide +kernel
theorem dX2_readClause_7 : decode cX2_readClause 7 = .ok (.aload_n 0, 1) := by decide +kernel
theorem dX2_readClause_8 : decode cX2_readClause 8 = .ok (.invokevirtual 105, 3) := by decide +kernel
theorem dX2_readClause_11 : decode cX2_readClause 11 = .ok (.goto 7, 3) := by decide +kernel
theorem dX2_readClause_14 : decode cX2_readClause 14 = .ok (.aload_n 0, 1) := by decide +kernel
theorem dX2_readClause_15 : decode cX2_readClause 15 = .ok (.invokevirtual 108, 3) := by decide +kernel
theorem dX2_readClause_18 : decode cX2_readClause 18 = .ok (.istore_n 2, 1) := by decide +kernel
theorem dX2_readClause_19 : decode cX2_readClause 19 = .ok (.iload_n 2, 1) := by decide +kernel
theorem dX2_readClause_20 : decode cX2_readClause 20 = .ok (.iconst (-1), 1) := by decide +kernel
theorem dX2_readClause_21 : decode cX2_readClause 21 = .ok (.if_icmp .ne 8, 3) := by decide +kernel
theorem dX2_readClause_24 : decode cX2_readClause 24 = .ok (.aload_n 0, 1) := by decide +kernel
theorem dX2_readClause_25 : decode cX2_readClause 25 = .ok (.invokevirtual 74, 3) := by decide +kernel
theorem dX2_readClause_28 : decode cX2_readClause 28 = .ok (.ireturn, 1) := by decide +kernel
theorem dX2_readClause_29 : decode cX2_readClause 29 = .ok (.aload_n 0, 1) := by decide +kernel
theorem dX2_readClause_30 : decode cX2_readClause 30 = .ok (.invokevirtual 111, 3) := by decide +kernel
theorem dX2_readClause_33 : decode cX2_readClause 33 = .ok (.aload_n 0, 1) := by decide +kernel
theorem dX2_readClause_34 : decode cX2_readClause 34 = .ok (.getfield 20, 3) := by decide +kernel
theorem dX2_readClause_37 : decode cX2_readClause 37 = .ok (.getfield 114, 3) := by decide +kernel
theorem dX2_readClause_40 : decode cX2_readClause 40 = .ok (.iload_n 1, 1) := by decide +kernel
theorem dX2_readClause_41 : decode cX2_readClause 41 = .ok (.iload_n 2, 1) := by decide +kernel
theorem dX2_readClause_42 : decode cX2_readClause 42 = .ok (.iastore, 1) := by decide +kernel
theorem dX2_readClause_43 : decode cX2_readClause 43 = .ok (.aload_n 0, 1) := by decide +kernel
theorem dX2_readClause_44 : decode cX2_readClause 44 = .ok (.getfield 20, 3) := by decide +kernel
theorem dX2_readClause_47 : decode cX2_readClause 47 = .ok (.getfield 117, 3) := by decide +kernel
theorem dX2_readClause_50 : decode cX2_readClause 50 = .ok (.iload_n 1, 1) := by decide +kernel
theorem dX2_readClause_51 : decode cX2_readClause 51 = .ok (.iconst 1, 1) := by decide +kernel
theorem dX2_readClause_52 : decode cX2_readClause 52 = .ok (.iastore, 1) := by decide +kernel
theorem dX2_readClause_53 : decode cX2_readClause 53 = .ok (.aload_n 0, 1) := by decide +kernel
theorem dX2_readClause_54 : decode cX2_readClause 54 = .ok (.getfield 20, 3) := by decide +kernel
theorem dX2_readClause_57 : decode cX2_readClause 57 = .ok (.getfield 120, 3) := by decide +kernel
theorem dX2_readClause_60 : decode cX2_readClause 60 = .ok (.iload_n 1, 1) := by decide +kernel
theorem dX2_readClause_61 : decode cX2_readClause 61 = .ok (.aload_n 0, 1) := by decide +kernel
theorem dX2_readClause_62 : decode cX2_readClause 62 = .ok (.getfield 20, 3) := by decide +kernel
theorem dX2_readClause_65 : decode cX2_readClause 65 = .ok (.getfield 123, 3) := by decide +kernel
theorem dX2_readClause_68 : decode cX2_readClause 68 = .ok (.iastore, 1) := by decide +kernel
theorem dX2_readClause_69 : decode cX2_readClause 69 = .ok (.iload_n 2, 1) := by decide +kernel
theorem dX2_readClause_70 : decode cX2_readClause 70 = .ok (.iconst 4, 1) := by decide +kernel
theorem dX2_readClause_71 : decode cX2_readClause 71 = .ok (.if_icmp .eq 9, 3) := by decide +kernel
theorem dX2_readClause_74 : decode cX2_readClause 74 = .ok (.iload_n 2, 1) := by decide +kernel
theorem dX2_readClause_75 : decode cX2_readClause 75 = .ok (.bipush 6, 2) := by decide +kernel
theorem dX2_readClause_77 : decode cX2_readClause 77 = .ok (.if_icmp .ne 16, 3) := by decide +kernel
theorem dX2_readClause_80 : decode cX2_readClause 80 = .ok (.aload_n 0, 1) := by decide +kernel
theorem dX2_readClause_81 : decode cX2_readClause 81 = .ok (.getfield 20, 3) := by decide +kernel
theorem dX2_readClause_84 : decode cX2_readClause 84 = .ok (.iconst 1, 1) := by decide +kernel
theorem dX2_readClause_85 : decode cX2_readClause 85 = .ok (.iconst 0, 1) := by decide +kernel
theorem dX2_readClause_86 : decode cX2_readClause 86 = .ok (.invokevirtual 124, 3) := by decide +kernel
theorem dX2_readClause_89 : decode cX2_readClause 89 = .ok (.pop, 1) := by decide +kernel
theorem dX2_readClause_90 : decode cX2_readClause 90 = .ok (.goto 13, 3) := by decide +kernel
theorem dX2_readClause_93 : decode cX2_readClause 93 = .ok (.aload_n 0, 1) := by decide +kernel
theorem dX2_readClause_94 : decode cX2_readClause 94 = .ok (.iconst 0, 1) := by decide +kernel
theorem dX2_readClause_95 : decode cX2_readClause 95 = .ok (.invokevirtual 127, 3) := by decide +kernel
theorem dX2_readClause_98 : decode cX2_readClause 98 = .ok (.ifCond .ne 5, 3) := by decide +kernel
theorem dX2_readClause_101 : decode cX2_readClause 101 = .ok (.iconst 0, 1) := by decide +kernel
theorem dX2_readClause_102 : decode cX2_readClause 102 = .ok (.ireturn, 1) := by decide +kernel
theorem dX2_readClause_103 : decode cX2_readClause 103 = .ok (.aload_n 0, 1) := by decide +kernel
theorem dX2_readClause_104 : decode cX2_readClause 104 = .ok (.getfield 20, 3) := by decide +kernel
theorem dX2_readClause_107 : decode cX2_readClause 107 = .ok (.iconst 0, 1) := by decide +kernel
theorem dX2_readClause_108 : decode cX2_readClause 108 = .ok (.iconst 0, 1) := by decide +kernel
theorem dX2_readClause_109 : decode cX2_readClause 109 = .ok (.invokevirtual 124, 3) := by decide +kernel
theorem dX2_readClause_112 : decode cX2_readClause 112 = .ok (.pop, 1) := by decide +kernel
theorem dX2_readClause_113 : decode cX2_readClause 113 = .ok (.aload_n 0, 1) := by decide +kernel
theorem dX2_readClause_114 : decode cX2_readClause 114 = .ok (.getfield 59, 3) := by decide +kernel
theorem dX2_readClause_117 : decode cX2_readClause 117 = .ok (.ifCond .eq 27, 3) := by decide +kernel
theorem dX2_readClause_120 : decode cX2_readClause 120 = .ok (.aload_n 0, 1) := by decide +kernel
theorem dX2_readClause_121 : decode cX2_readClause 121 = .ok (.getfield 35, 3) := by decide +kernel
theorem dX2_readClause_124 : decode cX2_readClause 124 = .ok (.aload_n 0, 1) := by decide +kernel
theorem dX2_readClause_125 : decode cX2_readClause 125 = .ok (.getfield 50, 3) := by decide +kernel
theorem dX2_readClause_128 : decode cX2_readClause 128 = .ok (.iaload, 1) := by decide +kernel
theorem dX2_readClause_129 : decode cX2_readClause 129 = .ok (.bipush 17, 2) := by decide +kernel
theorem dX2_readClause_131 : decode cX2_readClause 131 = .ok (.if_icmp .ne 13, 3) := by decide +kernel
theorem dX2_readClause_134 : decode cX2_readClause 134 = .ok (.aload_n 0, 1) := by decide +kernel
theorem dX2_readClause_135 : decode cX2_readClause 135 = .ok (.iload_n 1, 1) := by decide +kernel
theorem dX2_readClause_136 : decode cX2_readClause 136 = .ok (.invokevirtual 130, 3) := by decide +kernel
theorem dX2_readClause_139 : decode cX2_readClause 139 = .ok (.ifCond .ne 5, 3) := by decide +kernel
theorem dX2_readClause_142 : decode cX2_readClause 142 = .ok (.iconst 0, 1) := by decide +kernel
theorem dX2_readClause_143 : decode cX2_readClause 143 = .ok (.ireturn, 1) := by decide +kernel
theorem dX2_readClause_144 : decode cX2_readClause 144 = .ok (.aload_n 0, 1) := by decide +kernel
theorem dX2_readClause_145 : decode cX2_readClause 145 = .ok (.getfield 20, 3) := by decide +kernel
theorem dX2_readClause_148 : decode cX2_readClause 148 = .ok (.getfield 133, 3) := by decide +kernel
theorem dX2_readClause_151 : decode cX2_readClause 151 = .ok (.iload_n 1, 1) := by decide +kernel
theorem dX2_readClause_152 : decode cX2_readClause 152 = .ok (.aload_n 0, 1) := by decide +kernel
theorem dX2_readClause_153 : decode cX2_readClause 153 = .ok (.getfield 20, 3) := by decide +kernel
theorem dX2_readClause_156 : decode cX2_readClause 156 = .ok (.getfield 123, 3) := by decide +kernel
theorem dX2_readClause_159 : decode cX2_readClause 159 = .ok (.iastore, 1) := by decide +kernel
theorem dX2_readClause_160 : decode cX2_readClause 160 = .ok (.aload_n 0, 1) := by decide +kernel
theorem dX2_readClause_161 : decode cX2_readClause 161 = .ok (.getfield 35, 3) := by decide +kernel
theorem dX2_readClause_164 : decode cX2_readClause 164 = .ok (.aload_n 0, 1) := by decide +kernel
theorem dX2_readClause_165 : decode cX2_readClause 165 = .ok (.getfield 50, 3) := by decide +kernel
theorem dX2_readClause_168 : decode cX2_readClause 168 = .ok (.iaload, 1) := by decide +kernel
theorem dX2_readClause_169 : decode cX2_readClause 169 = .ok (.bipush 18, 2) := by decide +kernel
theorem dX2_readClause_171 : decode cX2_readClause 171 = .ok (.if_icmp .eq 16, 3) := by decide +kernel
theorem dX2_readClause_174 : decode cX2_readClause 174 = .ok (.aload_n 0, 1) := by decide +kernel
theorem dX2_readClause_175 : decode cX2_readClause 175 = .ok (.getfield 20, 3) := by decide +kernel
theorem dX2_readClause_178 : decode cX2_readClause 178 = .ok (.iconst 1, 1) := by decide +kernel
theorem dX2_readClause_179 : decode cX2_readClause 179 = .ok (.iconst 1, 1) := by decide +kernel
theorem dX2_readClause_180 : decode cX2_readClause 180 = .ok (.invokevirtual 124, 3) := by decide +kernel
theorem dX2_readClause_183 : decode cX2_readClause 183 = .ok (.pop, 1) := by decide +kernel
theorem dX2_readClause_184 : decode cX2_readClause 184 = .ok (.goto 17, 3) := by decide +kernel
theorem dX2_readClause_187 : decode cX2_readClause 187 = .ok (.aload_n 0, 1) := by decide +kernel
theorem dX2_readClause_188 : decode cX2_readClause 188 = .ok (.invokevirtual 111, 3) := by decide +kernel
theorem dX2_readClause_191 : decode cX2_readClause 191 = .ok (.aload_n 0, 1) := by decide +kernel
theorem dX2_readClause_192 : decode cX2_readClause 192 = .ok (.iconst 0, 1) := by decide +kernel
theorem dX2_readClause_193 : decode cX2_readClause 193 = .ok (.invokevirtual 136, 3) := by decide +kernel
theorem dX2_readClause_196 : decode cX2_readClause 196 = .ok (.ifCond .ne 5, 3) := by decide +kernel
theorem dX2_readClause_199 : decode cX2_readClause 199 = .ok (.iconst 0, 1) := by decide +kernel
theorem dX2_readClause_200 : decode cX2_readClause 200 = .ok (.ireturn, 1) := by decide +kernel
theorem dX2_readClause_201 : decode cX2_readClause 201 = .ok (.aload_n 0, 1) := by decide +kernel
theorem dX2_readClause_202 : decode cX2_readClause 202 = .ok (.getfield 20, 3) := by decide +kernel
theorem dX2_readClause_205 : decode cX2_readClause 205 = .ok (.iconst 0, 1) := by decide +kernel
theorem dX2_readClause_206 : decode cX2_readClause 206 = .ok (.iconst 0, 1) := by decide +kernel
theorem dX2_readClause_207 : decode cX2_readClause 207 = .ok (.invokevirtual 124, 3) := by decide +kernel
theorem dX2_readClause_210 : decode cX2_readClause 210 = .ok (.pop, 1) := by decide +kernel
theorem dX2_readClause_211 : decode cX2_readClause 211 = .ok (.aload_n 0, 1) := by decide +kernel
theorem dX2_readClause_212 : decode cX2_readClause 212 = .ok (.getfield 20, 3) := by decide +kernel
theorem dX2_readClause_215 : decode cX2_readClause 215 = .ok (.iload_n 1, 1) := by decide +kernel
theorem dX2_readClause_216 : decode cX2_readClause 216 = .ok (.iconst 1, 1) := by decide +kernel
theorem dX2_readClause_217 : decode cX2_readClause 217 = .ok (.iadd, 1) := by decide +kernel
theorem dX2_readClause_218 : decode cX2_readClause 218 = .ok (.putfield 139, 3) := by decide +kernel
theorem dX2_readClause_221 : decode cX2_readClause 221 = .ok (.iconst 1, 1) := by decide +kernel
theorem dX2_readClause_222 : decode cX2_readClause 222 = .ok (.ireturn, 1) := by decide +kernel
theorem dX2_lawKind_0 : decode cX2_lawKind 0 = .ok (.aload_n 0, 1) := by decide +kernel
theorem dX2_lawKind_1 : decode cX2_lawKind 1 = .ok (.getfield 35, 3) := by decide +kernel
theorem dX2_lawKind_4 : decode cX2_lawKind 4 = .ok (.aload_n 0, 1) := by decide +kernel
theorem dX2_lawKind_5 : decode cX2_lawKind 5 = .ok (.getfield 50, 3) := by decide +kernel
theorem dX2_lawKind_8 : decode cX2_lawKind 8 = .ok (.iaload, 1) := by decide +kernel
theorem dX2_lawKind_9 : decode cX2_lawKind 9 = .ok (.bipush 11, 2) := by decide +kernel
theorem dX2_lawKind_11 : decode cX2_lawKind 11 = .ok (.if_icmp .ne 7, 3) := by decide +kernel
theorem dX2_lawKind_14 : decode cX2_lawKind 14 = .ok (.iconst 5, 1) := by decide +kernel
theorem dX2_lawKind_15 : decode cX2_lawKind 15 = .ok (.goto 23, 3) := by decide +kernel
theorem dX2_lawKind_18 : decode cX2_lawKind 18 = .ok (.aload_n 0, 1) := by decide +kernel
theorem dX2_lawKind_19 : decode cX2_lawKind 19 = .ok (.getfield 35, 3) := by decide +kernel
theorem dX2_lawKind_22 : decode cX2_lawKind 22 = .ok (.aload_n 0, 1) := by decide +kernel
theorem dX2_lawKind_23 : decode cX2_lawKind 23 = .ok (.getfield 50, 3) := by decide +kernel
theorem dX2_lawKind_26 : decode cX2_lawKind 26 = .ok (.iaload, 1) := by decide +kernel
theorem dX2_lawKind_27 : decode cX2_lawKind 27 = .ok (.bipush 12, 2) := by decide +kernel
theorem dX2_lawKind_29 : decode cX2_lawKind 29 = .ok (.if_icmp .ne 8, 3) := by decide +kernel
theorem dX2_lawKind_32 : decode cX2_lawKind 32 = .ok (.bipush 6, 2) := by decide +kernel
theorem dX2_lawKind_34 : decode cX2_lawKind 34 = .ok (.goto 4, 3) := by decide +kernel
theorem dX2_lawKind_37 : decode cX2_lawKind 37 = .ok (.iconst (-1), 1) := by decide +kernel
theorem dX2_lawKind_38 : decode cX2_lawKind 38 = .ok (.ireturn, 1) := by decide +kernel
theorem dX2_orderKind_0 : decode cX2_orderKind 0 = .ok (.aload_n 0, 1) := by decide +kernel
theorem dX2_orderKind_1 : decode cX2_orderKind 1 = .ok (.getfield 35, 3) := by decide +kernel
theorem dX2_orderKind_4 : decode cX2_orderKind 4 = .ok (.aload_n 0, 1) := by decide +kernel
theorem dX2_orderKind_5 : decode cX2_orderKind 5 = .ok (.getfield 50, 3) := by decide +kernel
theorem dX2_orderKind_8 : decode cX2_orderKind 8 = .ok (.iaload, 1) := by decide +kernel
theorem dX2_orderKind_9 : decode cX2_orderKind 9 = .ok (.tableswitch 81 3 16 #[77, 81, 81, 81, 81, 81, 81, 81, 81, 81, 71, 73, 75, 79], 71) := by decide +kernel
theorem dX2_orderKind_80 : decode cX2_orderKind 80 = .ok (.iconst 0, 1) := by decide +kernel
theorem dX2_orderKind_81 : decode cX2_orderKind 81 = .ok (.ireturn, 1) := by decide +kernel
theorem dX2_orderKind_82 : decode cX2_orderKind 82 = .ok (.iconst 1, 1) := by decide +kernel
theorem dX2_orderKind_83 : decode cX2_orderKind 83 = .ok (.ireturn, 1) := by decide +kernel
theorem dX2_orderKind_84 : decode cX2_orderKind 84 = .ok (.iconst 2, 1) := by decide +kernel
theorem dX2_orderKind_85 : decode cX2_orderKind 85 = .ok (.ireturn, 1) := by decide +kernel
theorem dX2_orderKind_86 : decode cX2_orderKind 86 = .ok (.iconst 3, 1) := by decide +kernel
theorem dX2_orderKind_87 : decode cX2_orderKind 87 = .ok (.ireturn, 1) := by decide +kernel
theorem dX2_orderKind_88 : decode cX2_orderKind 88 = .ok (.iconst 4, 1) := by decide +kernel
theorem dX2_orderKind_89 : decode cX2_orderKind 89 = .ok (.ireturn, 1) := by decide +kernel
theorem dX2_orderKind_90 : decode cX2_orderKind 90 = .ok (.iconst (-1), 1) := by decide +kernel
theorem dX2_orderKind_91 : decode cX2_orderKind 91 = .ok (.ireturn, 1) := by decide +kernel
theorem dX2_readTimes_0 : decode cX2_readTimes 0 = .ok (.aload_n 0, 1) := by decide +kernel
theorem dX2_readTimes_1 : decode cX2_readTimes 1 = .ok (.invokevirtual 111, 3) := by decide +kernel
theorem dX2_readTimes_4 : decode cX2_readTimes 4 = .ok (.aload_n 0, 1) := by decide +kernel
theorem dX2_readTimes_5 : decode cX2_readTimes 5 = .ok (.getfield 41, 3) := by decide +kernel
theorem dX2_readTimes_8 : decode cX2_readTimes 8 = .ok (.aload_n 0, 1) := by decide +kernel
theorem dX2_readTimes_9 : decode cX2_readTimes 9 = .ok (.getfield 50, 3) := by decide +kernel
theorem dX2_readTimes_12 : decode cX2_readTimes 12 = .ok (.iaload, 1) := by decide +kernel
theorem dX2_readTimes_13 : decode cX2_readTimes 13 = .ok (.iconst 1, 1) := by decide +kernel
theorem dX2_readTimes_14 : decode cX2_readTimes 14 = .ok (.if_icmp .lt 17, 3) := by decide +kernel
theorem dX2_readTimes_17 : decode cX2_readTimes 17 = .ok (.aload_n 0, 1) := by decide +kernel
theorem dX2_readTimes_18 : decode cX2_readTimes 18 = .ok (.getfield 41, 3) := by decide +kernel
theorem dX2_readTimes_21 : decode cX2_readTimes 21 = .ok (.aload_n 0, 1) := by decide +kernel
theorem dX2_readTimes_22 : decode cX2_readTimes 22 = .ok (.getfield 50, 3) := by decide +kernel
theorem dX2_readTimes_25 : decode cX2_readTimes 25 = .ok (.iaload, 1) := by decide +kernel
theorem dX2_readTimes_26 : decode cX2_readTimes 26 = .ok (.bipush 20, 2) := by decide +kernel
theorem dX2_readTimes_28 : decode cX2_readTimes 28 = .ok (.if_icmp .le 8, 3) := by decide +kernel
theorem dX2_readTimes_31 : decode cX2_readTimes 31 = .ok (.aload_n 0, 1) := by decide +kernel
theorem dX2_readTimes_32 : decode cX2_readTimes 32 = .ok (.invokevirtual 74, 3) := by decide +kernel
theorem dX2_readTimes_35 : decode cX2_readTimes 35 = .ok (.ireturn, 1) := by decide +kernel
theorem dX2_readTimes_36 : decode cX2_readTimes 36 = .ok (.aload_n 0, 1) := by decide +kernel
theorem dX2_readTimes_37 : decode cX2_readTimes 37 = .ok (.getfield 20, 3) := by decide +kernel
theorem dX2_readTimes_40 : decode cX2_readTimes 40 = .ok (.getfield 117, 3) := by decide +kernel
theorem dX2_readTimes_43 : decode cX2_readTimes 43 = .ok (.iload_n 1, 1) := by decide +kernel
theorem dX2_readTimes_44 : decode cX2_readTimes 44 = .ok (.aload_n 0, 1) := by decide +kernel
theorem dX2_readTimes_45 : decode cX2_readTimes 45 = .ok (.getfield 41, 3) := by decide +kernel
theorem dX2_readTimes_48 : decode cX2_readTimes 48 = .ok (.aload_n 0, 1) := by decide +kernel
theorem dX2_readTimes_49 : decode cX2_readTimes 49 = .ok (.getfield 50, 3) := by decide +kernel
theorem dX2_readTimes_52 : decode cX2_readTimes 52 = .ok (.iaload, 1) := by decide +kernel
theorem dX2_readTimes_53 : decode cX2_readTimes 53 = .ok (.iastore, 1) := by decide +kernel
theorem dX2_readTimes_54 : decode cX2_readTimes 54 = .ok (.aload_n 0, 1) := by decide +kernel
theorem dX2_readTimes_55 : decode cX2_readTimes 55 = .ok (.invokevirtual 111, 3) := by decide +kernel
theorem dX2_readTimes_58 : decode cX2_readTimes 58 = .ok (.iconst 1, 1) := by decide +kernel
theorem dX2_readTimes_59 : decode cX2_readTimes 59 = .ok (.ireturn, 1) := by decide +kernel
theorem dX2_readTest_0 : decode cX2_readTest 0 = .ok (.aload_n 0, 1) := by decide +kernel
theorem dX2_readTest_1 : decode cX2_readTest 1 = .ok (.iload_n 1, 1) := by decide +kernel
theorem dX2_readTest_2 : decode cX2_readTest 2 = .ok (.invokevirtual 142, 3) := by decide +kernel
theorem dX2_readTest_5 : decode cX2_readTest 5 = .ok (.ifCond .ne 5, 3) := by decide +kernel
theorem dX2_readTest_8 : decode cX2_readTest 8 = .ok (.iconst 0, 1) := by decide +kernel
theorem dX2_readTest_9 : decode cX2_readTest 9 = .ok (.ireturn, 1) := by decide +kernel
theorem dX2_readTest_10 : decode cX2_readTest 10 = .ok (.iconst 0, 1) := by decide +kernel
theorem dX2_readTest_11 : decode cX2_readTest 11 = .ok (.istore_n 2, 1) := by decide +kernel
theorem dX2_readTest_12 : decode cX2_readTest 12 = .ok (.iload_n 2, 1) := by decide +kernel
theorem dX2_readTest_13 : decode cX2_readTest 13 = .ok (.sipush 400, 3) := by decide +kernel
theorem dX2_readTest_16 : decode cX2_readTest 16 = .ok (.if_icmp .ge 55, 3) := by decide +kernel
theorem dX2_readTest_19 : decode cX2_readTest 19 = .ok (.aload_n 0, 1) := by decide +kernel
theorem dX2_readTest_20 : decode cX2_readTest 20 = .ok (.getfield 35, 3) := by decide +kernel
theorem dX2_readTest_23 : decode cX2_readTest 23 = .ok (.aload_n 0, 1) := by decide +kernel
theorem dX2_readTest_24 : decode cX2_readTest 24 = .ok (.getfield 50, 3) := by decide +kernel
theorem dX2_readTest_27 : decode cX2_readTest 27 = .ok (.iaload, 1) := by decide +kernel
theorem dX2_readTest_28 : decode cX2_readTest 28 = .ok (.bipush 19, 2) := by decide +kernel
theorem dX2_readTest_30 : decode cX2_readTest 30 = .ok (.if_icmp .ne 41, 3) := by decide +kernel
theorem dX2_readTest_33 : decode cX2_readTest 33 = .ok (.aload_n 0, 1) := by decide +kernel
theorem dX2_readTest_34 : decode cX2_readTest 34 = .ok (.invokevirtual 111, 3) := by decide +kernel
theorem dX2_readTest_37 : decode cX2_readTest 37 = .ok (.aload_n 0, 1) := by decide +kernel
theorem dX2_readTest_38 : decode cX2_readTest 38 = .ok (.getfield 20, 3) := by decide +kernel
theorem dX2_readTest_41 : decode cX2_readTest 41 = .ok (.iconst 5, 1) := by decide +kernel
theorem dX2_readTest_42 : decode cX2_readTest 42 = .ok (.iconst 0, 1) := by decide +kernel
theorem dX2_readTest_43 : decode cX2_readTest 43 = .ok (.invokevirtual 124, 3) := by decide +kernel
theorem dX2_readTest_46 : decode cX2_readTest 46 = .ok (.istore_n 3, 1) := by decide +kernel
theorem dX2_readTest_47 : decode cX2_readTest 47 = .ok (.aload_n 0, 1) := by decide +kernel
theorem dX2_readTest_48 : decode cX2_readTest 48 = .ok (.iload_n 1, 1) := by decide +kernel
theorem dX2_readTest_49 : decode cX2_readTest 49 = .ok (.invokevirtual 142, 3) := by decide +kernel
theorem dX2_readTest_52 : decode cX2_readTest 52 = .ok (.ifCond .ne 5, 3) := by decide +kernel
theorem dX2_readTest_55 : decode cX2_readTest 55 = .ok (.iconst 0, 1) := by decide +kernel
theorem dX2_readTest_56 : decode cX2_readTest 56 = .ok (.ireturn, 1) := by decide +kernel
theorem dX2_readTest_57 : decode cX2_readTest 57 = .ok (.aload_n 0, 1) := by decide +kernel
theorem dX2_readTest_58 : decode cX2_readTest 58 = .ok (.getfield 20, 3) := by decide +kernel
theorem dX2_readTest_61 : decode cX2_readTest 61 = .ok (.iload_n 3, 1) := by decide +kernel
theorem dX2_readTest_62 : decode cX2_readTest 62 = .ok (.invokevirtual 145, 3) := by decide +kernel
theorem dX2_readTest_65 : decode cX2_readTest 65 = .ok (.iinc 2 1, 3) := by decide +kernel
theorem dX2_readTest_68 : decode cX2_readTest 68 = .ok (.goto (-56), 3) := by decide +kernel
theorem dX2_readTest_71 : decode cX2_readTest 71 = .ok (.iconst 1, 1) := by decide +kernel
theorem dX2_readTest_72 : decode cX2_readTest 72 = .ok (.ireturn, 1) := by decide +kernel
theorem dX2_readBoth_0 : decode cX2_readBoth 0 = .ok (.aload_n 0, 1) := by decide +kernel
theorem dX2_readBoth_1 : decode cX2_readBoth 1 = .ok (.iload_n 1, 1) := by decide +kernel
theorem dX2_readBoth_2 : decode cX2_readBoth 2 = .ok (.invokevirtual 149, 3) := by decide +kernel
theorem dX2_readBoth_5 : decode cX2_readBoth 5 = .ok (.ifCond .ne 5, 3) := by decide +kernel
theorem dX2_readBoth_8 : decode cX2_readBoth 8 = .ok (.iconst 0, 1) := by decide +kernel
theorem dX2_readBoth_9 : decode cX2_readBoth 9 = .ok (.ireturn, 1) := by decide +kernel
theorem dX2_readBoth_10 : decode cX2_readBoth 10 = .ok (.iconst 0, 1) := by decide +kernel
theorem dX2_readBoth_11 : decode cX2_readBoth 11 = .ok (.istore_n 2, 1) := by decide +kernel
theorem dX2_readBoth_12 : decode cX2_readBoth 12 = .ok (.iload_n 2, 1) := by decide +kernel
theorem dX2_readBoth_13 : decode cX2_readBoth 13 = .ok (.sipush 400, 3) := by decide +kernel
theorem dX2_readBoth_16 : decode cX2_readBoth 16 = .ok (.if_icmp .ge 55, 3) := by decide +kernel
theorem dX2_readBoth_19 : decode cX2_readBoth 19 = .ok (.aload_n 0, 1) := by decide +kernel
theorem dX2_readBoth_20 : decode cX2_readBoth 20 = .ok (.getfield 35, 3) := by decide +kernel
theorem dX2_readBoth_23 : decode cX2_readBoth 23 = .ok (.aload_n 0, 1) := by decide +kernel
theorem dX2_readBoth_24 : decode cX2_readBoth 24 = .ok (.getfield 50, 3) := by decide +kernel
theorem dX2_readBoth_27 : decode cX2_readBoth 27 = .ok (.iaload, 1) := by decide +kernel
theorem dX2_readBoth_28 : decode cX2_readBoth 28 = .ok (.bipush 20, 2) := by decide +kernel
theorem dX2_readBoth_30 : decode cX2_readBoth 30 = .ok (.if_icmp .ne 41, 3) := by decide +kernel
theorem dX2_readBoth_33 : decode cX2_readBoth 33 = .ok (.aload_n 0, 1) := by decide +kernel
theorem dX2_readBoth_34 : decode cX2_readBoth 34 = .ok (.invokevirtual 111, 3) := by decide +kernel
theorem dX2_readBoth_37 : decode cX2_readBoth 37 = .ok (.aload_n 0, 1) := by decide +kernel
theorem dX2_readBoth_38 : decode cX2_readBoth 38 = .ok (.getfield 20, 3) := by decide +kernel
theorem dX2_readBoth_41 : decode cX2_readBoth 41 = .ok (.iconst 4, 1) := by decide +kernel
theorem dX2_readBoth_42 : decode cX2_readBoth 42 = .ok (.iconst 0, 1) := by decide +kernel
theorem dX2_readBoth_43 : decode cX2_readBoth 43 = .ok (.invokevirtual 124, 3) := by decide +kernel
theorem dX2_readBoth_46 : decode cX2_readBoth 46 = .ok (.istore_n 3, 1) := by decide +kernel
theorem dX2_readBoth_47 : decode cX2_readBoth 47 = .ok (.aload_n 0, 1) := by decide +kernel
theorem dX2_readBoth_48 : decode cX2_readBoth 48 = .ok (.iload_n 1, 1) := by decide +kernel
theorem dX2_readBoth_49 : decode cX2_readBoth 49 = .ok (.invokevirtual 149, 3) := by decide +kernel
theorem dX2_readBoth_52 : decode cX2_readBoth 52 = .ok (.ifCond .ne 5, 3) := by decide +kernel
theorem dX2_readBoth_55 : decode cX2_readBoth 55 = .ok (.iconst 0, 1) := by decide +kernel
theorem dX2_readBoth_56 : decode cX2_readBoth 56 = .ok (.ireturn, 1) := by decide +kernel
theorem dX2_readBoth_57 : decode cX2_readBoth 57 = .ok (.aload_n 0, 1) := by decide +kernel
theorem dX2_readBoth_58 : decode cX2_readBoth 58 = .ok (.getfield 20, 3) := by decide +kernel
theorem dX2_readBoth_61 : decode cX2_readBoth 61 = .ok (.iload_n 3, 1) := by decide +kernel
theorem dX2_readBoth_62 : decode cX2_readBoth 62 = .ok (.invokevirtual 145, 3) := by decide +kernel
theorem dX2_readBoth_65 : decode cX2_readBoth 65 = .ok (.iinc 2 1, 3) := by decide +kernel
theorem dX2_readBoth_68 : decode cX2_readBoth 68 = .ok (.goto (-56), 3) := by decide +kernel
theorem dX2_readBoth_71 : decode cX2_readBoth 71 = .ok (.iconst 1, 1) := by decide +kernel
theorem dX2_readBoth_72 : decode cX2_readBoth 72 = .ok (.ireturn, 1) := by decide +kernel
theorem dX2_readPlain_0 : decode cX2_readPlain 0 = .ok (.iconst 0, 1) := by decide +kernel
theorem dX2_readPlain_1 : decode cX2_readPlain 1 = .ok (.istore_n 2, 1) := by decide +kernel
theorem dX2_readPlain_2 : decode cX2_readPlain 2 = .ok (.iconst 0, 1) := by decide +kernel
theorem dX2_readPlain_3 : decode cX2_readPlain 3 = .ok (.istore_n 3, 1) := by decide +kernel
theorem dX2_readPlain_4 : decode cX2_readPlain 4 = .ok (.iload_n 3, 1) := by decide +kernel
theorem dX2_readPlain_5 : decode cX2_readPlain 5 = .ok (.sipush 400, 3) := by decide +kernel
theorem dX2_readPlain_8 : decode cX2_readPlain 8 = .ok (.if_icmp .ge 37, 3) := by decide +kernel
theorem dX2_readPlain_11 : decode cX2_readPlain 11 = .ok (.aload_n 0, 1) := by decide +kernel
theorem dX2_readPlain_12 : decode cX2_readPlain 12 = .ok (.getfield 35, 3) := by decide +kernel
theorem dX2_readPlain_15 : decode cX2_readPlain 15 = .ok (.aload_n 0, 1) := by decide +kernel
theorem dX2_readPlain_16 : decode cX2_readPlain 16 = .ok (.getfield 50, 3) := by decide +kernel
theorem dX2_readPlain_19 : decode cX2_readPlain 19 = .ok (.iaload, 1) := by decide +kernel
theorem dX2_readPlain_20 : decode cX2_readPlain 20 = .ok (.bipush 21, 2) := by decide +kernel
theorem dX2_readPlain_22 : decode cX2_readPlain 22 = .ok (.if_icmp .ne 23, 3) := by decide +kernel
theorem dX2_readPlain_25 : decode cX2_readPlain 25 = .ok (.iload_n 2, 1) := by decide +kernel
theorem dX2_readPlain_26 : decode cX2_readPlain 26 = .ok (.ifCond .ne 7, 3) := by decide +kernel
theorem dX2_readPlain_29 : decode cX2_readPlain 29 = .ok (.iconst 1, 1) := by decide +kernel
theorem dX2_readPlain_30 : decode cX2_readPlain 30 = .ok (.goto 4, 3) := by decide +kernel
theorem dX2_readPlain_33 : decode cX2_readPlain 33 = .ok (.iconst 0, 1) := by decide +kernel
theorem dX2_readPlain_34 : decode cX2_readPlain 34 = .ok (.istore_n 2, 1) := by decide +kernel
theorem dX2_readPlain_35 : decode cX2_readPlain 35 = .ok (.aload_n 0, 1) := by decide +kernel
theorem dX2_readPlain_36 : decode cX2_readPlain 36 = .ok (.invokevirtual 111, 3) := by decide +kernel
theorem dX2_readPlain_39 : decode cX2_readPlain 39 = .ok (.iinc 3 1, 3) := by decide +kernel
theorem dX2_readPlain_42 : decode cX2_readPlain 42 = .ok (.goto (-38), 3) := by decide +kernel
theorem dX2_readPlain_45 : decode cX2_readPlain 45 = .ok (.aload_n 0, 1) := by decide +kernel
theorem dX2_readPlain_46 : decode cX2_readPlain 46 = .ok (.bipush 40, 2) := by decide +kernel
theorem dX2_readPlain_48 : decode cX2_readPlain 48 = .ok (.invokevirtual 152, 3) := by decide +kernel
theorem dX2_readPlain_51 : decode cX2_readPlain 51 = .ok (.ifCond .eq 39, 3) := by decide +kernel
theorem dX2_readPlain_54 : decode cX2_readPlain 54 = .ok (.iload_n 1, 1) := by decide +kernel
theorem dX2_readPlain_55 : decode cX2_readPlain 55 = .ok (.bipush 8, 2) := by decide +kernel
theorem dX2_readPlain_57 : decode cX2_readPlain 57 = .ok (.if_icmp .lt 8, 3) := by decide +kernel
theorem dX2_readPlain_60 : decode cX2_readPlain 60 = .ok (.aload_n 0, 1) := by decide +kernel
theorem dX2_readPlain_61 : decode cX2_readPlain 61 = .ok (.invokevirtual 74, 3) := by decide +kernel
theorem dX2_readPlain_64 : decode cX2_readPlain 64 = .ok (.ireturn, 1) := by decide +kernel
theorem dX2_readPlain_65 : decode cX2_readPlain 65 = .ok (.aload_n 0, 1) := by decide +kernel
theorem dX2_readPlain_66 : decode cX2_readPlain 66 = .ok (.invokevirtual 111, 3) := by decide +kernel
theorem dX2_readPlain_69 : decode cX2_readPlain 69 = .ok (.aload_n 0, 1) := by decide +kernel
theorem dX2_readPlain_70 : decode cX2_readPlain 70 = .ok (.iload_n 1, 1) := by decide +kernel
theorem dX2_readPlain_71 : decode cX2_readPlain 71 = .ok (.iconst 1, 1) := by decide +kernel
theorem dX2_readPlain_72 : decode cX2_readPlain 72 = .ok (.iadd, 1) := by decide +kernel
theorem dX2_readPlain_73 : decode cX2_readPlain 73 = .ok (.invokevirtual 136, 3) := by decide +kernel
theorem dX2_readPlain_76 : decode cX2_readPlain 76 = .ok (.ifCond .eq 12, 3) := by decide +kernel
theorem dX2_readPlain_79 : decode cX2_readPlain 79 = .ok (.aload_n 0, 1) := by decide +kernel
theorem dX2_readPlain_80 : decode cX2_readPlain 80 = .ok (.bipush 41, 2) := by decide +kernel
theorem dX2_readPlain_82 : decode cX2_readPlain 82 = .ok (.invokevirtual 70, 3) := by decide +kernel
theorem dX2_readPlain_85 : decode cX2_readPlain 85 = .ok (.ifCond .ne 93, 3) := by decide +kernel
theorem dX2_readPlain_88 : decode cX2_readPlain 88 = .ok (.iconst 0, 1) := by decide +kernel
theorem dX2_readPlain_89 : decode cX2_readPlain 89 = .ok (.ireturn, 1) := by decide +kernel
theorem dX2_readPlain_90 : decode cX2_readPlain 90 = .ok (.aload_n 0, 1) := by decide +kernel
theorem dX2_readPlain_91 : decode cX2_readPlain 91 = .ok (.iload_n 1, 1) := by decide +kernel
theorem dX2_readPlain_92 : decode cX2_readPlain 92 = .ok (.invokevirtual 127, 3) := by decide +kernel
theorem dX2_readPlain_95 : decode cX2_readPlain 95 = .ok (.ifCond .ne 5, 3) := by decide +kernel
theorem dX2_readPlain_98 : decode cX2_readPlain 98 = .ok (.iconst 0, 1) := by decide +kernel
theorem dX2_readPlain_99 : decode cX2_readPlain 99 = .ok (.ireturn, 1) := by decide +kernel
theorem dX2_readPlain_100 : decode cX2_readPlain 100 = .ok (.aload_n 0, 1) := by decide +kernel
theorem dX2_readPlain_101 : decode cX2_readPlain 101 = .ok (.bipush 60, 2) := by decide +kernel
theorem dX2_readPlain_103 : decode cX2_readPlain 103 = .ok (.invokevirtual 152, 3) := by decide +kernel
theorem dX2_readPlain_106 : decode cX2_readPlain 106 = .ok (.ifCond .eq 8, 3) := by decide +kernel
theorem dX2_readPlain_109 : decode cX2_readPlain 109 = .ok (.bipush 11, 2) := by decide +kernel
theorem dX2_readPlain_111 : decode cX2_readPlain 111 = .ok (.goto 32, 3) := by decide +kernel
theorem dX2_readPlain_114 : decode cX2_readPlain 114 = .ok (.aload_n 0, 1) := by decide +kernel
theorem dX2_readPlain_115 : decode cX2_readPlain 115 = .ok (.bipush 62, 2) := by decide +kernel
theorem dX2_readPlain_117 : decode cX2_readPlain 117 = .ok (.invokevirtual 152, 3) := by decide +kernel
theorem dX2_readPlain_120 : decode cX2_readPlain 120 = .ok (.ifCond .eq 8, 3) := by decide +kernel
theorem dX2_readPlain_123 : decode cX2_readPlain 123 = .ok (.bipush 12, 2) := by decide +kernel
theorem dX2_readPlain_125 : decode cX2_readPlain 125 = .ok (.goto 18, 3) := by decide +kernel
theorem dX2_readPlain_128 : decode cX2_readPlain 128 = .ok (.aload_n 0, 1) := by decide +kernel
theorem dX2_readPlain_129 : decode cX2_readPlain 129 = .ok (.bipush 61, 2) := by decide +kernel
theorem dX2_readPlain_131 : decode cX2_readPlain 131 = .ok (.invokevirtual 152, 3) := by decide +kernel
theorem dX2_readPlain_134 : decode cX2_readPlain 134 = .ok (.ifCond .eq 8, 3) := by decide +kernel
theorem dX2_readPlain_137 : decode cX2_readPlain 137 = .ok (.bipush 13, 2) := by decide +kernel
theorem dX2_readPlain_139 : decode cX2_readPlain 139 = .ok (.goto 4, 3) := by decide +kernel
theorem dX2_readPlain_142 : decode cX2_readPlain 142 = .ok (.iconst (-1), 1) := by decide +kernel
theorem dX2_readPlain_143 : decode cX2_readPlain 143 = .ok (.istore_n 3, 1) := by decide +kernel
theorem dX2_readPlain_144 : decode cX2_readPlain 144 = .ok (.iload_n 3, 1) := by decide +kernel
theorem dX2_readPlain_145 : decode cX2_readPlain 145 = .ok (.iconst (-1), 1) := by decide +kernel
theorem dX2_readPlain_146 : decode cX2_readPlain 146 = .ok (.if_icmp .ne 8, 3) := by decide +kernel
theorem dX2_readPlain_149 : decode cX2_readPlain 149 = .ok (.aload_n 0, 1) := by decide +kernel
theorem dX2_readPlain_150 : decode cX2_readPlain 150 = .ok (.invokevirtual 74, 3) := by decide +kernel
theorem dX2_readPlain_153 : decode cX2_readPlain 153 = .ok (.ireturn, 1) := by decide +kernel
theorem dX2_readPlain_154 : decode cX2_readPlain 154 = .ok (.aload_n 0, 1) := by decide +kernel
theorem dX2_readPlain_155 : decode cX2_readPlain 155 = .ok (.invokevirtual 111, 3) := by decide +kernel
theorem dX2_readPlain_158 : decode cX2_readPlain 158 = .ok (.aload_n 0, 1) := by decide +kernel
theorem dX2_readPlain_159 : decode cX2_readPlain 159 = .ok (.iload_n 1, 1) := by decide +kernel
theorem dX2_readPlain_160 : decode cX2_readPlain 160 = .ok (.invokevirtual 127, 3) := by decide +kernel
theorem dX2_readPlain_163 : decode cX2_readPlain 163 = .ok (.ifCond .ne 5, 3) := by decide +kernel
theorem dX2_readPlain_166 : decode cX2_readPlain 166 = .ok (.iconst 0, 1) := by decide +kernel
theorem dX2_readPlain_167 : decode cX2_readPlain 167 = .ok (.ireturn, 1) := by decide +kernel
theorem dX2_readPlain_168 : decode cX2_readPlain 168 = .ok (.aload_n 0, 1) := by decide +kernel
theorem dX2_readPlain_169 : decode cX2_readPlain 169 = .ok (.getfield 20, 3) := by decide +kernel
theorem dX2_readPlain_172 : decode cX2_readPlain 172 = .ok (.iload_n 3, 1) := by decide +kernel
theorem dX2_readPlain_173 : decode cX2_readPlain 173 = .ok (.iconst 0, 1) := by decide +kernel
theorem dX2_readPlain_174 : decode cX2_readPlain 174 = .ok (.invokevirtual 124, 3) := by decide +kernel
theorem dX2_readPlain_177 : decode cX2_readPlain 177 = .ok (.pop, 1) := by decide +kernel
theorem dX2_readPlain_178 : decode cX2_readPlain 178 = .ok (.iload_n 2, 1) := by decide +kernel
theorem dX2_readPlain_179 : decode cX2_readPlain 179 = .ok (.ifCond .eq 13, 3) := by decide +kernel
theorem dX2_readPlain_182 : decode cX2_readPlain 182 = .ok (.aload_n 0, 1) := by decide +kernel
theorem dX2_readPlain_183 : decode cX2_readPlain 183 = .ok (.getfield 20, 3) := by decide +kernel
theorem dX2_readPlain_186 : decode cX2_readPlain 186 = .ok (.iconst 3, 1) := by decide +kernel
theorem dX2_readPlain_187 : decode cX2_readPlain 187 = .ok (.iconst 0, 1) := by decide +kernel
theorem dX2_readPlain_188 : decode cX2_readPlain 188 = .ok (.invokevirtual 124, 3) := by decide +kernel
theorem dX2_readPlain_191 : decode cX2_readPlain 191 = .ok (.pop, 1) := by decide +kernel
theorem dX2_readPlain_192 : decode cX2_readPlain 192 = .ok (.iconst 1, 1) := by decide +kernel
theorem dX2_readPlain_193 : decode cX2_readPlain 193 = .ok (.ireturn, 1) := by decide +kernel
theorem dX2_readSum_0 : decode cX2_readSum 0 = .ok (.aload_n 0, 1) := by decide +kernel
theorem dX2_readSum_1 : decode cX2_readSum 1 = .ok (.iload_n 1, 1) := by decide +kernel
theorem dX2_readSum_2 : decode cX2_readSum 2 = .ok (.invokevirtual 155, 3) := by decide +kernel
theorem dX2_readSum_5 : decode cX2_readSum 5 = .ok (.ifCond .ne 5, 3) := by decide +kernel
theorem dX2_readSum_8 : decode cX2_readSum 8 = .ok (.iconst 0, 1) := by decide +kernel
theorem dX2_readSum_9 : decode cX2_readSum 9 = .ok (.ireturn, 1) := by decide +kernel
theorem dX2_readSum_10 : decode cX2_readSum 10 = .ok (.iconst 0, 1) := by decide +kernel
theorem dX2_readSum_11 : decode cX2_readSum 11 = .ok (.istore_n 2, 1) := by decide +kernel
theorem dX2_readSum_12 : decode cX2_readSum 12 = .ok (.iload_n 2, 1) := by decide +kernel
theorem dX2_readSum_13 : decode cX2_readSum 13 = .ok (.sipush 400, 3) := by decide +kernel
theorem dX2_readSum_16 : decode cX2_readSum 16 = .ok (.if_icmp .ge 70, 3) := by decide +kernel
theorem dX2_readSum_19 : decode cX2_readSum 19 = .ok (.aload_n 0, 1) := by decide +kernel
theorem dX2_readSum_20 : decode cX2_readSum 20 = .ok (.bipush 43, 2) := by decide +kernel
theorem dX2_readSum_22 : decode cX2_readSum 22 = .ok (.invokevirtual 152, 3) := by decide +kernel
theorem dX2_readSum_25 : decode cX2_readSum 25 = .ok (.ifCond .eq 8, 3) := by decide +kernel
theorem dX2_readSum_28 : decode cX2_readSum 28 = .ok (.bipush 6, 2) := by decide +kernel
theorem dX2_readSum_30 : decode cX2_readSum 30 = .ok (.goto 18, 3) := by decide +kernel
theorem dX2_readSum_33 : decode cX2_readSum 33 = .ok (.aload_n 0, 1) := by decide +kernel
theorem dX2_readSum_34 : decode cX2_readSum 34 = .ok (.bipush 45, 2) := by decide +kernel
theorem dX2_readSum_36 : decode cX2_readSum 36 = .ok (.invokevirtual 152, 3) := by decide +kernel
theorem dX2_readSum_39 : decode cX2_readSum 39 = .ok (.ifCond .eq 8, 3) := by decide +kernel
theorem dX2_readSum_42 : decode cX2_readSum 42 = .ok (.bipush 7, 2) := by decide +kernel
theorem dX2_readSum_44 : decode cX2_readSum 44 = .ok (.goto 4, 3) := by decide +kernel
theorem dX2_readSum_47 : decode cX2_readSum 47 = .ok (.iconst (-1), 1) := by decide +kernel
theorem dX2_readSum_48 : decode cX2_readSum 48 = .ok (.istore_n 3, 1) := by decide +kernel
theorem dX2_readSum_49 : decode cX2_readSum 49 = .ok (.iload_n 3, 1) := by decide +kernel
theorem dX2_readSum_50 : decode cX2_readSum 50 = .ok (.iconst (-1), 1) := by decide +kernel
theorem dX2_readSum_51 : decode cX2_readSum 51 = .ok (.if_icmp .ne 5, 3) := by decide +kernel
theorem dX2_readSum_54 : decode cX2_readSum 54 = .ok (.iconst 1, 1) := by decide +kernel
theorem dX2_readSum_55 : decode cX2_readSum 55 = .ok (.ireturn, 1) := by decide +kernel
theorem dX2_readSum_56 : decode cX2_readSum 56 = .ok (.aload_n 0, 1) := by decide +kernel
theorem dX2_readSum_57 : decode cX2_readSum 57 = .ok (.invokevirtual 111, 3) := by decide +kernel
theorem dX2_readSum_60 : decode cX2_readSum 60 = .ok (.aload_n 0, 1) := by decide +kernel
theorem dX2_readSum_61 : decode cX2_readSum 61 = .ok (.iload_n 1, 1) := by decide +kernel
theorem dX2_readSum_62 : decode cX2_readSum 62 = .ok (.invokevirtual 155, 3) := by decide +kernel
theorem dX2_readSum_65 : decode cX2_readSum 65 = .ok (.ifCond .ne 5, 3) := by decide +kernel
theorem dX2_readSum_68 : decode cX2_readSum 68 = .ok (.iconst 0, 1) := by decide +kernel
theorem dX2_readSum_69 : decode cX2_readSum 69 = .ok (.ireturn, 1) := by decide +kernel
theorem dX2_readSum_70 : decode cX2_readSum 70 = .ok (.aload_n 0, 1) := by decide +kernel
theorem dX2_readSum_71 : decode cX2_readSum 71 = .ok (.getfield 20, 3) := by decide +kernel
theorem dX2_readSum_74 : decode cX2_readSum 74 = .ok (.iload_n 3, 1) := by decide +kernel
theorem dX2_readSum_75 : decode cX2_readSum 75 = .ok (.iconst 0, 1) := by decide +kernel
theorem dX2_readSum_76 : decode cX2_readSum 76 = .ok (.invokevirtual 124, 3) := by decide +kernel
theorem dX2_readSum_79 : decode cX2_readSum 79 = .ok (.pop, 1) := by decide +kernel
theorem dX2_readSum_80 : decode cX2_readSum 80 = .ok (.iinc 2 1, 3) := by decide +kernel
theorem dX2_readSum_83 : decode cX2_readSum 83 = .ok (.goto (-71), 3) := by decide +kernel
theorem dX2_readSum_86 : decode cX2_readSum 86 = .ok (.iconst 1, 1) := by decide +kernel
theorem dX2_readSum_87 : decode cX2_readSum 87 = .ok (.ireturn, 1) := by decide +kernel
theorem dX2_readTerm_0 : decode cX2_readTerm 0 = .ok (.aload_n 0, 1) := by decide +kernel
theorem dX2_readTerm_1 : decode cX2_readTerm 1 = .ok (.iload_n 1, 1) := by decide +kernel
theorem dX2_readTerm_2 : decode cX2_readTerm 2 = .ok (.invokevirtual 158, 3) := by decide +kernel
theorem dX2_readTerm_5 : decode cX2_readTerm 5 = .ok (.ifCond .ne 5, 3) := by decide +kernel
theorem dX2_readTerm_8 : decode cX2_readTerm 8 = .ok (.iconst 0, 1) := by decide +kernel
theorem dX2_readTerm_9 : decode cX2_readTerm 9 = .ok (.ireturn, 1) := by decide +kernel
theorem dX2_readTerm_10 : decode cX2_readTerm 10 = .ok (.iconst 0, 1) := by decide +kernel
theorem dX2_readTerm_11 : decode cX2_readTerm 11 = .ok (.istore_n 2, 1) := by decide +kernel
theorem dX2_readTerm_12 : decode cX2_readTerm 12 = .ok (.iload_n 2, 1) := by decide +kernel
theorem dX2_readTerm_13 : decode cX2_readTerm 13 = .ok (.sipush 400, 3) := by decide +kernel
theorem dX2_readTerm_16 : decode cX2_readTerm 16 = .ok (.if_icmp .ge 84, 3) := by decide +kernel
theorem dX2_readTerm_19 : decode cX2_readTerm 19 = .ok (.aload_n 0, 1) := by decide +kernel
theorem dX2_readTerm_20 : decode cX2_readTerm 20 = .ok (.bipush 42, 2) := by decide +kernel
theorem dX2_readTerm_22 : decode cX2_readTerm 22 = .ok (.invokevirtual 152, 3) := by decide +kernel
theorem dX2_readTerm_25 : decode cX2_readTerm 25 = .ok (.ifCond .eq 8, 3) := by decide +kernel
theorem dX2_readTerm_28 : decode cX2_readTerm 28 = .ok (.bipush 8, 2) := by decide +kernel
theorem dX2_readTerm_30 : decode cX2_readTerm 30 = .ok (.goto 32, 3) := by decide +kernel
theorem dX2_readTerm_33 : decode cX2_readTerm 33 = .ok (.aload_n 0, 1) := by decide +kernel
theorem dX2_readTerm_34 : decode cX2_readTerm 34 = .ok (.bipush 47, 2) := by decide +kernel
theorem dX2_readTerm_36 : decode cX2_readTerm 36 = .ok (.invokevirtual 152, 3) := by decide +kernel
theorem dX2_readTerm_39 : decode cX2_readTerm 39 = .ok (.ifCond .eq 8, 3) := by decide +kernel
theorem dX2_readTerm_42 : decode cX2_readTerm 42 = .ok (.bipush 9, 2) := by decide +kernel
theorem dX2_readTerm_44 : decode cX2_readTerm 44 = .ok (.goto 18, 3) := by decide +kernel
theorem dX2_readTerm_47 : decode cX2_readTerm 47 = .ok (.aload_n 0, 1) := by decide +kernel
theorem dX2_readTerm_48 : decode cX2_readTerm 48 = .ok (.bipush 37, 2) := by decide +kernel
theorem dX2_readTerm_50 : decode cX2_readTerm 50 = .ok (.invokevirtual 152, 3) := by decide +kernel
theorem dX2_readTerm_53 : decode cX2_readTerm 53 = .ok (.ifCond .eq 8, 3) := by decide +kernel
theorem dX2_readTerm_56 : decode cX2_readTerm 56 = .ok (.bipush 10, 2) := by decide +kernel
theorem dX2_readTerm_58 : decode cX2_readTerm 58 = .ok (.goto 4, 3) := by decide +kernel
theorem dX2_readTerm_61 : decode cX2_readTerm 61 = .ok (.iconst (-1), 1) := by decide +kernel
theorem dX2_readTerm_62 : decode cX2_readTerm 62 = .ok (.istore_n 3, 1) := by decide +kernel
theorem dX2_readTerm_63 : decode cX2_readTerm 63 = .ok (.iload_n 3, 1) := by decide +kernel
theorem dX2_readTerm_64 : decode cX2_readTerm 64 = .ok (.iconst (-1), 1) := by decide +kernel
theorem dX2_readTerm_65 : decode cX2_readTerm 65 = .ok (.if_icmp .ne 5, 3) := by decide +kernel
theorem dX2_readTerm_68 : decode cX2_readTerm 68 = .ok (.iconst 1, 1) := by decide +kernel
theorem dX2_readTerm_69 : decode cX2_readTerm 69 = .ok (.ireturn, 1) := by decide +kernel
theorem dX2_readTerm_70 : decode cX2_readTerm 70 = .ok (.aload_n 0, 1) := by decide +kernel
theorem dX2_readTerm_71 : decode cX2_readTerm 71 = .ok (.invokevirtual 111, 3) := by decide +kernel
theorem dX2_readTerm_74 : decode cX2_readTerm 74 = .ok (.aload_n 0, 1) := by decide +kernel
theorem dX2_readTerm_75 : decode cX2_readTerm 75 = .ok (.iload_n 1, 1) := by decide +kernel
theorem dX2_readTerm_76 : decode cX2_readTerm 76 = .ok (.invokevirtual 158, 3) := by decide +kernel
theorem dX2_readTerm_79 : decode cX2_readTerm 79 = .ok (.ifCond .ne 5, 3) := by decide +kernel
theorem dX2_readTerm_82 : decode cX2_readTerm 82 = .ok (.iconst 0, 1) := by decide +kernel
theorem dX2_readTerm_83 : decode cX2_readTerm 83 = .ok (.ireturn, 1) := by decide +kernel
theorem dX2_readTerm_84 : decode cX2_readTerm 84 = .ok (.aload_n 0, 1) := by decide +kernel
theorem dX2_readTerm_85 : decode cX2_readTerm 85 = .ok (.getfield 20, 3) := by decide +kernel
theorem dX2_readTerm_88 : decode cX2_readTerm 88 = .ok (.iload_n 3, 1) := by decide +kernel
theorem dX2_readTerm_89 : decode cX2_readTerm 89 = .ok (.iconst 0, 1) := by decide +kernel
theorem dX2_readTerm_90 : decode cX2_readTerm 90 = .ok (.invokevirtual 124, 3) := by decide +kernel
theorem dX2_readTerm_93 : decode cX2_readTerm 93 = .ok (.pop, 1) := by decide +kernel
theorem dX2_readTerm_94 : decode cX2_readTerm 94 = .ok (.iinc 2 1, 3) := by decide +kernel
theorem dX2_readTerm_97 : decode cX2_readTerm 97 = .ok (.goto (-85), 3) := by decide +kernel
theorem dX2_readTerm_100 : decode cX2_readTerm 100 = .ok (.iconst 1, 1) := by decide +kernel
theorem dX2_readTerm_101 : decode cX2_readTerm 101 = .ok (.ireturn, 1) := by decide +kernel
theorem dX2_readPiece_0 : decode cX2_readPiece 0 = .ok (.aload_n 0, 1) := by decide +kernel
theorem dX2_readPiece_1 : decode cX2_readPiece 1 = .ok (.bipush 91, 2) := by decide +kernel
theorem dX2_readPiece_3 : decode cX2_readPiece 3 = .ok (.invokevirtual 152, 3) := by decide +kernel
theorem dX2_readPiece_6 : decode cX2_readPiece 6 = .ok (.ifCond .eq 43, 3) := by decide +kernel
theorem dX2_readPiece_9 : decode cX2_readPiece 9 = .ok (.iload_n 1, 1) := by decide +kernel
theorem dX2_readPiece_10 : decode cX2_readPiece 10 = .ok (.bipush 8, 2) := by decide +kernel
theorem dX2_readPiece_12 : decode cX2_readPiece 12 = .ok (.if_icmp .lt 8, 3) := by decide +kernel
theorem dX2_readPiece_15 : decode cX2_readPiece 15 = .ok (.aload_n 0, 1) := by decide +kernel
theorem dX2_readPiece_16 : decode cX2_readPiece 16 = .ok (.invokevirtual 74, 3) := by decide +kernel
theorem dX2_readPiece_19 : decode cX2_readPiece 19 = .ok (.ireturn, 1) := by decide +kernel
theorem dX2_readPiece_20 : decode cX2_readPiece 20 = .ok (.aload_n 0, 1) := by decide +kernel
theorem dX2_readPiece_21 : decode cX2_readPiece 21 = .ok (.invokevirtual 111, 3) := by decide +kernel
theorem dX2_readPiece_24 : decode cX2_readPiece 24 = .ok (.aload_n 0, 1) := by decide +kernel
theorem dX2_readPiece_25 : decode cX2_readPiece 25 = .ok (.iload_n 1, 1) := by decide +kernel
theorem dX2_readPiece_26 : decode cX2_readPiece 26 = .ok (.iconst 1, 1) := by decide +kernel
theorem dX2_readPiece_27 : decode cX2_readPiece 27 = .ok (.iadd, 1) := by decide +kernel
theorem dX2_readPiece_28 : decode cX2_readPiece 28 = .ok (.invokevirtual 127, 3) := by decide +kernel
theorem dX2_readPiece_31 : decode cX2_readPiece 31 = .ok (.ifCond .eq 16, 3) := by decide +kernel
theorem dX2_readPiece_34 : decode cX2_readPiece 34 = .ok (.aload_n 0, 1) := by decide +kernel
theorem dX2_readPiece_35 : decode cX2_readPiece 35 = .ok (.bipush 93, 2) := by decide +kernel
theorem dX2_readPiece_37 : decode cX2_readPiece 37 = .ok (.invokevirtual 70, 3) := by decide +kernel
theorem dX2_readPiece_40 : decode cX2_readPiece 40 = .ok (.ifCond .eq 7, 3) := by decide +kernel
theorem dX2_readPiece_43 : decode cX2_readPiece 43 = .ok (.iconst 1, 1) := by decide +kernel
theorem dX2_readPiece_44 : decode cX2_readPiece 44 = .ok (.goto 4, 3) := by decide +kernel
theorem dX2_readPiece_47 : decode cX2_readPiece 47 = .ok (.iconst 0, 1) := by decide +kernel
theorem dX2_readPiece_48 : decode cX2_readPiece 48 = .ok (.ireturn, 1) := by decide +kernel
theorem dX2_readPiece_49 : decode cX2_readPiece 49 = .ok (.aload_n 0, 1) := by decide +kernel
theorem dX2_readPiece_50 : decode cX2_readPiece 50 = .ok (.getfield 53, 3) := by decide +kernel
theorem dX2_readPiece_53 : decode cX2_readPiece 53 = .ok (.bipush 50, 2) := by decide +kernel
theorem dX2_readPiece_55 : decode cX2_readPiece 55 = .ok (.if_icmp .lt 8, 3) := by decide +kernel
theorem dX2_readPiece_58 : decode cX2_readPiece 58 = .ok (.aload_n 0, 1) := by decide +kernel
theorem dX2_readPiece_59 : decode cX2_readPiece 59 = .ok (.invokevirtual 74, 3) := by decide +kernel
theorem dX2_readPiece_62 : decode cX2_readPiece 62 = .ok (.ireturn, 1) := by decide +kernel
theorem dX2_readPiece_63 : decode cX2_readPiece 63 = .ok (.aload_n 0, 1) := by decide +kernel
theorem dX2_readPiece_64 : decode cX2_readPiece 64 = .ok (.dup, 1) := by decide +kernel
theorem dX2_readPiece_65 : decode cX2_readPiece 65 = .ok (.getfield 53, 3) := by decide +kernel
theorem dX2_readPiece_68 : decode cX2_readPiece 68 = .ok (.iconst 1, 1) := by decide +kernel
theorem dX2_readPiece_69 : decode cX2_readPiece 69 = .ok (.iadd, 1) := by decide +kernel
theorem dX2_readPiece_70 : decode cX2_readPiece 70 = .ok (.putfield 53, 3) := by decide +kernel
theorem dX2_readPiece_73 : decode cX2_readPiece 73 = .ok (.aload_n 0, 1) := by decide +kernel
theorem dX2_readPiece_74 : decode cX2_readPiece 74 = .ok (.getfield 35, 3) := by decide +kernel
theorem dX2_readPiece_77 : decode cX2_readPiece 77 = .ok (.aload_n 0, 1) := by decide +kernel
theorem dX2_readPiece_78 : decode cX2_readPiece 78 = .ok (.getfield 50, 3) := by decide +kernel
theorem dX2_readPiece_81 : decode cX2_readPiece 81 = .ok (.iaload, 1) := by decide +kernel
theorem dX2_readPiece_82 : decode cX2_readPiece 82 = .ok (.istore_n 2, 1) := by decide +kernel
theorem dX2_readPiece_83 : decode cX2_readPiece 83 = .ok (.aload_n 0, 1) := by decide +kernel
theorem dX2_readPiece_84 : decode cX2_readPiece 84 = .ok (.getfield 59, 3) := by decide +kernel
theorem dX2_readPiece_87 : decode cX2_readPiece 87 = .ok (.ifCond .eq 29, 3) := by decide +kernel
theorem dX2_readPiece_90 : decode cX2_readPiece 90 = .ok (.iload_n 2, 1) := by decide +kernel
theorem dX2_readPiece_91 : decode cX2_readPiece 91 = .ok (.iconst 5, 1) := by decide +kernel
theorem dX2_readPiece_92 : decode cX2_readPiece 92 = .ok (.if_icmp .eq 9, 3) := by decide +kernel
theorem dX2_readPiece_95 : decode cX2_readPiece 95 = .ok (.iload_n 2, 1) := by decide +kernel
theorem dX2_readPiece_96 : decode cX2_readPiece 96 = .ok (.bipush 10, 2) := by decide +kernel
theorem dX2_readPiece_98 : decode cX2_readPiece 98 = .ok (.if_icmp .ne 18, 3) := by decide +kernel
theorem dX2_readPiece_101 : decode cX2_readPiece 101 = .ok (.aload_n 0, 1) := by decide +kernel
theorem dX2_readPiece_102 : decode cX2_readPiece 102 = .ok (.iload_n 2, 1) := by decide +kernel
theorem dX2_readPiece_103 : decode cX2_readPiece 103 = .ok (.iconst 5, 1) := by decide +kernel
theorem dX2_readPiece_104 : decode cX2_readPiece 104 = .ok (.if_icmp .ne 7, 3) := by decide +kernel
theorem dX2_readPiece_107 : decode cX2_readPiece 107 = .ok (.iconst 1, 1) := by decide +kernel
theorem dX2_readPiece_108 : decode cX2_readPiece 108 = .ok (.goto 4, 3) := by decide +kernel
theorem dX2_readPiece_111 : decode cX2_readPiece 111 = .ok (.iconst 0, 1) := by decide +kernel
theorem dX2_readPiece_112 : decode cX2_readPiece 112 = .ok (.invokevirtual 161, 3) := by decide +kernel
theorem dX2_readPiece_115 : decode cX2_readPiece 115 = .ok (.ireturn, 1) := by decide +kernel
theorem dX2_readPiece_116 : decode cX2_readPiece 116 = .ok (.aload_n 0, 1) := by decide +kernel
theorem dX2_readPiece_117 : decode cX2_readPiece 117 = .ok (.getfield 59, 3) := by decide +kernel
theorem dX2_readPiece_120 : decode cX2_readPiece 120 = .ok (.ifCond .eq 8, 3) := by decide +kernel
theorem dX2_readPiece_123 : decode cX2_readPiece 123 = .ok (.bipush 6, 2) := by decide +kernel
theorem dX2_readPiece_125 : decode cX2_readPiece 125 = .ok (.goto 4, 3) := by decide +kernel
theorem dX2_readPiece_128 : decode cX2_readPiece 128 = .ok (.iconst 0, 1) := by decide +kernel
theorem dX2_readPiece_129 : decode cX2_readPiece 129 = .ok (.istore_n 3, 1) := by decide +kernel
theorem dX2_readPiece_130 : decode cX2_readPiece 130 = .ok (.aload_n 0, 1) := by decide +kernel
theorem dX2_readPiece_131 : decode cX2_readPiece 131 = .ok (.getfield 59, 3) := by decide +kernel
theorem dX2_readPiece_134 : decode cX2_readPiece 134 = .ok (.ifCond .eq 8, 3) := by decide +kernel
theorem dX2_readPiece_137 : decode cX2_readPiece 137 = .ok (.bipush 9, 2) := by decide +kernel
theorem dX2_readPiece_139 : decode cX2_readPiece 139 = .ok (.goto 5, 3) := by decide +kernel
theorem dX2_readPiece_142 : decode cX2_readPiece 142 = .ok (.bipush 6, 2) := by decide +kernel
theorem dX2_readPiece_144 : decode cX2_readPiece 144 = .ok (.istore 4, 2) := by decide +kernel
theorem dX2_readPiece_146 : decode cX2_readPiece 146 = .ok (.iload_n 2, 1) := by decide +kernel
theorem dX2_readPiece_147 : decode cX2_readPiece 147 = .ok (.iload_n 3, 1) := by decide +kernel
theorem dX2_readPiece_148 : decode cX2_readPiece 148 = .ok (.if_icmp .lt 22, 3) := by decide +kernel
theorem dX2_readPiece_151 : decode cX2_readPiece 151 = .ok (.iload_n 2, 1) := by decide +kernel
theorem dX2_readPiece_152 : decode cX2_readPiece 152 = .ok (.iload 4, 2) := by decide +kernel
theorem dX2_readPiece_154 : decode cX2_readPiece 154 = .ok (.if_icmp .gt 16, 3) := by decide +kernel
theorem dX2_readPiece_157 : decode cX2_readPiece 157 = .ok (.aload_n 0, 1) := by decide +kernel
theorem dX2_readPiece_158 : decode cX2_readPiece 158 = .ok (.getfield 20, 3) := by decide +kernel
theorem dX2_readPiece_161 : decode cX2_readPiece 161 = .ok (.iconst 2, 1) := by decide +kernel
theorem dX2_readPiece_162 : decode cX2_readPiece 162 = .ok (.iload_n 2, 1) := by decide +kernel
theorem dX2_readPiece_163 : decode cX2_readPiece 163 = .ok (.invokevirtual 124, 3) := by decide +kernel
theorem dX2_readPiece_166 : decode cX2_readPiece 166 = .ok (.pop, 1) := by decide +kernel
theorem dX2_readPiece_167 : decode cX2_readPiece 167 = .ok (.goto 50, 3) := by decide +kernel
theorem dX2_readPiece_170 : decode cX2_readPiece 170 = .ok (.iload_n 2, 1) := by decide +kernel
theorem dX2_readPiece_171 : decode cX2_readPiece 171 = .ok (.bipush 23, 2) := by decide +kernel
theorem dX2_readPiece_173 : decode cX2_readPiece 173 = .ok (.if_icmp .ne 39, 3) := by decide +kernel
theorem dX2_readPiece_176 : decode cX2_readPiece 176 = .ok (.aload_n 0, 1) := by decide +kernel
theorem dX2_readPiece_177 : decode cX2_readPiece 177 = .ok (.getfield 41, 3) := by decide +kernel
theorem dX2_readPiece_180 : decode cX2_readPiece 180 = .ok (.aload_n 0, 1) := by decide +kernel
theorem dX2_readPiece_181 : decode cX2_readPiece 181 = .ok (.getfield 50, 3) := by decide +kernel
theorem dX2_readPiece_184 : decode cX2_readPiece 184 = .ok (.iaload, 1) := by decide +kernel
theorem dX2_readPiece_185 : decode cX2_readPiece 185 = .ok (.sipush 1000, 3) := by decide +kernel
theorem dX2_readPiece_188 : decode cX2_readPiece 188 = .ok (.if_icmp .gt 24, 3) := by decide +kernel
theorem dX2_readPiece_191 : decode cX2_readPiece 191 = .ok (.aload_n 0, 1) := by decide +kernel
theorem dX2_readPiece_192 : decode cX2_readPiece 192 = .ok (.getfield 20, 3) := by decide +kernel
theorem dX2_readPiece_195 : decode cX2_readPiece 195 = .ok (.iconst 1, 1) := by decide +kernel
theorem dX2_readPiece_196 : decode cX2_readPiece 196 = .ok (.aload_n 0, 1) := by decide +kernel
theorem dX2_readPiece_197 : decode cX2_readPiece 197 = .ok (.getfield 41, 3) := by decide +kernel
theorem dX2_readPiece_200 : decode cX2_readPiece 200 = .ok (.aload_n 0, 1) := by decide +kernel
theorem dX2_readPiece_201 : decode cX2_readPiece 201 = .ok (.getfield 50, 3) := by decide +kernel
theorem dX2_readPiece_204 : decode cX2_readPiece 204 = .ok (.iaload, 1) := by decide +kernel
theorem dX2_readPiece_205 : decode cX2_readPiece 205 = .ok (.invokevirtual 124, 3) := by decide +kernel
theorem dX2_readPiece_208 : decode cX2_readPiece 208 = .ok (.pop, 1) := by decide +kernel
theorem dX2_readPiece_209 : decode cX2_readPiece 209 = .ok (.goto 8, 3) := by decide +kernel
theorem dX2_readPiece_212 : decode cX2_readPiece 212 = .ok (.aload_n 0, 1) := by decide +kernel
theorem dX2_readPiece_213 : decode cX2_readPiece 213 = .ok (.invokevirtual 74, 3) := by decide +kernel
theorem dX2_readPiece_216 : decode cX2_readPiece 216 = .ok (.ireturn, 1) := by decide +kernel
theorem dX2_readPiece_217 : decode cX2_readPiece 217 = .ok (.aload_n 0, 1) := by decide +kernel
theorem dX2_readPiece_218 : decode cX2_readPiece 218 = .ok (.invokevirtual 111, 3) := by decide +kernel
theorem dX2_readPiece_221 : decode cX2_readPiece 221 = .ok (.iconst 1, 1) := by decide +kernel
theorem dX2_readPiece_222 : decode cX2_readPiece 222 = .ok (.ireturn, 1) := by decide +kernel
theorem dX2_readLookup_0 : decode cX2_readLookup 0 = .ok (.aload_n 0, 1) := by decide +kernel
theorem dX2_readLookup_1 : decode cX2_readLookup 1 = .ok (.invokevirtual 111, 3) := by decide +kernel
theorem dX2_readLookup_4 : decode cX2_readLookup 4 = .ok (.iload_n 1, 1) := by decide +kernel
theorem dX2_readLookup_5 : decode cX2_readLookup 5 = .ok (.ifCond .eq 8, 3) := by decide +kernel
theorem dX2_readLookup_8 : decode cX2_readLookup 8 = .ok (.bipush 59, 2) := by decide +kernel
theorem dX2_readLookup_10 : decode cX2_readLookup 10 = .ok (.goto 6, 3) := by decide +kernel
theorem dX2_readLookup_13 : decode cX2_readLookup 13 = .ok (.sipush 999, 3) := by decide +kernel
theorem dX2_readLookup_16 : decode cX2_readLookup 16 = .ok (.istore_n 2, 1) := by decide +kernel
theorem dX2_readLookup_17 : decode cX2_readLookup 17 = .ok (.aload_n 0, 1) := by decide +kernel
theorem dX2_readLookup_18 : decode cX2_readLookup 18 = .ok (.getfield 41, 3) := by decide +kernel
theorem dX2_readLookup_21 : decode cX2_readLookup 21 = .ok (.aload_n 0, 1) := by decide +kernel
theorem dX2_readLookup_22 : decode cX2_readLookup 22 = .ok (.getfield 50, 3) := by decide +kernel
theorem dX2_readLookup_25 : decode cX2_readLookup 25 = .ok (.iaload, 1) := by decide +kernel
theorem dX2_readLookup_26 : decode cX2_readLookup 26 = .ok (.ifCond .lt 25, 3) := by decide +kernel
theorem dX2_readLookup_29 : decode cX2_readLookup 29 = .ok (.aload_n 0, 1) := by decide +kernel
theorem dX2_readLookup_30 : decode cX2_readLookup 30 = .ok (.getfield 41, 3) := by decide +kernel
theorem dX2_readLookup_33 : decode cX2_readLookup 33 = .ok (.aload_n 0, 1) := by decide +kernel
theorem dX2_readLookup_34 : decode cX2_readLookup 34 = .ok (.getfield 50, 3) := by decide +kernel
theorem dX2_readLookup_37 : decode cX2_readLookup 37 = .ok (.iaload, 1) := by decide +kernel
theorem dX2_readLookup_38 : decode cX2_readLookup 38 = .ok (.iload_n 2, 1) := by decide +kernel
theorem dX2_readLookup_39 : decode cX2_readLookup 39 = .ok (.if_icmp .gt 12, 3) := by decide +kernel
theorem dX2_readLookup_42 : decode cX2_readLookup 42 = .ok (.aload_n 0, 1) := by decide +kernel
theorem dX2_readLookup_43 : decode cX2_readLookup 43 = .ok (.getfield 56, 3) := by decide +kernel
theorem dX2_readLookup_46 : decode cX2_readLookup 46 = .ok (.bipush 50, 2) := by decide +kernel
theorem dX2_readLookup_48 : decode cX2_readLookup 48 = .ok (.if_icmp .lt 8, 3) := by decide +kernel
theorem dX2_readLookup_51 : decode cX2_readLookup 51 = .ok (.aload_n 0, 1) := by decide +kernel
theorem dX2_readLookup_52 : decode cX2_readLookup 52 = .ok (.invokevirtual 74, 3) := by decide +kernel
theorem dX2_readLookup_55 : decode cX2_readLookup 55 = .ok (.ireturn, 1) := by decide +kernel
theorem dX2_readLookup_56 : decode cX2_readLookup 56 = .ok (.aload_n 0, 1) := by decide +kernel
theorem dX2_readLookup_57 : decode cX2_readLookup 57 = .ok (.getfield 24, 3) := by decide +kernel
theorem dX2_readLookup_60 : decode cX2_readLookup 60 = .ok (.aload_n 0, 1) := by decide +kernel
theorem dX2_readLookup_61 : decode cX2_readLookup 61 = .ok (.getfield 56, 3) := by decide +kernel
theorem dX2_readLookup_64 : decode cX2_readLookup 64 = .ok (.aload_n 0, 1) := by decide +kernel
theorem dX2_readLookup_65 : decode cX2_readLookup 65 = .ok (.getfield 41, 3) := by decide +kernel
theorem dX2_readLookup_68 : decode cX2_readLookup 68 = .ok (.aload_n 0, 1) := by decide +kernel
theorem dX2_readLookup_69 : decode cX2_readLookup 69 = .ok (.getfield 50, 3) := by decide +kernel
theorem dX2_readLookup_72 : decode cX2_readLookup 72 = .ok (.iaload, 1) := by decide +kernel
theorem dX2_readLookup_73 : decode cX2_readLookup 73 = .ok (.iastore, 1) := by decide +kernel
theorem dX2_readLookup_74 : decode cX2_readLookup 74 = .ok (.aload_n 0, 1) := by decide +kernel
theorem dX2_readLookup_75 : decode cX2_readLookup 75 = .ok (.getfield 27, 3) := by decide +kernel
theorem dX2_readLookup_78 : decode cX2_readLookup 78 = .ok (.aload_n 0, 1) := by decide +kernel
theorem dX2_readLookup_79 : decode cX2_readLookup 79 = .ok (.getfield 56, 3) := by decide +kernel
theorem dX2_readLookup_82 : decode cX2_readLookup 82 = .ok (.iload_n 1, 1) := by decide +kernel
theorem dX2_readLookup_83 : decode cX2_readLookup 83 = .ok (.bastore, 1) := by decide +kernel
theorem dX2_readLookup_84 : decode cX2_readLookup 84 = .ok (.aload_n 0, 1) := by decide +kernel
theorem dX2_readLookup_85 : decode cX2_readLookup 85 = .ok (.getfield 20, 3) := by decide +kernel
theorem dX2_readLookup_88 : decode cX2_readLookup 88 = .ok (.iconst 2, 1) := by decide +kernel
theorem dX2_readLookup_89 : decode cX2_readLookup 89 = .ok (.bipush 10, 2) := by decide +kernel
theorem dX2_readLookup_91 : decode cX2_readLookup 91 = .ok (.aload_n 0, 1) := by decide +kernel
theorem dX2_readLookup_92 : decode cX2_readLookup 92 = .ok (.getfield 56, 3) := by decide +kernel
theorem dX2_readLookup_95 : decode cX2_readLookup 95 = .ok (.iadd, 1) := by decide +kernel
theorem dX2_readLookup_96 : decode cX2_readLookup 96 = .ok (.invokevirtual 124, 3) := by decide +kernel
theorem dX2_readLookup_99 : decode cX2_readLookup 99 = .ok (.pop, 1) := by decide +kernel
theorem dX2_readLookup_100 : decode cX2_readLookup 100 = .ok (.aload_n 0, 1) := by decide +kernel
theorem dX2_readLookup_101 : decode cX2_readLookup 101 = .ok (.dup, 1) := by decide +kernel
theorem dX2_readLookup_102 : decode cX2_readLookup 102 = .ok (.getfield 56, 3) := by decide +kernel
theorem dX2_readLookup_105 : decode cX2_readLookup 105 = .ok (.iconst 1, 1) := by decide +kernel
theorem dX2_readLookup_106 : decode cX2_readLookup 106 = .ok (.iadd, 1) := by decide +kernel
theorem dX2_readLookup_107 : decode cX2_readLookup 107 = .ok (.putfield 56, 3) := by decide +kernel
theorem dX2_readLookup_110 : decode cX2_readLookup 110 = .ok (.aload_n 0, 1) := by decide +kernel
theorem dX2_readLookup_111 : decode cX2_readLookup 111 = .ok (.invokevirtual 111, 3) := by decide +kernel
theorem dX2_readLookup_114 : decode cX2_readLookup 114 = .ok (.iconst 1, 1) := by decide +kernel
theorem dX2_readLookup_115 : decode cX2_readLookup 115 = .ok (.ireturn, 1) := by decide +kernel
theorem dX2_isMark_0 : decode cX2_isMark 0 = .ok (.aload_n 0, 1) := by decide +kernel
theorem dX2_isMark_1 : decode cX2_isMark 1 = .ok (.getfield 35, 3) := by decide +kernel
theorem dX2_isMark_4 : decode cX2_isMark 4 = .ok (.aload_n 0, 1) := by decide +kernel
theorem dX2_isMark_5 : decode cX2_isMark 5 = .ok (.getfield 50, 3) := by decide +kernel
theorem dX2_isMark_8 : decode cX2_isMark 8 = .ok (.iaload, 1) := by decide +kernel
theorem dX2_isMark_9 : decode cX2_isMark 9 = .ok (.bipush 25, 2) := by decide +kernel
theorem dX2_isMark_11 : decode cX2_isMark 11 = .ok (.iload_n 1, 1) := by decide +kernel
theorem dX2_isMark_12 : decode cX2_isMark 12 = .ok (.iadd, 1) := by decide +kernel
theorem dX2_isMark_13 : decode cX2_isMark 13 = .ok (.if_icmp .ne 7, 3) := by decide +kernel
theorem dX2_isMark_16 : decode cX2_isMark 16 = .ok (.iconst 1, 1) := by decide +kernel
theorem dX2_isMark_17 : decode cX2_isMark 17 = .ok (.goto 4, 3) := by decide +kernel
theorem dX2_isMark_20 : decode cX2_isMark 20 = .ok (.iconst 0, 1) := by decide +kernel
theorem dX2_isMark_21 : decode cX2_isMark 21 = .ok (.ireturn, 1) := by decide +kernel
theorem dX2_passMark_0 : decode cX2_passMark 0 = .ok (.aload_n 0, 1) := by decide +kernel
theorem dX2_passMark_1 : decode cX2_passMark 1 = .ok (.iload_n 1, 1) := by decide +kernel
theorem dX2_passMark_2 : decode cX2_passMark 2 = .ok (.invokevirtual 152, 3) := by decide +kernel
theorem dX2_passMark_5 : decode cX2_passMark 5 = .ok (.ifCond .ne 8, 3) := by decide +kernel
theorem dX2_passMark_8 : decode cX2_passMark 8 = .ok (.aload_n 0, 1) := by decide +kernel
theorem dX2_passMark_9 : decode cX2_passMark 9 = .ok (.invokevirtual 74, 3) := by decide +kernel
theorem dX2_passMark_12 : decode cX2_passMark 12 = .ok (.ireturn, 1) := by decide +kernel
theorem dX2_passMark_13 : decode cX2_passMark 13 = .ok (.aload_n 0, 1) := by decide +kernel
theorem dX2_passMark_14 : decode cX2_passMark 14 = .ok (.invokevirtual 111, 3) := by decide +kernel
theorem dX2_passMark_17 : decode cX2_passMark 17 = .ok (.iconst 1, 1) := by decide +kernel
theorem dX2_passMark_18 : decode cX2_passMark 18 = .ok (.ireturn, 1) := by decide +kernel
theorem dX2_pass_0 : decode cX2_pass 0 = .ok (.aload_n 0, 1) := by decide +kernel
theorem dX2_pass_1 : decode cX2_pass 1 = .ok (.getfield 50, 3) := by decide +kernel
theorem dX2_pass_4 : decode cX2_pass 4 = .ok (.sipush 400, 3) := by decide +kernel
theorem dX2_pass_7 : decode cX2_pass 7 = .ok (.if_icmp .ge 27, 3) := by decide +kernel
theorem dX2_pass_10 : decode cX2_pass 10 = .ok (.aload_n 0, 1) := by decide +kernel
theorem dX2_pass_11 : decode cX2_pass 11 = .ok (.getfield 35, 3) := by decide +kernel
theorem dX2_pass_14 : decode cX2_pass 14 = .ok (.aload_n 0, 1) := by decide +kernel
theorem dX2_pass_15 : decode cX2_pass 15 = .ok (.getfield 50, 3) := by decide +kernel
theorem dX2_pass_18 : decode cX2_pass 18 = .ok (.iaload, 1) := by decide +kernel
theorem dX2_pass_19 : decode cX2_pass 19 = .ok (.bipush 24, 2) := by decide +kernel
theorem dX2_pass_21 : decode cX2_pass 21 = .ok (.if_icmp .eq 13, 3) := by decide +kernel
theorem dX2_pass_24 : decode cX2_pass 24 = .ok (.aload_n 0, 1) := by decide +kernel
theorem dX2_pass_25 : decode cX2_pass 25 = .ok (.dup, 1) := by decide +kernel
theorem dX2_pass_26 : decode cX2_pass 26 = .ok (.getfield 50, 3) := by decide +kernel
theorem dX2_pass_29 : decode cX2_pass 29 = .ok (.iconst 1, 1) := by decide +kernel
theorem dX2_pass_30 : decode cX2_pass 30 = .ok (.iadd, 1) := by decide +kernel
theorem dX2_pass_31 : decode cX2_pass 31 = .ok (.putfield 50, 3) := by decide +kernel
theorem dX2_pass_34 : decode cX2_pass 34 = .ok (.return_, 1) := by decide +kernel
theorem dX2_fail_0 : decode cX2_fail 0 = .ok (.aload_n 0, 1) := by decide +kernel
theorem dX2_fail_1 : decode cX2_fail 1 = .ok (.aload_n 0, 1) := by decide +kernel
theorem dX2_fail_2 : decode cX2_fail 2 = .ok (.getfield 38, 3) := by decide +kernel
theorem dX2_fail_5 : decode cX2_fail 5 = .ok (.aload_n 0, 1) := by decide +kernel
theorem dX2_fail_6 : decode cX2_fail 6 = .ok (.getfield 50, 3) := by decide +kernel
theorem dX2_fail_9 : decode cX2_fail 9 = .ok (.iaload, 1) := by decide +kernel
theorem dX2_fail_10 : decode cX2_fail 10 = .ok (.putfield 31, 3) := by decide +kernel
theorem dX2_fail_13 : decode cX2_fail 13 = .ok (.iconst 0, 1) := by decide +kernel
theorem dX2_fail_14 : decode cX2_fail 14 = .ok (.ireturn, 1) := by decide +kernel
theorem dX3_init_0 : decode cX3_init 0 = .ok (.aload_n 0, 1) := by decide +kernel
theorem dX3_init_1 : decode cX3_init 1 = .ok (.invokespecial 3, 3) := by decide +kernel
theorem dX3_init_4 : decode cX3_init 4 = .ok (.aload_n 0, 1) := by decide +kernel
theorem dX3_init_5 : decode cX3_init 5 = .ok (.bipush 30, 2) := by decide +kernel
theorem dX3_init_7 : decode cX3_init 7 = .ok (.newarray .int, 2) := by decide +kernel
theorem dX3_init_9 : decode cX3_init 9 = .ok (.putfield 9, 3) := by decide +kernel
theorem dX3_init_12 : decode cX3_init 12 = .ok (.aload_n 0, 1) := by decide +kernel
theorem dX3_init_13 : decode cX3_init 13 = .ok (.iconst 3, 1) := by decide +kernel
theorem dX3_init_14 : decode cX3_init 14 = .ok (.newarray .int, 2) := by decide +kernel
theorem dX3_init_16 : decode cX3_init 16 = .ok (.putfield 15, 3) := by decide +kernel
theorem dX3_init_19 : decode cX3_init 19 = .ok (.aload_n 0, 1) := by decide +kernel
theorem dX3_init_20 : decode cX3_init 20 = .ok (.new 18, 3) := by decide +kernel
theorem dX3_init_23 : decode cX3_init 23 = .ok (.dup, 1) := by decide +kernel
theorem dX3_init_24 : decode cX3_init 24 = .ok (.invokespecial 20, 3) := by decide +kernel
theorem dX3_init_27 : decode cX3_init 27 = .ok (.putfield 21, 3) := by decide +kernel
theorem dX3_init_30 : decode cX3_init 30 = .ok (.aload_n 0, 1) := by decide +kernel
theorem dX3_init_31 : decode cX3_init 31 = .ok (.iconst 4, 1) := by decide +kernel
theorem dX3_init_32 : decode cX3_init 32 = .ok (.putfield 25, 3) := by decide +kernel
theorem dX3_init_35 : decode cX3_init 35 = .ok (.aload_n 0, 1) := by decide +kernel
theorem dX3_init_36 : decode cX3_init 36 = .ok (.getfield 15, 3) := by decide +kernel
theorem dX3_init_39 : decode cX3_init 39 = .ok (.iconst 1, 1) := by decide +kernel
theorem dX3_init_40 : decode cX3_init 40 = .ok (.iconst 1, 1) := by decide +kernel
theorem dX3_init_41 : decode cX3_init 41 = .ok (.iastore, 1) := by decide +kernel
theorem dX3_init_42 : decode cX3_init 42 = .ok (.return_, 1) := by decide +kernel
theorem dX3_copyFrom_0 : decode cX3_copyFrom 0 = .ok (.aload_n 1, 1) := by decide +kernel
theorem dX3_copyFrom_1 : decode cX3_copyFrom 1 = .ok (.getfield 9, 3) := by decide +kernel
theorem dX3_copyFrom_4 : decode cX3_copyFrom 4 = .ok (.iconst 0, 1) := by decide +kernel
theorem dX3_copyFrom_5 : decode cX3_copyFrom 5 = .ok (.aload_n 0, 1) := by decide +kernel
theorem dX3_copyFrom_6 : decode cX3_copyFrom 6 = .ok (.getfield 9, 3) := by decide +kernel
theorem dX3_copyFrom_9 : decode cX3_copyFrom 9 = .ok (.iconst 0, 1) := by decide +kernel
theorem dX3_copyFrom_10 : decode cX3_copyFrom 10 = .ok (.bipush 30, 2) := by decide +kernel
theorem dX3_copyFrom_12 : decode cX3_copyFrom 12 = .ok (.invokestatic 29, 3) := by decide +kernel
theorem dX3_copyFrom_15 : decode cX3_copyFrom 15 = .ok (.aload_n 1, 1) := by decide +kernel
theorem dX3_copyFrom_16 : decode cX3_copyFrom 16 = .ok (.getfield 15, 3) := by decide +kernel
theorem dX3_copyFrom_19 : decode cX3_copyFrom 19 = .ok (.iconst 0, 1) := by decide +kernel
theorem dX3_copyFrom_20 : decode cX3_copyFrom 20 = .ok (.aload_n 0, 1) := by decide +kernel
theorem dX3_copyFrom_21 : decode cX3_copyFrom 21 = .ok (.getfield 15, 3) := by decide +kernel
theorem dX3_copyFrom_24 : decode cX3_copyFrom 24 = .ok (.iconst 0, 1) := by decide +kernel
theorem dX3_copyFrom_25 : decode cX3_copyFrom 25 = .ok (.iconst 3, 1) := by decide +kernel
theorem dX3_copyFrom_26 : decode cX3_copyFrom 26 = .ok (.invokestatic 29, 3) := by decide +kernel
theorem dX3_copyFrom_29 : decode cX3_copyFrom 29 = .ok (.aload_n 0, 1) := by decide +kernel
theorem dX3_copyFrom_30 : decode cX3_copyFrom 30 = .ok (.getfield 21, 3) := by decide +kernel
theorem dX3_copyFrom_33 : decode cX3_copyFrom 33 = .ok (.aload_n 1, 1) := by decide +kernel
theorem dX3_copyFrom_34 : decode cX3_copyFrom 34 = .ok (.getfield 21, 3) := by decide +kernel
theorem dX3_copyFrom_37 : decode cX3_copyFrom 37 = .ok (.invokevirtual 35, 3) := by decide +kernel
theorem dX3_copyFrom_40 : decode cX3_copyFrom 40 = .ok (.aload_n 0, 1) := by decide +kernel
theorem dX3_copyFrom_41 : decode cX3_copyFrom 41 = .ok (.aload_n 1, 1) := by decide +kernel
theorem dX3_copyFrom_42 : decode cX3_copyFrom 42 = .ok (.getfield 39, 3) := by decide +kernel
theorem dX3_copyFrom_45 : decode cX3_copyFrom 45 = .ok (.putfield 39, 3) := by decide +kernel
theorem dX3_copyFrom_48 : decode cX3_copyFrom 48 = .ok (.aload_n 0, 1) := by decide +kernel
theorem dX3_copyFrom_49 : decode cX3_copyFrom 49 = .ok (.aload_n 1, 1) := by decide +kernel
theorem dX3_copyFrom_50 : decode cX3_copyFrom 50 = .ok (.getfield 25, 3) := by decide +kernel
theorem dX3_copyFrom_53 : decode cX3_copyFrom 53 = .ok (.putfield 25, 3) := by decide +kernel
theorem dX3_copyFrom_56 : decode cX3_copyFrom 56 = .ok (.aload_n 0, 1) := by decide +kernel
theorem dX3_copyFrom_57 : decode cX3_copyFrom 57 = .ok (.aload_n 1, 1) := by decide +kernel
theorem dX3_copyFrom_58 : decode cX3_copyFrom 58 = .ok (.getfield 42, 3) := by decide +kernel
theorem dX3_copyFrom_61 : decode cX3_copyFrom 61 = .ok (.putfield 42, 3) := by decide +kernel
theorem dX3_copyFrom_64 : decode cX3_copyFrom 64 = .ok (.return_, 1) := by decide +kernel
theorem dX3_lowerThan_0 : decode cX3_lowerThan 0 = .ok (.iconst 0, 1) := by decide +kernel
theorem dX3_lowerThan_1 : decode cX3_lowerThan 1 = .ok (.istore_n 2, 1) := by decide +kernel
theorem dX3_lowerThan_2 : decode cX3_lowerThan 2 = .ok (.iconst 0, 1) := by decide +kernel
theorem dX3_lowerThan_3 : decode cX3_lowerThan 3 = .ok (.istore_n 3, 1) := by decide +kernel
theorem dX3_lowerThan_4 : decode cX3_lowerThan 4 = .ok (.iload_n 3, 1) := by decide +kernel
theorem dX3_lowerThan_5 : decode cX3_lowerThan 5 = .ok (.aload_n 0, 1) := by decide +kernel
theorem dX3_lowerThan_6 : decode cX3_lowerThan 6 = .ok (.getfield 39, 3) := by decide +kernel
theorem dX3_lowerThan_9 : decode cX3_lowerThan 9 = .ok (.if_icmp .ge 22, 3) := by decide +kernel
theorem dX3_lowerThan_12 : decode cX3_lowerThan 12 = .ok (.aload_n 0, 1) := by decide +kernel
theorem dX3_lowerThan_13 : decode cX3_lowerThan 13 = .ok (.getfield 9, 3) := by decide +kernel
theorem dX3_lowerThan_16 : decode cX3_lowerThan 16 = .ok (.iload_n 3, 1) := by decide +kernel
theorem dX3_lowerThan_17 : decode cX3_lowerThan 17 = .ok (.iaload, 1) := by decide +kernel
theorem dX3_lowerThan_18 : decode cX3_lowerThan 18 = .ok (.iload_n 1, 1) := by decide +kernel
theorem dX3_lowerThan_19 : decode cX3_lowerThan 19 = .ok (.if_icmp .ge 12, 3) := by decide +kernel
theorem dX3_lowerThan_22 : decode cX3_lowerThan 22 = .ok (.iinc 2 1, 3) := by decide +kernel
theorem dX3_lowerThan_25 : decode cX3_lowerThan 25 = .ok (.iinc 3 1, 3) := by decide +kernel
theorem dX3_lowerThan_28 : decode cX3_lowerThan 28 = .ok (.goto (-24), 3) := by decide +kernel
theorem dX3_lowerThan_31 : decode cX3_lowerThan 31 = .ok (.iload_n 2, 1) := by decide +kernel
theorem dX3_lowerThan_32 : decode cX3_lowerThan 32 = .ok (.ireturn, 1) := by decide +kernel
theorem dX3_has_0 : decode cX3_has 0 = .ok (.aload_n 0, 1) := by decide +kernel
theorem dX3_has_1 : decode cX3_has 1 = .ok (.iload_n 1, 1) := by decide +kernel
theorem dX3_has_2 : decode cX3_has 2 = .ok (.invokevirtual 45, 3) := by decide +kernel
theorem dX3_has_5 : decode cX3_has 5 = .ok (.istore_n 2, 1) := by decide +kernel
theorem dX3_has_6 : decode cX3_has 6 = .ok (.iload_n 2, 1) := by decide +kernel
theorem dX3_has_7 : decode cX3_has 7 = .ok (.aload_n 0, 1) := by decide +kernel
theorem dX3_has_8 : decode cX3_has 8 = .ok (.getfield 39, 3) := by decide +kernel
theorem dX3_has_11 : decode cX3_has 11 = .ok (.if_icmp .ge 17, 3) := by decide +kernel
theorem dX3_has_14 : decode cX3_has 14 = .ok (.aload_n 0, 1) := by decide +kernel
theorem dX3_has_15 : decode cX3_has 15 = .ok (.getfield 9, 3) := by decide +kernel
theorem dX3_has_18 : decode cX3_has 18 = .ok (.iload_n 2, 1) := by decide +kernel
theorem dX3_has_19 : decode cX3_has 19 = .ok (.iaload, 1) := by decide +kernel
theorem dX3_has_20 : decode cX3_has 20 = .ok (.iload_n 1, 1) := by decide +kernel
theorem dX3_has_21 : decode cX3_has 21 = .ok (.if_icmp .ne 7, 3) := by decide +kernel
theorem dX3_has_24 : decode cX3_has 24 = .ok (.iconst 1, 1) := by decide +kernel
theorem dX3_has_25 : decode cX3_has 25 = .ok (.goto 4, 3) := by decide +kernel
theorem dX3_has_28 : decode cX3_has 28 = .ok (.iconst 0, 1) := by decide +kernel
theorem dX3_has_29 : decode cX3_has 29 = .ok (.ireturn, 1) := by decide +kernel
theorem dX3_insert_0 : decode cX3_insert 0 = .ok (.aload_n 0, 1) := by decide +kernel
theorem dX3_insert_1 : decode cX3_insert 1 = .ok (.iload_n 1, 1) := by decide +kernel
theorem dX3_insert_2 : decode cX3_insert 2 = .ok (.invokevirtual 45, 3) := by decide +kernel
theorem dX3_insert_5 : decode cX3_insert 5 = .ok (.istore_n 2, 1) := by decide +kernel
theorem dX3_insert_6 : decode cX3_insert 6 = .ok (.aload_n 0, 1) := by decide +kernel
theorem dX3_insert_7 : decode cX3_insert 7 = .ok (.getfield 39, 3) := by decide +kernel
theorem dX3_insert_10 : decode cX3_insert 10 = .ok (.bipush 30, 2) := by decide +kernel
theorem dX3_insert_12 : decode cX3_insert 12 = .ok (.if_icmp .lt 4, 3) := by decide +kernel
theorem dX3_insert_15 : decode cX3_insert 15 = .ok (.return_, 1) := by decide +kernel
theorem dX3_insert_16 : decode cX3_insert 16 = .ok (.aload_n 0, 1) := by decide +kernel
theorem dX3_insert_17 : decode cX3_insert 17 = .ok (.getfield 39, 3) := by decide +kernel
theorem dX3_insert_20 : decode cX3_insert 20 = .ok (.istore_n 3, 1) := by decide +kernel
theorem dX3_insert_21 : decode cX3_insert 21 = .ok (.iload_n 3, 1) := by decide +kernel
theorem dX3_insert_22 : decode cX3_insert 22 = .ok (.iload_n 2, 1) := by decide +kernel
theorem dX3_insert_23 : decode cX3_insert 23 = .ok (.if_icmp .le 23, 3) := by decide +kernel
theorem dX3_insert_26 : decode cX3_insert 26 = .ok (.aload_n 0, 1) := by decide +kernel
theorem dX3_insert_27 : decode cX3_insert 27 = .ok (.getfield 9, 3) := by decide +kernel
theorem dX3_insert_30 : decode cX3_insert 30 = .ok (.iload_n 3, 1) := by decide +kernel
theorem dX3_insert_31 : decode cX3_insert 31 = .ok (.aload_n 0, 1) := by decide +kernel
theorem dX3_insert_32 : decode cX3_insert 32 = .ok (.getfield 9, 3) := by decide +kernel
theorem dX3_insert_35 : decode cX3_insert 35 = .ok (.iload_n 3, 1) := by decide +kernel
theorem dX3_insert_36 : decode cX3_insert 36 = .ok (.iconst 1, 1) := by decide +kernel
theorem dX3_insert_37 : decode cX3_insert 37 = .ok (.isub, 1) := by decide +kernel
theorem dX3_insert_38 : decode cX3_insert 38 = .ok (.iaload, 1) := by decide +kernel
theorem dX3_insert_39 : decode cX3_insert 39 = .ok (.iastore, 1) := by decide +kernel
theorem dX3_insert_40 : decode cX3_insert 40 = .ok (.iinc 3 (-1), 3) := by decide +kernel
theorem dX3_insert_43 : decode cX3_insert 43 = .ok (.goto (-22), 3) := by decide +kernel
theorem dX3_insert_46 : decode cX3_insert 46 = .ok (.aload_n 0, 1) := by decide +kernel
theorem dX3_insert_47 : decode cX3_insert 47 = .ok (.getfield 9, 3) := by decide +kernel
theorem dX3_insert_50 : decode cX3_insert 50 = .ok (.iload_n 2, 1) := by decide +kernel
theorem dX3_insert_51 : decode cX3_insert 51 = .ok (.iload_n 1, 1) := by decide +kernel
theorem dX3_insert_52 : decode cX3_insert 52 = .ok (.iastore, 1) := by decide +kernel
theorem dX3_insert_53 : decode cX3_insert 53 = .ok (.aload_n 0, 1) := by decide +kernel
theorem dX3_insert_54 : decode cX3_insert 54 = .ok (.dup, 1) := by decide +kernel
theorem dX3_insert_55 : decode cX3_insert 55 = .ok (.getfield 39, 3) := by decide +kernel
theorem dX3_insert_58 : decode cX3_insert 58 = .ok (.iconst 1, 1) := by decide +kernel
theorem dX3_insert_59 : decode cX3_insert 59 = .ok (.iadd, 1) := by decide +kernel
theorem dX3_insert_60 : decode cX3_insert 60 = .ok (.putfield 39, 3) := by decide +kernel
theorem dX3_insert_63 : decode cX3_insert 63 = .ok (.return_, 1) := by decide +kernel
theorem dX3_remove_0 : decode cX3_remove 0 = .ok (.aload_n 0, 1) := by decide +kernel
theorem dX3_remove_1 : decode cX3_remove 1 = .ok (.iload_n 1, 1) := by decide +kernel
theorem dX3_remove_2 : decode cX3_remove 2 = .ok (.invokevirtual 49, 3) := by decide +kernel
theorem dX3_remove_5 : decode cX3_remove 5 = .ok (.ifCond .ne 4, 3) := by decide +kernel
theorem dX3_remove_8 : decode cX3_remove 8 = .ok (.return_, 1) := by decide +kernel
theorem dX3_remove_9 : decode cX3_remove 9 = .ok (.aload_n 0, 1) := by decide +kernel
theorem dX3_remove_10 : decode cX3_remove 10 = .ok (.iload_n 1, 1) := by decide +kernel
theorem dX3_remove_11 : decode cX3_remove 11 = .ok (.invokevirtual 45, 3) := by decide +kernel
theorem dX3_remove_14 : decode cX3_remove 14 = .ok (.istore_n 2, 1) := by decide +kernel
theorem dX3_remove_15 : decode cX3_remove 15 = .ok (.iload_n 2, 1) := by decide +kernel
theorem dX3_remove_16 : decode cX3_remove 16 = .ok (.iconst 1, 1) := by decide +kernel
theorem dX3_remove_17 : decode cX3_remove 17 = .ok (.iadd, 1) := by decide +kernel
theorem dX3_remove_18 : decode cX3_remove 18 = .ok (.aload_n 0, 1) := by decide +kernel
theorem dX3_remove_19 : decode cX3_remove 19 = .ok (.getfield 39, 3) := by decide +kernel
theorem dX3_remove_22 : decode cX3_remove 22 = .ok (.if_icmp .ge 23, 3) := by decide +kernel
theorem dX3_remove_25 : decode cX3_remove 25 = .ok (.aload_n 0, 1) := by decide +kernel
theorem dX3_remove_26 : decode cX3_remove 26 = .ok (.getfield 9, 3) := by decide +kernel
theorem dX3_remove_29 : decode cX3_remove 29 = .ok (.iload_n 2, 1) := by decide +kernel
theorem dX3_remove_30 : decode cX3_remove 30 = .ok (.aload_n 0, 1) := by decide +kernel
theorem dX3_remove_31 : decode cX3_remove 31 = .ok (.getfield 9, 3) := by decide +kernel
theorem dX3_remove_34 : decode cX3_remove 34 = .ok (.iload_n 2, 1) := by decide +kernel
theorem dX3_remove_35 : decode cX3_remove 35 = .ok (.iconst 1, 1) := by decide +kernel
theorem dX3_remove_36 : decode cX3_remove 36 = .ok (.iadd, 1) := by decide +kernel
theorem dX3_remove_37 : decode cX3_remove 37 = .ok (.iaload, 1) := by decide +kernel
theorem dX3_remove_38 : decode cX3_remove 38 = .ok (.iastore, 1) := by decide +kernel
theorem dX3_remove_39 : decode cX3_remove 39 = .ok (.iinc 2 1, 3) := by decide +kernel
theorem dX3_remove_42 : decode cX3_remove 42 = .ok (.goto (-27), 3) := by decide +kernel
theorem dX3_remove_45 : decode cX3_remove 45 = .ok (.aload_n 0, 1) := by decide +kernel
theorem dX3_remove_46 : decode cX3_remove 46 = .ok (.dup, 1) := by decide +kernel
theorem dX3_remove_47 : decode cX3_remove 47 = .ok (.getfield 39, 3) := by decide +kernel
theorem dX3_remove_50 : decode cX3_remove 50 = .ok (.iconst 1, 1) := by decide +kernel
theorem dX3_remove_51 : decode cX3_remove 51 = .ok (.isub, 1) := by decide +kernel
theorem dX3_remove_52 : decode cX3_remove 52 = .ok (.putfield 39, 3) := by decide +kernel
theorem dX3_remove_55 : decode cX3_remove 55 = .ok (.return_, 1) := by decide +kernel
theorem dX3_hasVertex_0 : decode cX3_hasVertex 0 = .ok (.iload_n 1, 1) := by decide +kernel
theorem dX3_hasVertex_1 : decode cX3_hasVertex 1 = .ok (.ifCond .lt 17, 3) := by decide +kernel
theorem dX3_hasVertex_4 : decode cX3_hasVertex 4 = .ok (.iload_n 1, 1) := by decide +kernel
theorem dX3_hasVertex_5 : decode cX3_hasVertex 5 = .ok (.iconst 3, 1) := by decide +kernel
theorem dX3_hasVertex_6 : decode cX3_hasVertex 6 = .ok (.aload_n 0, 1) := by decide +kernel
theorem dX3_hasVertex_7 : decode cX3_hasVertex 7 = .ok (.getfield 25, 3) := by decide +kernel
theorem dX3_hasVertex_10 : decode cX3_hasVertex 10 = .ok (.imul, 1) := by decide +kernel
theorem dX3_hasVertex_11 : decode cX3_hasVertex 11 = .ok (.if_icmp .ge 7, 3) := by decide +kernel
theorem dX3_hasVertex_14 : decode cX3_hasVertex 14 = .ok (.iconst 1, 1) := by decide +kernel
theorem dX3_hasVertex_15 : decode cX3_hasVertex 15 = .ok (.goto 4, 3) := by decide +kernel
theorem dX3_hasVertex_18 : decode cX3_hasVertex 18 = .ok (.iconst 0, 1) := by decide +kernel
theorem dX3_hasVertex_19 : decode cX3_hasVertex 19 = .ok (.ireturn, 1) := by decide +kernel
theorem dX3_keyHas_0 : decode cX3_keyHas 0 = .ok (.aload_n 0, 1) := by decide +kernel
theorem dX3_keyHas_1 : decode cX3_keyHas 1 = .ok (.iload_n 2, 1) := by decide +kernel
theorem dX3_keyHas_2 : decode cX3_keyHas 2 = .ok (.invokevirtual 53, 3) := by decide +kernel
theorem dX3_keyHas_5 : decode cX3_keyHas 5 = .ok (.ifCond .eq 36, 3) := by decide +kernel
theorem dX3_keyHas_8 : decode cX3_keyHas 8 = .ok (.aload_n 0, 1) := by decide +kernel
theorem dX3_keyHas_9 : decode cX3_keyHas 9 = .ok (.getfield 25, 3) := by decide +kernel
theorem dX3_keyHas_12 : decode cX3_keyHas 12 = .ok (.ifCond .le 29, 3) := by decide +kernel
theorem dX3_keyHas_15 : decode cX3_keyHas 15 = .ok (.iload_n 1, 1) := by decide +kernel
theorem dX3_keyHas_16 : decode cX3_keyHas 16 = .ok (.iload_n 2, 1) := by decide +kernel
theorem dX3_keyHas_17 : decode cX3_keyHas 17 = .ok (.aload_n 0, 1) := by decide +kernel
theorem dX3_keyHas_18 : decode cX3_keyHas 18 = .ok (.getfield 25, 3) := by decide +kernel
theorem dX3_keyHas_21 : decode cX3_keyHas 21 = .ok (.idiv, 1) := by decide +kernel
theorem dX3_keyHas_22 : decode cX3_keyHas 22 = .ok (.aload_n 0, 1) := by decide +kernel
theorem dX3_keyHas_23 : decode cX3_keyHas 23 = .ok (.getfield 42, 3) := by decide +kernel
theorem dX3_keyHas_26 : decode cX3_keyHas 26 = .ok (.aload_n 0, 1) := by decide +kernel
theorem dX3_keyHas_27 : decode cX3_keyHas 27 = .ok (.getfield 25, 3) := by decide +kernel
theorem dX3_keyHas_30 : decode cX3_keyHas 30 = .ok (.invokestatic 56, 3) := by decide +kernel
theorem dX3_keyHas_33 : decode cX3_keyHas 33 = .ok (.iload_n 2, 1) := by decide +kernel
theorem dX3_keyHas_34 : decode cX3_keyHas 34 = .ok (.if_icmp .ne 7, 3) := by decide +kernel
theorem dX3_keyHas_37 : decode cX3_keyHas 37 = .ok (.iconst 1, 1) := by decide +kernel
theorem dX3_keyHas_38 : decode cX3_keyHas 38 = .ok (.goto 4, 3) := by decide +kernel
theorem dX3_keyHas_41 : decode cX3_keyHas 41 = .ok (.iconst 0, 1) := by decide +kernel
theorem dX3_keyHas_42 : decode cX3_keyHas 42 = .ok (.ireturn, 1) := by decide +kernel
theorem dX3_degreeOf_0 : decode cX3_degreeOf 0 = .ok (.aload_n 0, 1) := by decide +kernel
theorem dX3_degreeOf_1 : decode cX3_degreeOf 1 = .ok (.iload_n 1, 1) := by decide +kernel
theorem dX3_degreeOf_2 : decode cX3_degreeOf 2 = .ok (.invokevirtual 53, 3) := by decide +kernel
theorem dX3_degreeOf_5 : decode cX3_degreeOf 5 = .ok (.ifCond .ne 5, 3) := by decide +kernel
theorem dX3_degreeOf_8 : decode cX3_degreeOf 8 = .ok (.iconst (-1), 1) := by decide +kernel
theorem dX3_degreeOf_9 : decode cX3_degreeOf 9 = .ok (.ireturn, 1) := by decide +kernel
theorem dX3_degreeOf_10 : decode cX3_degreeOf 10 = .ok (.iconst 0, 1) := by decide +kernel
theorem dX3_degreeOf_11 : decode cX3_degreeOf 11 = .ok (.istore_n 2, 1) := by decide +kernel
theorem dX3_degreeOf_12 : decode cX3_degreeOf 12 = .ok (.iconst 0, 1) := by decide +kernel
theorem dX3_degreeOf_13 : decode cX3_degreeOf 13 = .ok (.istore_n 3, 1) := by decide +kernel
theorem dX3_degreeOf_14 : decode cX3_degreeOf 14 = .ok (.iload_n 3, 1) := by decide +kernel
theorem dX3_degreeOf_15 : decode cX3_degreeOf 15 = .ok (.aload_n 0, 1) := by decide +kernel
theorem dX3_degreeOf_16 : decode cX3_degreeOf 16 = .ok (.getfield 39, 3) := by decide +kernel
theorem dX3_degreeOf_19 : decode cX3_degreeOf 19 = .ok (.if_icmp .ge 26, 3) := by decide +kernel
theorem dX3_degreeOf_22 : decode cX3_degreeOf 22 = .ok (.aload_n 0, 1) := by decide +kernel
theorem dX3_degreeOf_23 : decode cX3_degreeOf 23 = .ok (.aload_n 0, 1) := by decide +kernel
theorem dX3_degreeOf_24 : decode cX3_degreeOf 24 = .ok (.getfield 9, 3) := by decide +kernel
theorem dX3_degreeOf_27 : decode cX3_degreeOf 27 = .ok (.iload_n 3, 1) := by decide +kernel
theorem dX3_degreeOf_28 : decode cX3_degreeOf 28 = .ok (.iaload, 1) := by decide +kernel
theorem dX3_degreeOf_29 : decode cX3_degreeOf 29 = .ok (.iload_n 1, 1) := by decide +kernel
theorem dX3_degreeOf_30 : decode cX3_degreeOf 30 = .ok (.invokevirtual 60, 3) := by decide +kernel
theorem dX3_degreeOf_33 : decode cX3_degreeOf 33 = .ok (.ifCond .eq 6, 3) := by decide +kernel
theorem dX3_degreeOf_36 : decode cX3_degreeOf 36 = .ok (.iinc 2 1, 3) := by decide +kernel
theorem dX3_degreeOf_39 : decode cX3_degreeOf 39 = .ok (.iinc 3 1, 3) := by decide +kernel
theorem dX3_degreeOf_42 : decode cX3_degreeOf 42 = .ok (.goto (-28), 3) := by decide +kernel
theorem dX3_degreeOf_45 : decode cX3_degreeOf 45 = .ok (.iload_n 2, 1) := by decide +kernel
theorem dX3_degreeOf_46 : decode cX3_degreeOf 46 = .ok (.ireturn, 1) := by decide +kernel
theorem dX4_init_0 : decode cX4_init 0 = .ok (.aload_n 0, 1) := by decide +kernel
theorem dX4_init_1 : decode cX4_init 1 = .ok (.invokespecial 3, 3) := by decide +kernel
theorem dX4_init_4 : decode cX4_init 4 = .ok (.aload_n 0, 1) := by decide +kernel
theorem dX4_init_5 : decode cX4_init 5 = .ok (.bipush 60, 2) := by decide +kernel
theorem dX4_init_7 : decode cX4_init 7 = .ok (.newarray .int, 2) := by decide +kernel
theorem dX4_init_9 : decode cX4_init 9 = .ok (.putfield 9, 3) := by decide +kernel
theorem dX4_init_12 : decode cX4_init 12 = .ok (.aload_n 0, 1) := by decide +kernel
theorem dX4_init_13 : decode cX4_init 13 = .ok (.bipush 51, 2) := by decide +kernel
theorem dX4_init_15 : decode cX4_init 15 = .ok (.newarray .int, 2) := by decide +kernel
theorem dX4_init_17 : decode cX4_init 17 = .ok (.putfield 15, 3) := by decide +kernel
theorem dX4_init_20 : decode cX4_init 20 = .ok (.return_, 1) := by decide +kernel
theorem dX4_rankOf_0 : decode cX4_rankOf 0 = .ok (.aload_n 0, 1) := by decide +kernel
theorem dX4_rankOf_1 : decode cX4_rankOf 1 = .ok (.aload_n 2, 1) := by decide +kernel
theorem dX4_rankOf_2 : decode cX4_rankOf 2 = .ok (.iload_n 3, 1) := by decide +kernel
theorem dX4_rankOf_3 : decode cX4_rankOf 3 = .ok (.invokevirtual 18, 3) := by decide +kernel
theorem dX4_rankOf_6 : decode cX4_rankOf 6 = .ok (.aload_n 0, 1) := by decide +kernel
theorem dX4_rankOf_7 : decode cX4_rankOf 7 = .ok (.getfield 9, 3) := by decide +kernel
theorem dX4_rankOf_10 : decode cX4_rankOf 10 = .ok (.iconst 0, 1) := by decide +kernel
theorem dX4_rankOf_11 : decode cX4_rankOf 11 = .ok (.iload 4, 2) := by decide +kernel
theorem dX4_rankOf_13 : decode cX4_rankOf 13 = .ok (.iastore, 1) := by decide +kernel
theorem dX4_rankOf_14 : decode cX4_rankOf 14 = .ok (.aload_n 0, 1) := by decide +kernel
theorem dX4_rankOf_15 : decode cX4_rankOf 15 = .ok (.getfield 9, 3) := by decide +kernel
theorem dX4_rankOf_18 : decode cX4_rankOf 18 = .ok (.iconst 1, 1) := by decide +kernel
theorem dX4_rankOf_19 : decode cX4_rankOf 19 = .ok (.aload_n 2, 1) := by decide +kernel
theorem dX4_rankOf_20 : decode cX4_rankOf 20 = .ok (.getfield 22, 3) := by decide +kernel
theorem dX4_rankOf_23 : decode cX4_rankOf 23 = .ok (.ifCond .le 13, 3) := by decide +kernel
theorem dX4_rankOf_26 : decode cX4_rankOf 26 = .ok (.iload 4, 2) := by decide +kernel
theorem dX4_rankOf_28 : decode cX4_rankOf 28 = .ok (.aload_n 2, 1) := by decide +kernel
theorem dX4_rankOf_29 : decode cX4_rankOf 29 = .ok (.getfield 22, 3) := by decide +kernel
theorem dX4_rankOf_32 : decode cX4_rankOf 32 = .ok (.idiv, 1) := by decide +kernel
theorem dX4_rankOf_33 : decode cX4_rankOf 33 = .ok (.goto 4, 3) := by decide +kernel
theorem dX4_rankOf_36 : decode cX4_rankOf 36 = .ok (.iconst (-1), 1) := by decide +kernel
theorem dX4_rankOf_37 : decode cX4_rankOf 37 = .ok (.iastore, 1) := by decide +kernel
theorem dX4_rankOf_38 : decode cX4_rankOf 38 = .ok (.aload_n 0, 1) := by decide +kernel
theorem dX4_rankOf_39 : decode cX4_rankOf 39 = .ok (.getfield 9, 3) := by decide +kernel
theorem dX4_rankOf_42 : decode cX4_rankOf 42 = .ok (.iconst 5, 1) := by decide +kernel
theorem dX4_rankOf_43 : decode cX4_rankOf 43 = .ok (.iload 5, 2) := by decide +kernel
theorem dX4_rankOf_45 : decode cX4_rankOf 45 = .ok (.iastore, 1) := by decide +kernel
theorem dX4_rankOf_46 : decode cX4_rankOf 46 = .ok (.aload_n 0, 1) := by decide +kernel
theorem dX4_rankOf_47 : decode cX4_rankOf 47 = .ok (.getfield 9, 3) := by decide +kernel
theorem dX4_rankOf_50 : decode cX4_rankOf 50 = .ok (.iconst 2, 1) := by decide +kernel
theorem dX4_rankOf_51 : decode cX4_rankOf 51 = .ok (.iconst (-1), 1) := by decide +kernel
theorem dX4_rankOf_52 : decode cX4_rankOf 52 = .ok (.iastore, 1) := by decide +kernel
theorem dX4_rankOf_53 : decode cX4_rankOf 53 = .ok (.iconst 0, 1) := by decide +kernel
theorem dX4_rankOf_54 : decode cX4_rankOf 54 = .ok (.istore 6, 2) := by decide +kernel
theorem dX4_rankOf_56 : decode cX4_rankOf 56 = .ok (.iconst 0, 1) := by decide +kernel
theorem dX4_rankOf_57 : decode cX4_rankOf 57 = .ok (.istore 7, 2) := by decide +kernel
theorem dX4_rankOf_59 : decode cX4_rankOf 59 = .ok (.iload 7, 2) := by decide +kernel
theorem dX4_rankOf_61 : decode cX4_rankOf 61 = .ok (.aload_n 1, 1) := by decide +kernel
theorem dX4_rankOf_62 : decode cX4_rankOf 62 = .ok (.getfield 28, 3) := by decide +kernel
theorem dX4_rankOf_65 : decode cX4_rankOf 65 = .ok (.if_icmp .ge 85, 3) := by decide +kernel
theorem dX4_rankOf_68 : decode cX4_rankOf 68 = .ok (.aload_n 1, 1) := by decide +kernel
theorem dX4_rankOf_69 : decode cX4_rankOf 69 = .ok (.getfield 33, 3) := by decide +kernel
theorem dX4_rankOf_72 : decode cX4_rankOf 72 = .ok (.iload 7, 2) := by decide +kernel
theorem dX4_rankOf_74 : decode cX4_rankOf 74 = .ok (.iaload, 1) := by decide +kernel
theorem dX4_rankOf_75 : decode cX4_rankOf 75 = .ok (.iconst 5, 1) := by decide +kernel
theorem dX4_rankOf_76 : decode cX4_rankOf 76 = .ok (.if_icmp .ne 68, 3) := by decide +kernel
theorem dX4_rankOf_79 : decode cX4_rankOf 79 = .ok (.aload_n 0, 1) := by decide +kernel
theorem dX4_rankOf_80 : decode cX4_rankOf 80 = .ok (.aload_n 1, 1) := by decide +kernel
theorem dX4_rankOf_81 : decode cX4_rankOf 81 = .ok (.aload_n 1, 1) := by decide +kernel
theorem dX4_rankOf_82 : decode cX4_rankOf 82 = .ok (.getfield 36, 3) := by decide +kernel
theorem dX4_rankOf_85 : decode cX4_rankOf 85 = .ok (.iload 7, 2) := by decide +kernel
theorem dX4_rankOf_87 : decode cX4_rankOf 87 = .ok (.iaload, 1) := by decide +kernel
theorem dX4_rankOf_88 : decode cX4_rankOf 88 = .ok (.invokevirtual 39, 3) := by decide +kernel
theorem dX4_rankOf_91 : decode cX4_rankOf 91 = .ok (.iconst 1, 1) := by decide +kernel
theorem dX4_rankOf_92 : decode cX4_rankOf 92 = .ok (.if_icmp .eq 6, 3) := by decide +kernel
theorem dX4_rankOf_95 : decode cX4_rankOf 95 = .ok (.goto 49, 3) := by decide +kernel
theorem dX4_rankOf_98 : decode cX4_rankOf 98 = .ok (.aload_n 0, 1) := by decide +kernel
theorem dX4_rankOf_99 : decode cX4_rankOf 99 = .ok (.aload_n 1, 1) := by decide +kernel
theorem dX4_rankOf_100 : decode cX4_rankOf 100 = .ok (.aload_n 1, 1) := by decide +kernel
theorem dX4_rankOf_101 : decode cX4_rankOf 101 = .ok (.getfield 43, 3) := by decide +kernel
theorem dX4_rankOf_104 : decode cX4_rankOf 104 = .ok (.iload 7, 2) := by decide +kernel
theorem dX4_rankOf_106 : decode cX4_rankOf 106 = .ok (.iaload, 1) := by decide +kernel
theorem dX4_rankOf_107 : decode cX4_rankOf 107 = .ok (.invokevirtual 39, 3) := by decide +kernel
theorem dX4_rankOf_110 : decode cX4_rankOf 110 = .ok (.istore 8, 2) := by decide +kernel
theorem dX4_rankOf_112 : decode cX4_rankOf 112 = .ok (.iload 8, 2) := by decide +kernel
theorem dX4_rankOf_114 : decode cX4_rankOf 114 = .ok (.ldc 46, 2) := by decide +kernel
theorem dX4_rankOf_116 : decode cX4_rankOf 116 = .ok (.if_icmp .eq 28, 3) := by decide +kernel
theorem dX4_rankOf_119 : decode cX4_rankOf 119 = .ok (.iload 8, 2) := by decide +kernel
theorem dX4_rankOf_121 : decode cX4_rankOf 121 = .ok (.ifCond .ge 7, 3) := by decide +kernel
theorem dX4_rankOf_124 : decode cX4_rankOf 124 = .ok (.iconst 0, 1) := by decide +kernel
theorem dX4_rankOf_125 : decode cX4_rankOf 125 = .ok (.goto 17, 3) := by decide +kernel
theorem dX4_rankOf_128 : decode cX4_rankOf 128 = .ok (.iload 8, 2) := by decide +kernel
theorem dX4_rankOf_130 : decode cX4_rankOf 130 = .ok (.bipush 99, 2) := by decide +kernel
theorem dX4_rankOf_132 : decode cX4_rankOf 132 = .ok (.if_icmp .le 8, 3) := by decide +kernel
theorem dX4_rankOf_135 : decode cX4_rankOf 135 = .ok (.bipush 99, 2) := by decide +kernel
theorem dX4_rankOf_137 : decode cX4_rankOf 137 = .ok (.goto 5, 3) := by decide +kernel
theorem dX4_rankOf_140 : decode cX4_rankOf 140 = .ok (.iload 8, 2) := by decide +kernel
theorem dX4_rankOf_142 : decode cX4_rankOf 142 = .ok (.istore 6, 2) := by decide +kernel
theorem dX4_rankOf_144 : decode cX4_rankOf 144 = .ok (.iinc 7 1, 3) := by decide +kernel
theorem dX4_rankOf_147 : decode cX4_rankOf 147 = .ok (.goto (-88), 3) := by decide +kernel
theorem dX4_rankOf_150 : decode cX4_rankOf 150 = .ok (.iload 6, 2) := by decide +kernel
theorem dX4_rankOf_152 : decode cX4_rankOf 152 = .ok (.ireturn, 1) := by decide +kernel
theorem dX4_isBarred_0 : decode cX4_isBarred 0 = .ok (.aload_n 0, 1) := by decide +kernel
theorem dX4_isBarred_1 : decode cX4_isBarred 1 = .ok (.aload_n 2, 1) := by decide +kernel
theorem dX4_isBarred_2 : decode cX4_isBarred 2 = .ok (.aload_n 2, 1) := by decide +kernel
theorem dX4_isBarred_3 : decode cX4_isBarred 3 = .ok (.getfield 47, 3) := by decide +kernel
theorem dX4_isBarred_6 : decode cX4_isBarred 6 = .ok (.invokevirtual 18, 3) := by decide +kernel
theorem dX4_isBarred_9 : decode cX4_isBarred 9 = .ok (.aload_n 0, 1) := by decide +kernel
theorem dX4_isBarred_10 : decode cX4_isBarred 10 = .ok (.getfield 9, 3) := by decide +kernel
theorem dX4_isBarred_13 : decode cX4_isBarred 13 = .ok (.iconst 0, 1) := by decide +kernel
theorem dX4_isBarred_14 : decode cX4_isBarred 14 = .ok (.iconst (-1), 1) := by decide +kernel
theorem dX4_isBarred_15 : decode cX4_isBarred 15 = .ok (.iastore, 1) := by decide +kernel
theorem dX4_isBarred_16 : decode cX4_isBarred 16 = .ok (.aload_n 0, 1) := by decide +kernel
theorem dX4_isBarred_17 : decode cX4_isBarred 17 = .ok (.getfield 9, 3) := by decide +kernel
theorem dX4_isBarred_20 : decode cX4_isBarred 20 = .ok (.iconst 1, 1) := by decide +kernel
theorem dX4_isBarred_21 : decode cX4_isBarred 21 = .ok (.iconst (-1), 1) := by decide +kernel
theorem dX4_isBarred_22 : decode cX4_isBarred 22 = .ok (.iastore, 1) := by decide +kernel
theorem dX4_isBarred_23 : decode cX4_isBarred 23 = .ok (.aload_n 0, 1) := by decide +kernel
theorem dX4_isBarred_24 : decode cX4_isBarred 24 = .ok (.getfield 9, 3) := by decide +kernel
theorem dX4_isBarred_27 : decode cX4_isBarred 27 = .ok (.iconst 5, 1) := by decide +kernel
theorem dX4_isBarred_28 : decode cX4_isBarred 28 = .ok (.iconst (-1), 1) := by decide +kernel
theorem dX4_isBarred_29 : decode cX4_isBarred 29 = .ok (.iastore, 1) := by decide +kernel
theorem dX4_isBarred_30 : decode cX4_isBarred 30 = .ok (.aload_n 0, 1) := by decide +kernel
theorem dX4_isBarred_31 : decode cX4_isBarred 31 = .ok (.getfield 9, 3) := by decide +kernel
theorem dX4_isBarred_34 : decode cX4_isBarred 34 = .ok (.iconst 2, 1) := by decide +kernel
theorem dX4_isBarred_35 : decode cX4_isBarred 35 = .ok (.iload_n 3, 1) := by decide +kernel
theorem dX4_isBarred_36 : decode cX4_isBarred 36 = .ok (.iastore, 1) := by decide +kernel
theorem dX4_isBarred_37 : decode cX4_isBarred 37 = .ok (.iconst 0, 1) := by decide +kernel
theorem dX4_isBarred_38 : decode cX4_isBarred 38 = .ok (.istore 4, 2) := by decide +kernel
theorem dX4_isBarred_40 : decode cX4_isBarred 40 = .ok (.iload 4, 2) := by decide +kernel
theorem dX4_isBarred_42 : decode cX4_isBarred 42 = .ok (.aload_n 1, 1) := by decide +kernel
theorem dX4_isBarred_43 : decode cX4_isBarred 43 = .ok (.getfield 28, 3) := by decide +kernel
theorem dX4_isBarred_46 : decode cX4_isBarred 46 = .ok (.if_icmp .ge 39, 3) := by decide +kernel
theorem dX4_isBarred_49 : decode cX4_isBarred 49 = .ok (.aload_n 1, 1) := by decide +kernel
theorem dX4_isBarred_50 : decode cX4_isBarred 50 = .ok (.getfield 33, 3) := by decide +kernel
theorem dX4_isBarred_53 : decode cX4_isBarred 53 = .ok (.iload 4, 2) := by decide +kernel
theorem dX4_isBarred_55 : decode cX4_isBarred 55 = .ok (.iaload, 1) := by decide +kernel
theorem dX4_isBarred_56 : decode cX4_isBarred 56 = .ok (.bipush 6, 2) := by decide +kernel
theorem dX4_isBarred_58 : decode cX4_isBarred 58 = .ok (.if_icmp .ne 21, 3) := by decide +kernel
theorem dX4_isBarred_61 : decode cX4_isBarred 61 = .ok (.aload_n 0, 1) := by decide +kernel
theorem dX4_isBarred_62 : decode cX4_isBarred 62 = .ok (.aload_n 1, 1) := by decide +kernel
theorem dX4_isBarred_63 : decode cX4_isBarred 63 = .ok (.aload_n 1, 1) := by decide +kernel
theorem dX4_isBarred_64 : decode cX4_isBarred 64 = .ok (.getfield 36, 3) := by decide +kernel
theorem dX4_isBarred_67 : decode cX4_isBarred 67 = .ok (.iload 4, 2) := by decide +kernel
theorem dX4_isBarred_69 : decode cX4_isBarred 69 = .ok (.iaload, 1) := by decide +kernel
theorem dX4_isBarred_70 : decode cX4_isBarred 70 = .ok (.invokevirtual 39, 3) := by decide +kernel
theorem dX4_isBarred_73 : decode cX4_isBarred 73 = .ok (.iconst 1, 1) := by decide +kernel
theorem dX4_isBarred_74 : decode cX4_isBarred 74 = .ok (.if_icmp .ne 5, 3) := by decide +kernel
theorem dX4_isBarred_77 : decode cX4_isBarred 77 = .ok (.iconst 1, 1) := by decide +kernel
theorem dX4_isBarred_78 : decode cX4_isBarred 78 = .ok (.ireturn, 1) := by decide +kernel
theorem dX4_isBarred_79 : decode cX4_isBarred 79 = .ok (.iinc 4 1, 3) := by decide +kernel
theorem dX4_isBarred_82 : decode cX4_isBarred 82 = .ok (.goto (-42), 3) := by decide +kernel
theorem dX4_isBarred_85 : decode cX4_isBarred 85 = .ok (.iconst 0, 1) := by decide +kernel
theorem dX4_isBarred_86 : decode cX4_isBarred 86 = .ok (.ireturn, 1) := by decide +kernel
theorem dX4_tellLaw_0 : decode cX4_tellLaw 0 = .ok (.aload_n 0, 1) := by decide +kernel
theorem dX4_tellLaw_1 : decode cX4_tellLaw 1 = .ok (.getfield 9, 3) := by decide +kernel
theorem dX4_tellLaw_4 : decode cX4_tellLaw 4 = .ok (.iconst 3, 1) := by decide +kernel
theorem dX4_tellLaw_5 : decode cX4_tellLaw 5 = .ok (.iload_n 2, 1) := by decide +kernel
theorem dX4_tellLaw_6 : decode cX4_tellLaw 6 = .ok (.iastore, 1) := by decide +kernel
theorem dX4_tellLaw_7 : decode cX4_tellLaw 7 = .ok (.aload_n 0, 1) := by decide +kernel
theorem dX4_tellLaw_8 : decode cX4_tellLaw 8 = .ok (.getfield 9, 3) := by decide +kernel
theorem dX4_tellLaw_11 : decode cX4_tellLaw 11 = .ok (.bipush 6, 2) := by decide +kernel
theorem dX4_tellLaw_13 : decode cX4_tellLaw 13 = .ok (.aload_n 1, 1) := by decide +kernel
theorem dX4_tellLaw_14 : decode cX4_tellLaw 14 = .ok (.getfield 50, 3) := by decide +kernel
theorem dX4_tellLaw_17 : decode cX4_tellLaw 17 = .ok (.iconst 0, 1) := by decide +kernel
theorem dX4_tellLaw_18 : decode cX4_tellLaw 18 = .ok (.iaload, 1) := by decide +kernel
theorem dX4_tellLaw_19 : decode cX4_tellLaw 19 = .ok (.iastore, 1) := by decide +kernel
theorem dX4_tellLaw_20 : decode cX4_tellLaw 20 = .ok (.aload_n 0, 1) := by decide +kernel
theorem dX4_tellLaw_21 : decode cX4_tellLaw 21 = .ok (.getfield 9, 3) := by decide +kernel
theorem dX4_tellLaw_24 : decode cX4_tellLaw 24 = .ok (.iconst 4, 1) := by decide +kernel
theorem dX4_tellLaw_25 : decode cX4_tellLaw 25 = .ok (.aload_n 1, 1) := by decide +kernel
theorem dX4_tellLaw_26 : decode cX4_tellLaw 26 = .ok (.getfield 50, 3) := by decide +kernel
theorem dX4_tellLaw_29 : decode cX4_tellLaw 29 = .ok (.iconst 2, 1) := by decide +kernel
theorem dX4_tellLaw_30 : decode cX4_tellLaw 30 = .ok (.iaload, 1) := by decide +kernel
theorem dX4_tellLaw_31 : decode cX4_tellLaw 31 = .ok (.iastore, 1) := by decide +kernel
theorem dX4_tellLaw_32 : decode cX4_tellLaw 32 = .ok (.return_, 1) := by decide +kernel
theorem dX4_valueOf_0 : decode cX4_valueOf 0 = .ok (.iconst 0, 1) := by decide +kernel
theorem dX4_valueOf_1 : decode cX4_valueOf 1 = .ok (.istore_n 3, 1) := by decide +kernel
theorem dX4_valueOf_2 : decode cX4_valueOf 2 = .ok (.iload_n 2, 1) := by decide +kernel
theorem dX4_valueOf_3 : decode cX4_valueOf 3 = .ok (.istore 4, 2) := by decide +kernel
theorem dX4_valueOf_5 : decode cX4_valueOf 5 = .ok (.iconst 0, 1) := by decide +kernel
theorem dX4_valueOf_6 : decode cX4_valueOf 6 = .ok (.istore 5, 2) := by decide +kernel
theorem dX4_valueOf_8 : decode cX4_valueOf 8 = .ok (.iload 5, 2) := by decide +kernel
theorem dX4_valueOf_10 : decode cX4_valueOf 10 = .ok (.sipush 460, 3) := by decide +kernel
theorem dX4_valueOf_13 : decode cX4_valueOf 13 = .ok (.if_icmp .ge 263, 3) := by decide +kernel
theorem dX4_valueOf_16 : decode cX4_valueOf 16 = .ok (.iload 4, 2) := by decide +kernel
theorem dX4_valueOf_18 : decode cX4_valueOf 18 = .ok (.ifCond .lt 258, 3) := by decide +kernel
theorem dX4_valueOf_21 : decode cX4_valueOf 21 = .ok (.iload 4, 2) := by decide +kernel
theorem dX4_valueOf_23 : decode cX4_valueOf 23 = .ok (.aload_n 1, 1) := by decide +kernel
theorem dX4_valueOf_24 : decode cX4_valueOf 24 = .ok (.getfield 53, 3) := by decide +kernel
theorem dX4_valueOf_27 : decode cX4_valueOf 27 = .ok (.if_icmp .ge 249, 3) := by decide +kernel
theorem dX4_valueOf_30 : decode cX4_valueOf 30 = .ok (.aload_n 1, 1) := by decide +kernel
theorem dX4_valueOf_31 : decode cX4_valueOf 31 = .ok (.getfield 56, 3) := by decide +kernel
theorem dX4_valueOf_34 : decode cX4_valueOf 34 = .ok (.iload 4, 2) := by decide +kernel
theorem dX4_valueOf_36 : decode cX4_valueOf 36 = .ok (.iaload, 1) := by decide +kernel
theorem dX4_valueOf_37 : decode cX4_valueOf 37 = .ok (.istore 6, 2) := by decide +kernel
theorem dX4_valueOf_39 : decode cX4_valueOf 39 = .ok (.aload_n 1, 1) := by decide +kernel
theorem dX4_valueOf_40 : decode cX4_valueOf 40 = .ok (.getfield 59, 3) := by decide +kernel
theorem dX4_valueOf_43 : decode cX4_valueOf 43 = .ok (.iload 4, 2) := by decide +kernel
theorem dX4_valueOf_45 : decode cX4_valueOf 45 = .ok (.iaload, 1) := by decide +kernel
theorem dX4_valueOf_46 : decode cX4_valueOf 46 = .ok (.istore 7, 2) := by decide +kernel
theorem dX4_valueOf_48 : decode cX4_valueOf 48 = .ok (.iinc 4 1, 3) := by decide +kernel
theorem dX4_valueOf_51 : decode cX4_valueOf 51 = .ok (.iload 6, 2) := by decide +kernel
theorem dX4_valueOf_53 : decode cX4_valueOf 53 = .ok (.ifCond .ne 6, 3) := by decide +kernel
theorem dX4_valueOf_56 : decode cX4_valueOf 56 = .ok (.goto 220, 3) := by decide +kernel
theorem dX4_valueOf_59 : decode cX4_valueOf 59 = .ok (.iload 6, 2) := by decide +kernel
theorem dX4_valueOf_61 : decode cX4_valueOf 61 = .ok (.iconst 1, 1) := by decide +kernel
theorem dX4_valueOf_62 : decode cX4_valueOf 62 = .ok (.if_icmp .eq 9, 3) := by decide +kernel
theorem dX4_valueOf_65 : decode cX4_valueOf 65 = .ok (.iload 6, 2) := by decide +kernel
theorem dX4_valueOf_67 : decode cX4_valueOf 67 = .ok (.iconst 2, 1) := by decide +kernel
theorem dX4_valueOf_68 : decode cX4_valueOf 68 = .ok (.if_icmp .ne 66, 3) := by decide +kernel
theorem dX4_valueOf_71 : decode cX4_valueOf 71 = .ok (.iload_n 3, 1) := by decide +kernel
theorem dX4_valueOf_72 : decode cX4_valueOf 72 = .ok (.aload_n 0, 1) := by decide +kernel
theorem dX4_valueOf_73 : decode cX4_valueOf 73 = .ok (.getfield 15, 3) := by decide +kernel
theorem dX4_valueOf_76 : decode cX4_valueOf 76 = .ok (.arraylength, 1) := by decide +kernel
theorem dX4_valueOf_77 : decode cX4_valueOf 77 = .ok (.if_icmp .ge 24, 3) := by decide +kernel
theorem dX4_valueOf_80 : decode cX4_valueOf 80 = .ok (.iload 7, 2) := by decide +kernel
theorem dX4_valueOf_82 : decode cX4_valueOf 82 = .ok (.ifCond .lt 19, 3) := by decide +kernel
theorem dX4_valueOf_85 : decode cX4_valueOf 85 = .ok (.iload 6, 2) := by decide +kernel
theorem dX4_valueOf_87 : decode cX4_valueOf 87 = .ok (.iconst 2, 1) := by decide +kernel
theorem dX4_valueOf_88 : decode cX4_valueOf 88 = .ok (.if_icmp .ne 16, 3) := by decide +kernel
theorem dX4_valueOf_91 : decode cX4_valueOf 91 = .ok (.iload 7, 2) := by decide +kernel
theorem dX4_valueOf_93 : decode cX4_valueOf 93 = .ok (.aload_n 0, 1) := by decide +kernel
theorem dX4_valueOf_94 : decode cX4_valueOf 94 = .ok (.getfield 9, 3) := by decide +kernel
theorem dX4_valueOf_97 : decode cX4_valueOf 97 = .ok (.arraylength, 1) := by decide +kernel
theorem dX4_valueOf_98 : decode cX4_valueOf 98 = .ok (.if_icmp .lt 6, 3) := by decide +kernel
theorem dX4_valueOf_101 : decode cX4_valueOf 101 = .ok (.ldc 46, 2) := by decide +kernel
theorem dX4_valueOf_103 : decode cX4_valueOf 103 = .ok (.ireturn, 1) := by decide +kernel
theorem dX4_valueOf_104 : decode cX4_valueOf 104 = .ok (.aload_n 0, 1) := by decide +kernel
theorem dX4_valueOf_105 : decode cX4_valueOf 105 = .ok (.getfield 15, 3) := by decide +kernel
theorem dX4_valueOf_108 : decode cX4_valueOf 108 = .ok (.iload_n 3, 1) := by decide +kernel
theorem dX4_valueOf_109 : decode cX4_valueOf 109 = .ok (.iload 6, 2) := by decide +kernel
theorem dX4_valueOf_111 : decode cX4_valueOf 111 = .ok (.iconst 1, 1) := by decide +kernel
theorem dX4_valueOf_112 : decode cX4_valueOf 112 = .ok (.if_icmp .ne 8, 3) := by decide +kernel
theorem dX4_valueOf_115 : decode cX4_valueOf 115 = .ok (.iload 7, 2) := by decide +kernel
theorem dX4_valueOf_117 : decode cX4_valueOf 117 = .ok (.goto 10, 3) := by decide +kernel
theorem dX4_valueOf_120 : decode cX4_valueOf 120 = .ok (.aload_n 0, 1) := by decide +kernel
theorem dX4_valueOf_121 : decode cX4_valueOf 121 = .ok (.getfield 9, 3) := by decide +kernel
theorem dX4_valueOf_124 : decode cX4_valueOf 124 = .ok (.iload 7, 2) := by decide +kernel
theorem dX4_valueOf_126 : decode cX4_valueOf 126 = .ok (.iaload, 1) := by decide +kernel
theorem dX4_valueOf_127 : decode cX4_valueOf 127 = .ok (.iastore, 1) := by decide +kernel
theorem dX4_valueOf_128 : decode cX4_valueOf 128 = .ok (.iinc 3 1, 3) := by decide +kernel
theorem dX4_valueOf_131 : decode cX4_valueOf 131 = .ok (.goto 139, 3) := by decide +kernel
theorem dX4_valueOf_134 : decode cX4_valueOf 134 = .ok (.iload_n 3, 1) := by decide +kernel
theorem dX4_valueOf_135 : decode cX4_valueOf 135 = .ok (.iconst 1, 1) := by decide +kernel
theorem dX4_valueOf_136 : decode cX4_valueOf 136 = .ok (.if_icmp .ge 6, 3) := by decide +kernel
theorem dX4_valueOf_139 : decode cX4_valueOf 139 = .ok (.ldc 46, 2) := by decide +kernel
theorem dX4_valueOf_141 : decode cX4_valueOf 141 = .ok (.ireturn, 1) := by decide +kernel
theorem dX4_valueOf_142 : decode cX4_valueOf 142 = .ok (.iload 6, 2) := by decide +kernel
theorem dX4_valueOf_144 : decode cX4_valueOf 144 = .ok (.iconst 3, 1) := by decide +kernel
theorem dX4_valueOf_145 : decode cX4_valueOf 145 = .ok (.if_icmp .ne 24, 3) := by decide +kernel
theorem dX4_valueOf_148 : decode cX4_valueOf 148 = .ok (.aload_n 0, 1) := by decide +kernel
theorem dX4_valueOf_149 : decode cX4_valueOf 149 = .ok (.getfield 15, 3) := by decide +kernel
theorem dX4_valueOf_152 : decode cX4_valueOf 152 = .ok (.iload_n 3, 1) := by decide +kernel
theorem dX4_valueOf_153 : decode cX4_valueOf 153 = .ok (.iconst 1, 1) := by decide +kernel
theorem dX4_valueOf_154 : decode cX4_valueOf 154 = .ok (.isub, 1) := by decide +kernel
theorem dX4_valueOf_155 : decode cX4_valueOf 155 = .ok (.iconst 1, 1) := by decide +kernel
theorem dX4_valueOf_156 : decode cX4_valueOf 156 = .ok (.aload_n 0, 1) := by decide +kernel
theorem dX4_valueOf_157 : decode cX4_valueOf 157 = .ok (.getfield 15, 3) := by decide +kernel
theorem dX4_valueOf_160 : decode cX4_valueOf 160 = .ok (.iload_n 3, 1) := by decide +kernel
theorem dX4_valueOf_161 : decode cX4_valueOf 161 = .ok (.iconst 1, 1) := by decide +kernel
theorem dX4_valueOf_162 : decode cX4_valueOf 162 = .ok (.isub, 1) := by decide +kernel
theorem dX4_valueOf_163 : decode cX4_valueOf 163 = .ok (.iaload, 1) := by decide +kernel
theorem dX4_valueOf_164 : decode cX4_valueOf 164 = .ok (.isub, 1) := by decide +kernel
theorem dX4_valueOf_165 : decode cX4_valueOf 165 = .ok (.iastore, 1) := by decide +kernel
theorem dX4_valueOf_166 : decode cX4_valueOf 166 = .ok (.goto 104, 3) := by decide +kernel
theorem dX4_valueOf_169 : decode cX4_valueOf 169 = .ok (.iload 6, 2) := by decide +kernel
theorem dX4_valueOf_171 : decode cX4_valueOf 171 = .ok (.iconst 4, 1) := by decide +kernel
theorem dX4_valueOf_172 : decode cX4_valueOf 172 = .ok (.if_icmp .eq 9, 3) := by decide +kernel
theorem dX4_valueOf_175 : decode cX4_valueOf 175 = .ok (.iload 6, 2) := by decide +kernel
theorem dX4_valueOf_177 : decode cX4_valueOf 177 = .ok (.iconst 5, 1) := by decide +kernel
theorem dX4_valueOf_178 : decode cX4_valueOf 178 = .ok (.if_icmp .ne 38, 3) := by decide +kernel
theorem dX4_valueOf_181 : decode cX4_valueOf 181 = .ok (.aload_n 0, 1) := by decide +kernel
theorem dX4_valueOf_182 : decode cX4_valueOf 182 = .ok (.getfield 15, 3) := by decide +kernel
theorem dX4_valueOf_185 : decode cX4_valueOf 185 = .ok (.iload_n 3, 1) := by decide +kernel
theorem dX4_valueOf_186 : decode cX4_valueOf 186 = .ok (.iconst 1, 1) := by decide +kernel
theorem dX4_valueOf_187 : decode cX4_valueOf 187 = .ok (.isub, 1) := by decide +kernel
theorem dX4_valueOf_188 : decode cX4_valueOf 188 = .ok (.iaload, 1) := by decide +kernel
theorem dX4_valueOf_189 : decode cX4_valueOf 189 = .ok (.iload 6, 2) := by decide +kernel
theorem dX4_valueOf_191 : decode cX4_valueOf 191 = .ok (.iconst 5, 1) := by decide +kernel
theorem dX4_valueOf_192 : decode cX4_valueOf 192 = .ok (.if_icmp .ne 7, 3) := by decide +kernel
theorem dX4_valueOf_195 : decode cX4_valueOf 195 = .ok (.iconst 1, 1) := by decide +kernel
theorem dX4_valueOf_196 : decode cX4_valueOf 196 = .ok (.goto 4, 3) := by decide +kernel
theorem dX4_valueOf_199 : decode cX4_valueOf 199 = .ok (.iconst 0, 1) := by decide +kernel
theorem dX4_valueOf_200 : decode cX4_valueOf 200 = .ok (.if_icmp .ne 10, 3) := by decide +kernel
theorem dX4_valueOf_203 : decode cX4_valueOf 203 = .ok (.iload 7, 2) := by decide +kernel
theorem dX4_valueOf_205 : decode cX4_valueOf 205 = .ok (.istore 4, 2) := by decide +kernel
theorem dX4_valueOf_207 : decode cX4_valueOf 207 = .ok (.goto 63, 3) := by decide +kernel
theorem dX4_valueOf_210 : decode cX4_valueOf 210 = .ok (.iinc 3 (-1), 3) := by decide +kernel
theorem dX4_valueOf_213 : decode cX4_valueOf 213 = .ok (.goto 57, 3) := by decide +kernel
theorem dX4_valueOf_216 : decode cX4_valueOf 216 = .ok (.iinc 3 (-1), 3) := by decide +kernel
theorem dX4_valueOf_219 : decode cX4_valueOf 219 = .ok (.iload_n 3, 1) := by decide +kernel
theorem dX4_valueOf_220 : decode cX4_valueOf 220 = .ok (.iconst 1, 1) := by decide +kernel
theorem dX4_valueOf_221 : decode cX4_valueOf 221 = .ok (.if_icmp .ge 8, 3) := by decide +kernel
theorem dX4_valueOf_224 : decode cX4_valueOf 224 = .ok (.ldc 46, 2) := by decide +kernel
theorem dX4_valueOf_226 : decode cX4_valueOf 226 = .ok (.goto 22, 3) := by decide +kernel
theorem dX4_valueOf_229 : decode cX4_valueOf 229 = .ok (.iload 6, 2) := by decide +kernel
theorem dX4_valueOf_231 : decode cX4_valueOf 231 = .ok (.aload_n 0, 1) := by decide +kernel
theorem dX4_valueOf_232 : decode cX4_valueOf 232 = .ok (.getfield 15, 3) := by decide +kernel
theorem dX4_valueOf_235 : decode cX4_valueOf 235 = .ok (.iload_n 3, 1) := by decide +kernel
theorem dX4_valueOf_236 : decode cX4_valueOf 236 = .ok (.iconst 1, 1) := by decide +kernel
theorem dX4_valueOf_237 : decode cX4_valueOf 237 = .ok (.isub, 1) := by decide +kernel
theorem dX4_valueOf_238 : decode cX4_valueOf 238 = .ok (.iaload, 1) := by decide +kernel
theorem dX4_valueOf_239 : decode cX4_valueOf 239 = .ok (.aload_n 0, 1) := by decide +kernel
theorem dX4_valueOf_240 : decode cX4_valueOf 240 = .ok (.getfield 15, 3) := by decide +kernel
theorem dX4_valueOf_243 : decode cX4_valueOf 243 = .ok (.iload_n 3, 1) := by decide +kernel
theorem dX4_valueOf_244 : decode cX4_valueOf 244 = .ok (.iaload, 1) := by decide +kernel
theorem dX4_valueOf_245 : decode cX4_valueOf 245 = .ok (.invokestatic 62, 3) := by decide +kernel
theorem dX4_valueOf_248 : decode cX4_valueOf 248 = .ok (.istore 8, 2) := by decide +kernel
theorem dX4_valueOf_250 : decode cX4_valueOf 250 = .ok (.iload 8, 2) := by decide +kernel
theorem dX4_valueOf_252 : decode cX4_valueOf 252 = .ok (.ldc 46, 2) := by decide +kernel
theorem dX4_valueOf_254 : decode cX4_valueOf 254 = .ok (.if_icmp .ne 6, 3) := by decide +kernel
theorem dX4_valueOf_257 : decode cX4_valueOf 257 = .ok (.ldc 46, 2) := by decide +kernel
theorem dX4_valueOf_259 : decode cX4_valueOf 259 = .ok (.ireturn, 1) := by decide +kernel
theorem dX4_valueOf_260 : decode cX4_valueOf 260 = .ok (.aload_n 0, 1) := by decide +kernel
theorem dX4_valueOf_261 : decode cX4_valueOf 261 = .ok (.getfield 15, 3) := by decide +kernel
theorem dX4_valueOf_264 : decode cX4_valueOf 264 = .ok (.iload_n 3, 1) := by decide +kernel
theorem dX4_valueOf_265 : decode cX4_valueOf 265 = .ok (.iconst 1, 1) := by decide +kernel
theorem dX4_valueOf_266 : decode cX4_valueOf 266 = .ok (.isub, 1) := by decide +kernel
theorem dX4_valueOf_267 : decode cX4_valueOf 267 = .ok (.iload 8, 2) := by decide +kernel
theorem dX4_valueOf_269 : decode cX4_valueOf 269 = .ok (.iastore, 1) := by decide +kernel
theorem dX4_valueOf_270 : decode cX4_valueOf 270 = .ok (.iinc 5 1, 3) := by decide +kernel
theorem dX4_valueOf_273 : decode cX4_valueOf 273 = .ok (.goto (-265), 3) := by decide +kernel
theorem dX4_valueOf_276 : decode cX4_valueOf 276 = .ok (.iload_n 3, 1) := by decide +kernel
theorem dX4_valueOf_277 : decode cX4_valueOf 277 = .ok (.iconst 1, 1) := by decide +kernel
theorem dX4_valueOf_278 : decode cX4_valueOf 278 = .ok (.if_icmp .ne 12, 3) := by decide +kernel
theorem dX4_valueOf_281 : decode cX4_valueOf 281 = .ok (.aload_n 0, 1) := by decide +kernel
theorem dX4_valueOf_282 : decode cX4_valueOf 282 = .ok (.getfield 15, 3) := by decide +kernel
theorem dX4_valueOf_285 : decode cX4_valueOf 285 = .ok (.iconst 0, 1) := by decide +kernel
theorem dX4_valueOf_286 : decode cX4_valueOf 286 = .ok (.iaload, 1) := by decide +kernel
theorem dX4_valueOf_287 : decode cX4_valueOf 287 = .ok (.goto 5, 3) := by decide +kernel
theorem dX4_valueOf_290 : decode cX4_valueOf 290 = .ok (.ldc 46, 2) := by decide +kernel
theorem dX4_valueOf_292 : decode cX4_valueOf 292 = .ok (.ireturn, 1) := by decide +kernel
theorem dX4_combined_0 : decode cX4_combined 0 = .ok (.lconst 0, 1) := by decide +kernel
theorem dX4_combined_1 : decode cX4_combined 1 = .ok (.lstore_n 3, 1) := by decide +kernel
theorem dX4_combined_2 : decode cX4_combined 2 = .ok (.iload_n 0, 1) := by decide +kernel
theorem dX4_combined_3 : decode cX4_combined 3 = .ok (.tableswitch 133 6 13 #[45, 54, 63, 72, 72, 100, 111, 122], 45) := by decide +kernel
theorem dX4_combined_48 : decode cX4_combined 48 = .ok (.iload_n 1, 1) := by decide +kernel
theorem dX4_combined_49 : decode cX4_combined 49 = .ok (.i2l, 1) := by decide +kernel
theorem dX4_combined_50 : decode cX4_combined 50 = .ok (.iload_n 2, 1) := by decide +kernel
theorem dX4_combined_51 : decode cX4_combined 51 = .ok (.i2l, 1) := by decide +kernel
theorem dX4_combined_52 : decode cX4_combined 52 = .ok (.ladd, 1) := by decide +kernel
theorem dX4_combined_53 : decode cX4_combined 53 = .ok (.lstore_n 3, 1) := by decide +kernel
theorem dX4_combined_54 : decode cX4_combined 54 = .ok (.goto 85, 3) := by decide +kernel
theorem dX4_combined_57 : decode cX4_combined 57 = .ok (.iload_n 1, 1) := by decide +kernel
theorem dX4_combined_58 : decode cX4_combined 58 = .ok (.i2l, 1) := by decide +kernel
theorem dX4_combined_59 : decode cX4_combined 59 = .ok (.iload_n 2, 1) := by decide +kernel
theorem dX4_combined_60 : decode cX4_combined 60 = .ok (.i2l, 1) := by decide +kernel
theorem dX4_combined_61 : decode cX4_combined 61 = .ok (.lsub, 1) := by decide +kernel
theorem dX4_combined_62 : decode cX4_combined 62 = .ok (.lstore_n 3, 1) := by decide +kernel
theorem dX4_combined_63 : decode cX4_combined 63 = .ok (.goto 76, 3) := by decide +kernel
theorem dX4_combined_66 : decode cX4_combined 66 = .ok (.iload_n 1, 1) := by decide +kernel
theorem dX4_combined_67 : decode cX4_combined 67 = .ok (.i2l, 1) := by decide +kernel
theorem dX4_combined_68 : decode cX4_combined 68 = .ok (.iload_n 2, 1) := by decide +kernel
theorem dX4_combined_69 : decode cX4_combined 69 = .ok (.i2l, 1) := by decide +kernel
theorem dX4_combined_70 : decode cX4_combined 70 = .ok (.lmul, 1) := by decide +kernel
theorem dX4_combined_71 : decode cX4_combined 71 = .ok (.lstore_n 3, 1) := by decide +kernel
theorem dX4_combined_72 : decode cX4_combined 72 = .ok (.goto 67, 3) := by decide +kernel
theorem dX4_combined_75 : decode cX4_combined 75 = .ok (.iload_n 2, 1) := by decide +kernel
theorem dX4_combined_76 : decode cX4_combined 76 = .ok (.ifCond .ne 6, 3) := by decide +kernel
theorem dX4_combined_79 : decode cX4_combined 79 = .ok (.ldc 46, 2) := by decide +kernel
theorem dX4_combined_81 : decode cX4_combined 81 = .ok (.ireturn, 1) := by decide +kernel
theorem dX4_combined_82 : decode cX4_combined 82 = .ok (.iload_n 0, 1) := by decide +kernel
theorem dX4_combined_83 : decode cX4_combined 83 = .ok (.bipush 9, 2) := by decide +kernel
theorem dX4_combined_85 : decode cX4_combined 85 = .ok (.if_icmp .ne 10, 3) := by decide +kernel
theorem dX4_combined_88 : decode cX4_combined 88 = .ok (.iload_n 1, 1) := by decide +kernel
theorem dX4_combined_89 : decode cX4_combined 89 = .ok (.iload_n 2, 1) := by decide +kernel
theorem dX4_combined_90 : decode cX4_combined 90 = .ok (.idiv, 1) := by decide +kernel
theorem dX4_combined_91 : decode cX4_combined 91 = .ok (.i2l, 1) := by decide +kernel
theorem dX4_combined_92 : decode cX4_combined 92 = .ok (.goto 7, 3) := by decide +kernel
theorem dX4_combined_95 : decode cX4_combined 95 = .ok (.iload_n 1, 1) := by decide +kernel
theorem dX4_combined_96 : decode cX4_combined 96 = .ok (.iload_n 2, 1) := by decide +kernel
theorem dX4_combined_97 : decode cX4_combined 97 = .ok (.irem, 1) := by decide +kernel
theorem dX4_combined_98 : decode cX4_combined 98 = .ok (.i2l, 1) := by decide +kernel
theorem dX4_combined_99 : decode cX4_combined 99 = .ok (.lstore_n 3, 1) := by decide +kernel
theorem dX4_combined_100 : decode cX4_combined 100 = .ok (.goto 39, 3) := by decide +kernel
theorem dX4_combined_103 : decode cX4_combined 103 = .ok (.iload_n 1, 1) := by decide +kernel
theorem dX4_combined_104 : decode cX4_combined 104 = .ok (.iload_n 2, 1) := by decide +kernel
theorem dX4_combined_105 : decode cX4_combined 105 = .ok (.if_icmp .ge 7, 3) := by decide +kernel
theorem dX4_combined_108 : decode cX4_combined 108 = .ok (.iconst 1, 1) := by decide +kernel
theorem dX4_combined_109 : decode cX4_combined 109 = .ok (.goto 4, 3) := by decide +kernel
theorem dX4_combined_112 : decode cX4_combined 112 = .ok (.iconst 0, 1) := by decide +kernel
theorem dX4_combined_113 : decode cX4_combined 113 = .ok (.ireturn, 1) := by decide +kernel
theorem dX4_combined_114 : decode cX4_combined 114 = .ok (.iload_n 1, 1) := by decide +kernel
theorem dX4_combined_115 : decode cX4_combined 115 = .ok (.iload_n 2, 1) := by decide +kernel
theorem dX4_combined_116 : decode cX4_combined 116 = .ok (.if_icmp .le 7, 3) := by decide +kernel
theorem dX4_combined_119 : decode cX4_combined 119 = .ok (.iconst 1, 1) := by decide +kernel
theorem dX4_combined_120 : decode cX4_combined 120 = .ok (.goto 4, 3) := by decide +kernel
theorem dX4_combined_123 : decode cX4_combined 123 = .ok (.iconst 0, 1) := by decide +kernel
theorem dX4_combined_124 : decode cX4_combined 124 = .ok (.ireturn, 1) := by decide +kernel
theorem dX4_combined_125 : decode cX4_combined 125 = .ok (.iload_n 1, 1) := by decide +kernel
theorem dX4_combined_126 : decode cX4_combined 126 = .ok (.iload_n 2, 1) := by decide +kernel
theorem dX4_combined_127 : decode cX4_combined 127 = .ok (.if_icmp .ne 7, 3) := by decide +kernel
theorem dX4_combined_130 : decode cX4_combined 130 = .ok (.iconst 1, 1) := by decide +kernel
theorem dX4_combined_131 : decode cX4_combined 131 = .ok (.goto 4, 3) := by decide +kernel
theorem dX4_combined_134 : decode cX4_combined 134 = .ok (.iconst 0, 1) := by decide +kernel
theorem dX4_combined_135 : decode cX4_combined 135 = .ok (.ireturn, 1) := by decide +kernel
theorem dX4_combined_136 : decode cX4_combined 136 = .ok (.ldc 46, 2) := by decide +kernel
theorem dX4_combined_138 : decode cX4_combined 138 = .ok (.ireturn, 1) := by decide +kernel
theorem dX4_combined_139 : decode cX4_combined 139 = .ok (.lload_n 3, 1) := by decide +kernel
theorem dX4_combined_140 : decode cX4_combined 140 = .ok (.ldc2_w 66, 3) := by decide +kernel
theorem dX4_combined_143 : decode cX4_combined 143 = .ok (.lcmp, 1) := by decide +kernel
theorem dX4_combined_144 : decode cX4_combined 144 = .ok (.ifCond .gt 11, 3) := by decide +kernel
theorem dX4_combined_147 : decode cX4_combined 147 = .ok (.lload_n 3, 1) := by decide +kernel
theorem dX4_combined_148 : decode cX4_combined 148 = .ok (.ldc2_w 68, 3) := by decide +kernel
theorem dX4_combined_151 : decode cX4_combined 151 = .ok (.lcmp, 1) := by decide +kernel
theorem dX4_combined_152 : decode cX4_combined 152 = .ok (.ifCond .ge 8, 3) := by decide +kernel
theorem dX4_combined_155 : decode cX4_combined 155 = .ok (.ldc 46, 2) := by decide +kernel
theorem dX4_combined_157 : decode cX4_combined 157 = .ok (.goto 5, 3) := by decide +kernel
theorem dX4_combined_160 : decode cX4_combined 160 = .ok (.lload_n 3, 1) := by decide +kernel
theorem dX4_combined_161 : decode cX4_combined 161 = .ok (.l2i, 1) := by decide +kernel
theorem dX4_combined_162 : decode cX4_combined 162 = .ok (.ireturn, 1) := by decide +kernel
theorem dX5_init_0 : decode cX5_init 0 = .ok (.aload_n 0, 1) := by decide +kernel
theorem dX5_init_1 : decode cX5_init 1 = .ok (.invokespecial 3, 3) := by decide +kernel
theorem dX5_init_4 : decode cX5_init 4 = .ok (.aload_n 0, 1) := by decide +kernel
theorem dX5_init_5 : decode cX5_init 5 = .ok (.bipush 30, 2) := by decide +kernel
theorem dX5_init_7 : decode cX5_init 7 = .ok (.newarray .int, 2) := by decide +kernel
theorem dX5_init_9 : decode cX5_init 9 = .ok (.putfield 9, 3) := by decide +kernel
theorem dX5_init_12 : decode cX5_init 12 = .ok (.aload_n 0, 1) := by decide +kernel
theorem dX5_init_13 : decode cX5_init 13 = .ok (.bipush 60, 2) := by decide +kernel
theorem dX5_init_15 : decode cX5_init 15 = .ok (.newarray .int, 2) := by decide +kernel
theorem dX5_init_17 : decode cX5_init 17 = .ok (.putfield 15, 3) := by decide +kernel
theorem dX5_init_20 : decode cX5_init 20 = .ok (.aload_n 0, 1) := by decide +kernel
theorem dX5_init_21 : decode cX5_init 21 = .ok (.bipush 60, 2) := by decide +kernel
theorem dX5_init_23 : decode cX5_init 23 = .ok (.newarray .int, 2) := by decide +kernel
theorem dX5_init_25 : decode cX5_init 25 = .ok (.putfield 18, 3) := by decide +kernel
theorem dX5_init_28 : decode cX5_init 28 = .ok (.aload_n 0, 1) := by decide +kernel
theorem dX5_init_29 : decode cX5_init 29 = .ok (.iconst 4, 1) := by decide +kernel
theorem dX5_init_30 : decode cX5_init 30 = .ok (.putfield 21, 3) := by decide +kernel
theorem dX5_init_33 : decode cX5_init 33 = .ok (.return_, 1) := by decide +kernel
theorem dX5_copyFrom_0 : decode cX5_copyFrom 0 = .ok (.aload_n 0, 1) := by decide +kernel
theorem dX5_copyFrom_1 : decode cX5_copyFrom 1 = .ok (.aload_n 1, 1) := by decide +kernel
theorem dX5_copyFrom_2 : decode cX5_copyFrom 2 = .ok (.getfield 25, 3) := by decide +kernel
theorem dX5_copyFrom_5 : decode cX5_copyFrom 5 = .ok (.putfield 25, 3) := by decide +kernel
theorem dX5_copyFrom_8 : decode cX5_copyFrom 8 = .ok (.aload_n 0, 1) := by decide +kernel
theorem dX5_copyFrom_9 : decode cX5_copyFrom 9 = .ok (.getfield 25, 3) := by decide +kernel
theorem dX5_copyFrom_12 : decode cX5_copyFrom 12 = .ok (.ifCond .ne 4, 3) := by decide +kernel
theorem dX5_copyFrom_15 : decode cX5_copyFrom 15 = .ok (.return_, 1) := by decide +kernel
theorem dX5_copyFrom_16 : decode cX5_copyFrom 16 = .ok (.aload_n 1, 1) := by decide +kernel
theorem dX5_copyFrom_17 : decode cX5_copyFrom 17 = .ok (.getfield 9, 3) := by decide +kernel
theorem dX5_copyFrom_20 : decode cX5_copyFrom 20 = .ok (.iconst 0, 1) := by decide +kernel
theorem dX5_copyFrom_21 : decode cX5_copyFrom 21 = .ok (.aload_n 0, 1) := by decide +kernel
theorem dX5_copyFrom_22 : decode cX5_copyFrom 22 = .ok (.getfield 9, 3) := by decide +kernel
theorem dX5_copyFrom_25 : decode cX5_copyFrom 25 = .ok (.iconst 0, 1) := by decide +kernel
theorem dX5_copyFrom_26 : decode cX5_copyFrom 26 = .ok (.bipush 30, 2) := by decide +kernel
theorem dX5_copyFrom_28 : decode cX5_copyFrom 28 = .ok (.invokestatic 29, 3) := by decide +kernel
theorem dX5_copyFrom_31 : decode cX5_copyFrom 31 = .ok (.aload_n 1, 1) := by decide +kernel
theorem dX5_copyFrom_32 : decode cX5_copyFrom 32 = .ok (.getfield 15, 3) := by decide +kernel
theorem dX5_copyFrom_35 : decode cX5_copyFrom 35 = .ok (.iconst 0, 1) := by decide +kernel
theorem dX5_copyFrom_36 : decode cX5_copyFrom 36 = .ok (.aload_n 0, 1) := by decide +kernel
theorem dX5_copyFrom_37 : decode cX5_copyFrom 37 = .ok (.getfield 15, 3) := by decide +kernel
theorem dX5_copyFrom_40 : decode cX5_copyFrom 40 = .ok (.iconst 0, 1) := by decide +kernel
theorem dX5_copyFrom_41 : decode cX5_copyFrom 41 = .ok (.bipush 60, 2) := by decide +kernel
theorem dX5_copyFrom_43 : decode cX5_copyFrom 43 = .ok (.invokestatic 29, 3) := by decide +kernel
theorem dX5_copyFrom_46 : decode cX5_copyFrom 46 = .ok (.aload_n 1, 1) := by decide +kernel
theorem dX5_copyFrom_47 : decode cX5_copyFrom 47 = .ok (.getfield 18, 3) := by decide +kernel
theorem dX5_copyFrom_50 : decode cX5_copyFrom 50 = .ok (.iconst 0, 1) := by decide +kernel
theorem dX5_copyFrom_51 : decode cX5_copyFrom 51 = .ok (.aload_n 0, 1) := by decide +kernel
theorem dX5_copyFrom_52 : decode cX5_copyFrom 52 = .ok (.getfield 18, 3) := by decide +kernel
theorem dX5_copyFrom_55 : decode cX5_copyFrom 55 = .ok (.iconst 0, 1) := by decide +kernel
theorem dX5_copyFrom_56 : decode cX5_copyFrom 56 = .ok (.bipush 60, 2) := by decide +kernel
theorem dX5_copyFrom_58 : decode cX5_copyFrom 58 = .ok (.invokestatic 29, 3) := by decide +kernel
theorem dX5_copyFrom_61 : decode cX5_copyFrom 61 = .ok (.aload_n 0, 1) := by decide +kernel
theorem dX5_copyFrom_62 : decode cX5_copyFrom 62 = .ok (.aload_n 1, 1) := by decide +kernel
theorem dX5_copyFrom_63 : decode cX5_copyFrom 63 = .ok (.getfield 35, 3) := by decide +kernel
theorem dX5_copyFrom_66 : decode cX5_copyFrom 66 = .ok (.putfield 35, 3) := by decide +kernel
theorem dX5_copyFrom_69 : decode cX5_copyFrom 69 = .ok (.aload_n 0, 1) := by decide +kernel
theorem dX5_copyFrom_70 : decode cX5_copyFrom 70 = .ok (.aload_n 1, 1) := by decide +kernel
theorem dX5_copyFrom_71 : decode cX5_copyFrom 71 = .ok (.getfield 21, 3) := by decide +kernel
theorem dX5_copyFrom_74 : decode cX5_copyFrom 74 = .ok (.putfield 21, 3) := by decide +kernel
theorem dX5_copyFrom_77 : decode cX5_copyFrom 77 = .ok (.aload_n 0, 1) := by decide +kernel
theorem dX5_copyFrom_78 : decode cX5_copyFrom 78 = .ok (.aload_n 1, 1) := by decide +kernel
theorem dX5_copyFrom_79 : decode cX5_copyFrom 79 = .ok (.getfield 38, 3) := by decide +kernel
theorem dX5_copyFrom_82 : decode cX5_copyFrom 82 = .ok (.putfield 38, 3) := by decide +kernel
theorem dX5_copyFrom_85 : decode cX5_copyFrom 85 = .ok (.return_, 1) := by decide +kernel
theorem dX5_solve_0 : decode cX5_solve 0 = .ok (.aload_n 0, 1) := by decide +kernel
theorem dX5_solve_1 : decode cX5_solve 1 = .ok (.iconst 1, 1) := by decide +kernel
theorem dX5_solve_2 : decode cX5_solve 2 = .ok (.putfield 25, 3) := by decide +kernel
theorem dX5_solve_5 : decode cX5_solve 5 = .ok (.aload_n 0, 1) := by decide +kernel
theorem dX5_solve_6 : decode cX5_solve 6 = .ok (.aload_n 1, 1) := by decide +kernel
theorem dX5_solve_7 : decode cX5_solve 7 = .ok (.getfield 41, 3) := by decide +kernel
theorem dX5_solve_10 : decode cX5_solve 10 = .ok (.putfield 35, 3) := by decide +kernel
theorem dX5_solve_13 : decode cX5_solve 13 = .ok (.aload_n 0, 1) := by decide +kernel
theorem dX5_solve_14 : decode cX5_solve 14 = .ok (.aload_n 1, 1) := by decide +kernel
theorem dX5_solve_15 : decode cX5_solve 15 = .ok (.getfield 44, 3) := by decide +kernel
theorem dX5_solve_18 : decode cX5_solve 18 = .ok (.putfield 21, 3) := by decide +kernel
theorem dX5_solve_21 : decode cX5_solve 21 = .ok (.aload_n 0, 1) := by decide +kernel
theorem dX5_solve_22 : decode cX5_solve 22 = .ok (.aload_n 1, 1) := by decide +kernel
theorem dX5_solve_23 : decode cX5_solve 23 = .ok (.getfield 45, 3) := by decide +kernel
theorem dX5_solve_26 : decode cX5_solve 26 = .ok (.putfield 38, 3) := by decide +kernel
theorem dX5_solve_29 : decode cX5_solve 29 = .ok (.aload_n 1, 1) := by decide +kernel
theorem dX5_solve_30 : decode cX5_solve 30 = .ok (.getfield 46, 3) := by decide +kernel
theorem dX5_solve_33 : decode cX5_solve 33 = .ok (.iconst 0, 1) := by decide +kernel
theorem dX5_solve_34 : decode cX5_solve 34 = .ok (.aload_n 0, 1) := by decide +kernel
theorem dX5_solve_35 : decode cX5_solve 35 = .ok (.getfield 9, 3) := by decide +kernel
theorem dX5_solve_38 : decode cX5_solve 38 = .ok (.iconst 0, 1) := by decide +kernel
theorem dX5_solve_39 : decode cX5_solve 39 = .ok (.bipush 30, 2) := by decide +kernel
theorem dX5_solve_41 : decode cX5_solve 41 = .ok (.invokestatic 29, 3) := by decide +kernel
theorem dX5_solve_44 : decode cX5_solve 44 = .ok (.aload_n 0, 1) := by decide +kernel
theorem dX5_solve_45 : decode cX5_solve 45 = .ok (.getfield 15, 3) := by decide +kernel
theorem dX5_solve_48 : decode cX5_solve 48 = .ok (.iconst 3, 1) := by decide +kernel
theorem dX5_solve_49 : decode cX5_solve 49 = .ok (.invokestatic 47, 3) := by decide +kernel
theorem dX5_solve_52 : decode cX5_solve 52 = .ok (.aload_n 0, 1) := by decide +kernel
theorem dX5_solve_53 : decode cX5_solve 53 = .ok (.getfield 18, 3) := by decide +kernel
theorem dX5_solve_56 : decode cX5_solve 56 = .ok (.iconst 0, 1) := by decide +kernel
theorem dX5_solve_57 : decode cX5_solve 57 = .ok (.invokestatic 47, 3) := by decide +kernel
theorem dX5_solve_60 : decode cX5_solve 60 = .ok (.aload_n 2, 1) := by decide +kernel
theorem dX5_solve_61 : decode cX5_solve 61 = .ok (.getfield 53, 3) := by decide +kernel
theorem dX5_solve_64 : decode cX5_solve 64 = .ok (.iconst 1, 1) := by decide +kernel
theorem dX5_solve_65 : decode cX5_solve 65 = .ok (.isub, 1) := by decide +kernel
theorem dX5_solve_66 : decode cX5_solve 66 = .ok (.istore_n 3, 1) := by decide +kernel
theorem dX5_solve_67 : decode cX5_solve 67 = .ok (.iload_n 3, 1) := by decide +kernel
theorem dX5_solve_68 : decode cX5_solve 68 = .ok (.ifCond .lt 29, 3) := by decide +kernel
theorem dX5_solve_71 : decode cX5_solve 71 = .ok (.aload_n 0, 1) := by decide +kernel
theorem dX5_solve_72 : decode cX5_solve 72 = .ok (.aload_n 2, 1) := by decide +kernel
theorem dX5_solve_73 : decode cX5_solve 73 = .ok (.getfield 58, 3) := by decide +kernel
theorem dX5_solve_76 : decode cX5_solve 76 = .ok (.iload_n 3, 1) := by decide +kernel
theorem dX5_solve_77 : decode cX5_solve 77 = .ok (.iaload, 1) := by decide +kernel
theorem dX5_solve_78 : decode cX5_solve 78 = .ok (.aload_n 2, 1) := by decide +kernel
theorem dX5_solve_79 : decode cX5_solve 79 = .ok (.getfield 61, 3) := by decide +kernel
theorem dX5_solve_82 : decode cX5_solve 82 = .ok (.iload_n 3, 1) := by decide +kernel
theorem dX5_solve_83 : decode cX5_solve 83 = .ok (.iaload, 1) := by decide +kernel
theorem dX5_solve_84 : decode cX5_solve 84 = .ok (.aload_n 2, 1) := by decide +kernel
theorem dX5_solve_85 : decode cX5_solve 85 = .ok (.getfield 64, 3) := by decide +kernel
theorem dX5_solve_88 : decode cX5_solve 88 = .ok (.invokevirtual 67, 3) := by decide +kernel
theorem dX5_solve_91 : decode cX5_solve 91 = .ok (.iinc 3 (-1), 3) := by decide +kernel
theorem dX5_solve_94 : decode cX5_solve 94 = .ok (.goto (-27), 3) := by decide +kernel
theorem dX5_solve_97 : decode cX5_solve 97 = .ok (.return_, 1) := by decide +kernel
theorem dX5_settle_0 : decode cX5_settle 0 = .ok (.iconst 0, 1) := by decide +kernel
theorem dX5_settle_1 : decode cX5_settle 1 = .ok (.istore 4, 2) := by decide +kernel
theorem dX5_settle_3 : decode cX5_settle 3 = .ok (.iconst 0, 1) := by decide +kernel
theorem dX5_settle_4 : decode cX5_settle 4 = .ok (.istore 5, 2) := by decide +kernel
theorem dX5_settle_6 : decode cX5_settle 6 = .ok (.iconst 0, 1) := by decide +kernel
theorem dX5_settle_7 : decode cX5_settle 7 = .ok (.istore 6, 2) := by decide +kernel
theorem dX5_settle_9 : decode cX5_settle 9 = .ok (.iload 6, 2) := by decide +kernel
theorem dX5_settle_11 : decode cX5_settle 11 = .ok (.iconst 3, 1) := by decide +kernel
theorem dX5_settle_12 : decode cX5_settle 12 = .ok (.if_icmp .ge 49, 3) := by decide +kernel
theorem dX5_settle_15 : decode cX5_settle 15 = .ok (.aload_n 3, 1) := by decide +kernel
theorem dX5_settle_16 : decode cX5_settle 16 = .ok (.iconst 3, 1) := by decide +kernel
theorem dX5_settle_17 : decode cX5_settle 17 = .ok (.iload_n 2, 1) := by decide +kernel
theorem dX5_settle_18 : decode cX5_settle 18 = .ok (.imul, 1) := by decide +kernel
theorem dX5_settle_19 : decode cX5_settle 19 = .ok (.iload 6, 2) := by decide +kernel
theorem dX5_settle_21 : decode cX5_settle 21 = .ok (.iadd, 1) := by decide +kernel
theorem dX5_settle_22 : decode cX5_settle 22 = .ok (.iaload, 1) := by decide +kernel
theorem dX5_settle_23 : decode cX5_settle 23 = .ok (.istore 7, 2) := by decide +kernel
theorem dX5_settle_25 : decode cX5_settle 25 = .ok (.iload 7, 2) := by decide +kernel
theorem dX5_settle_27 : decode cX5_settle 27 = .ok (.iload_n 1, 1) := by decide +kernel
theorem dX5_settle_28 : decode cX5_settle 28 = .ok (.if_icmp .eq 27, 3) := by decide +kernel
theorem dX5_settle_31 : decode cX5_settle 31 = .ok (.iload 4, 2) := by decide +kernel
theorem dX5_settle_33 : decode cX5_settle 33 = .ok (.aload_n 0, 1) := by decide +kernel
theorem dX5_settle_34 : decode cX5_settle 34 = .ok (.getfield 15, 3) := by decide +kernel
theorem dX5_settle_37 : decode cX5_settle 37 = .ok (.iload 7, 2) := by decide +kernel
theorem dX5_settle_39 : decode cX5_settle 39 = .ok (.iaload, 1) := by decide +kernel
theorem dX5_settle_40 : decode cX5_settle 40 = .ok (.iadd, 1) := by decide +kernel
theorem dX5_settle_41 : decode cX5_settle 41 = .ok (.istore 4, 2) := by decide +kernel
theorem dX5_settle_43 : decode cX5_settle 43 = .ok (.iload 5, 2) := by decide +kernel
theorem dX5_settle_45 : decode cX5_settle 45 = .ok (.aload_n 0, 1) := by decide +kernel
theorem dX5_settle_46 : decode cX5_settle 46 = .ok (.getfield 18, 3) := by decide +kernel
theorem dX5_settle_49 : decode cX5_settle 49 = .ok (.iload 7, 2) := by decide +kernel
theorem dX5_settle_51 : decode cX5_settle 51 = .ok (.iaload, 1) := by decide +kernel
theorem dX5_settle_52 : decode cX5_settle 52 = .ok (.iadd, 1) := by decide +kernel
theorem dX5_settle_53 : decode cX5_settle 53 = .ok (.istore 5, 2) := by decide +kernel
theorem dX5_settle_55 : decode cX5_settle 55 = .ok (.iinc 6 1, 3) := by decide +kernel
theorem dX5_settle_58 : decode cX5_settle 58 = .ok (.goto (-49), 3) := by decide +kernel
theorem dX5_settle_61 : decode cX5_settle 61 = .ok (.aload_n 0, 1) := by decide +kernel
theorem dX5_settle_62 : decode cX5_settle 62 = .ok (.getfield 21, 3) := by decide +kernel
theorem dX5_settle_65 : decode cX5_settle 65 = .ok (.ifCond .le 46, 3) := by decide +kernel
theorem dX5_settle_68 : decode cX5_settle 68 = .ok (.aload_n 0, 1) := by decide +kernel
theorem dX5_settle_69 : decode cX5_settle 69 = .ok (.getfield 35, 3) := by decide +kernel
theorem dX5_settle_72 : decode cX5_settle 72 = .ok (.ifCond .le 39, 3) := by decide +kernel
theorem dX5_settle_75 : decode cX5_settle 75 = .ok (.aload_n 0, 1) := by decide +kernel
theorem dX5_settle_76 : decode cX5_settle 76 = .ok (.getfield 15, 3) := by decide +kernel
theorem dX5_settle_79 : decode cX5_settle 79 = .ok (.iload_n 1, 1) := by decide +kernel
theorem dX5_settle_80 : decode cX5_settle 80 = .ok (.iload_n 1, 1) := by decide +kernel
theorem dX5_settle_81 : decode cX5_settle 81 = .ok (.aload_n 0, 1) := by decide +kernel
theorem dX5_settle_82 : decode cX5_settle 82 = .ok (.getfield 21, 3) := by decide +kernel
theorem dX5_settle_85 : decode cX5_settle 85 = .ok (.idiv, 1) := by decide +kernel
theorem dX5_settle_86 : decode cX5_settle 86 = .ok (.iload 4, 2) := by decide +kernel
theorem dX5_settle_88 : decode cX5_settle 88 = .ok (.isub, 1) := by decide +kernel
theorem dX5_settle_89 : decode cX5_settle 89 = .ok (.iconst 3, 1) := by decide +kernel
theorem dX5_settle_90 : decode cX5_settle 90 = .ok (.invokestatic 71, 3) := by decide +kernel
theorem dX5_settle_93 : decode cX5_settle 93 = .ok (.iastore, 1) := by decide +kernel
theorem dX5_settle_94 : decode cX5_settle 94 = .ok (.aload_n 0, 1) := by decide +kernel
theorem dX5_settle_95 : decode cX5_settle 95 = .ok (.getfield 18, 3) := by decide +kernel
theorem dX5_settle_98 : decode cX5_settle 98 = .ok (.iload_n 1, 1) := by decide +kernel
theorem dX5_settle_99 : decode cX5_settle 99 = .ok (.iload_n 2, 1) := by decide +kernel
theorem dX5_settle_100 : decode cX5_settle 100 = .ok (.iload 5, 2) := by decide +kernel
theorem dX5_settle_102 : decode cX5_settle 102 = .ok (.isub, 1) := by decide +kernel
theorem dX5_settle_103 : decode cX5_settle 103 = .ok (.aload_n 0, 1) := by decide +kernel
theorem dX5_settle_104 : decode cX5_settle 104 = .ok (.getfield 35, 3) := by decide +kernel
theorem dX5_settle_107 : decode cX5_settle 107 = .ok (.invokestatic 71, 3) := by decide +kernel
theorem dX5_settle_110 : decode cX5_settle 110 = .ok (.iastore, 1) := by decide +kernel
theorem dX5_settle_111 : decode cX5_settle 111 = .ok (.return_, 1) := by decide +kernel
theorem dX5_hadKey_0 : decode cX5_hadKey 0 = .ok (.iconst 0, 1) := by decide +kernel
theorem dX5_hadKey_1 : decode cX5_hadKey 1 = .ok (.istore_n 2, 1) := by decide +kernel
theorem dX5_hadKey_2 : decode cX5_hadKey 2 = .ok (.iload_n 2, 1) := by decide +kernel
theorem dX5_hadKey_3 : decode cX5_hadKey 3 = .ok (.aload_n 0, 1) := by decide +kernel
theorem dX5_hadKey_4 : decode cX5_hadKey 4 = .ok (.getfield 35, 3) := by decide +kernel
theorem dX5_hadKey_7 : decode cX5_hadKey 7 = .ok (.if_icmp .ge 21, 3) := by decide +kernel
theorem dX5_hadKey_10 : decode cX5_hadKey 10 = .ok (.aload_n 0, 1) := by decide +kernel
theorem dX5_hadKey_11 : decode cX5_hadKey 11 = .ok (.getfield 9, 3) := by decide +kernel
theorem dX5_hadKey_14 : decode cX5_hadKey 14 = .ok (.iload_n 2, 1) := by decide +kernel
theorem dX5_hadKey_15 : decode cX5_hadKey 15 = .ok (.iaload, 1) := by decide +kernel
theorem dX5_hadKey_16 : decode cX5_hadKey 16 = .ok (.iload_n 1, 1) := by decide +kernel
theorem dX5_hadKey_17 : decode cX5_hadKey 17 = .ok (.if_icmp .ne 5, 3) := by decide +kernel
theorem dX5_hadKey_20 : decode cX5_hadKey 20 = .ok (.iconst 1, 1) := by decide +kernel
theorem dX5_hadKey_21 : decode cX5_hadKey 21 = .ok (.ireturn, 1) := by decide +kernel
theorem dX5_hadKey_22 : decode cX5_hadKey 22 = .ok (.iinc 2 1, 3) := by decide +kernel
theorem dX5_hadKey_25 : decode cX5_hadKey 25 = .ok (.goto (-23), 3) := by decide +kernel
theorem dX5_hadKey_28 : decode cX5_hadKey 28 = .ok (.iconst 0, 1) := by decide +kernel
theorem dX5_hadKey_29 : decode cX5_hadKey 29 = .ok (.ireturn, 1) := by decide +kernel
theorem dX5_ownVertex_0 : decode cX5_ownVertex 0 = .ok (.iconst 0, 1) := by decide +kernel
theorem dX5_ownVertex_1 : decode cX5_ownVertex 1 = .ok (.istore_n 2, 1) := by decide +kernel
theorem dX5_ownVertex_2 : decode cX5_ownVertex 2 = .ok (.iconst 0, 1) := by decide +kernel
theorem dX5_ownVertex_3 : decode cX5_ownVertex 3 = .ok (.istore_n 3, 1) := by decide +kernel
theorem dX5_ownVertex_4 : decode cX5_ownVertex 4 = .ok (.iload_n 3, 1) := by decide +kernel
theorem dX5_ownVertex_5 : decode cX5_ownVertex 5 = .ok (.iconst 3, 1) := by decide +kernel
theorem dX5_ownVertex_6 : decode cX5_ownVertex 6 = .ok (.if_icmp .ge 30, 3) := by decide +kernel
theorem dX5_ownVertex_9 : decode cX5_ownVertex 9 = .ok (.iload_n 2, 1) := by decide +kernel
theorem dX5_ownVertex_10 : decode cX5_ownVertex 10 = .ok (.aload_n 0, 1) := by decide +kernel
theorem dX5_ownVertex_11 : decode cX5_ownVertex 11 = .ok (.getfield 15, 3) := by decide +kernel
theorem dX5_ownVertex_14 : decode cX5_ownVertex 14 = .ok (.iload_n 1, 1) := by decide +kernel
theorem dX5_ownVertex_15 : decode cX5_ownVertex 15 = .ok (.iload_n 3, 1) := by decide +kernel
theorem dX5_ownVertex_16 : decode cX5_ownVertex 16 = .ok (.aload_n 0, 1) := by decide +kernel
theorem dX5_ownVertex_17 : decode cX5_ownVertex 17 = .ok (.getfield 38, 3) := by decide +kernel
theorem dX5_ownVertex_20 : decode cX5_ownVertex 20 = .ok (.aload_n 0, 1) := by decide +kernel
theorem dX5_ownVertex_21 : decode cX5_ownVertex 21 = .ok (.getfield 21, 3) := by decide +kernel
theorem dX5_ownVertex_24 : decode cX5_ownVertex 24 = .ok (.invokestatic 77, 3) := by decide +kernel
theorem dX5_ownVertex_27 : decode cX5_ownVertex 27 = .ok (.iaload, 1) := by decide +kernel
theorem dX5_ownVertex_28 : decode cX5_ownVertex 28 = .ok (.iadd, 1) := by decide +kernel
theorem dX5_ownVertex_29 : decode cX5_ownVertex 29 = .ok (.istore_n 2, 1) := by decide +kernel
theorem dX5_ownVertex_30 : decode cX5_ownVertex 30 = .ok (.iinc 3 1, 3) := by decide +kernel
theorem dX5_ownVertex_33 : decode cX5_ownVertex 33 = .ok (.goto (-29), 3) := by decide +kernel
theorem dX5_ownVertex_36 : decode cX5_ownVertex 36 = .ok (.iload_n 1, 1) := by decide +kernel
theorem dX5_ownVertex_37 : decode cX5_ownVertex 37 = .ok (.iload_n 2, 1) := by decide +kernel
theorem dX5_ownVertex_38 : decode cX5_ownVertex 38 = .ok (.iconst 3, 1) := by decide +kernel
theorem dX5_ownVertex_39 : decode cX5_ownVertex 39 = .ok (.irem, 1) := by decide +kernel
theorem dX5_ownVertex_40 : decode cX5_ownVertex 40 = .ok (.aload_n 0, 1) := by decide +kernel
theorem dX5_ownVertex_41 : decode cX5_ownVertex 41 = .ok (.getfield 38, 3) := by decide +kernel
theorem dX5_ownVertex_44 : decode cX5_ownVertex 44 = .ok (.aload_n 0, 1) := by decide +kernel
theorem dX5_ownVertex_45 : decode cX5_ownVertex 45 = .ok (.getfield 21, 3) := by decide +kernel
theorem dX5_ownVertex_48 : decode cX5_ownVertex 48 = .ok (.invokestatic 77, 3) := by decide +kernel
theorem dX5_ownVertex_51 : decode cX5_ownVertex 51 = .ok (.ireturn, 1) := by decide +kernel
theorem dX5_numberOf_0 : decode cX5_numberOf 0 = .ok (.aload_n 0, 1) := by decide +kernel
theorem dX5_numberOf_1 : decode cX5_numberOf 1 = .ok (.getfield 25, 3) := by decide +kernel
theorem dX5_numberOf_4 : decode cX5_numberOf 4 = .ok (.ifCond .eq 15, 3) := by decide +kernel
theorem dX5_numberOf_7 : decode cX5_numberOf 7 = .ok (.aload_n 0, 1) := by decide +kernel
theorem dX5_numberOf_8 : decode cX5_numberOf 8 = .ok (.aload_n 0, 1) := by decide +kernel
theorem dX5_numberOf_9 : decode cX5_numberOf 9 = .ok (.iload_n 1, 1) := by decide +kernel
theorem dX5_numberOf_10 : decode cX5_numberOf 10 = .ok (.invokevirtual 81, 3) := by decide +kernel
theorem dX5_numberOf_13 : decode cX5_numberOf 13 = .ok (.invokevirtual 85, 3) := by decide +kernel
theorem dX5_numberOf_16 : decode cX5_numberOf 16 = .ok (.goto 4, 3) := by decide +kernel
theorem dX5_numberOf_19 : decode cX5_numberOf 19 = .ok (.iconst (-1), 1) := by decide +kernel
theorem dX5_numberOf_20 : decode cX5_numberOf 20 = .ok (.ireturn, 1) := by decide +kernel
theorem dX5_placeOf_0 : decode cX5_placeOf 0 = .ok (.iconst 0, 1) := by decide +kernel
theorem dX5_placeOf_1 : decode cX5_placeOf 1 = .ok (.istore_n 2, 1) := by decide +kernel
theorem dX5_placeOf_2 : decode cX5_placeOf 2 = .ok (.iconst 0, 1) := by decide +kernel
theorem dX5_placeOf_3 : decode cX5_placeOf 3 = .ok (.istore_n 3, 1) := by decide +kernel
theorem dX5_placeOf_4 : decode cX5_placeOf 4 = .ok (.iload_n 3, 1) := by decide +kernel
theorem dX5_placeOf_5 : decode cX5_placeOf 5 = .ok (.iconst 3, 1) := by decide +kernel
theorem dX5_placeOf_6 : decode cX5_placeOf 6 = .ok (.if_icmp .ge 30, 3) := by decide +kernel
theorem dX5_placeOf_9 : decode cX5_placeOf 9 = .ok (.iload_n 2, 1) := by decide +kernel
theorem dX5_placeOf_10 : decode cX5_placeOf 10 = .ok (.aload_n 0, 1) := by decide +kernel
theorem dX5_placeOf_11 : decode cX5_placeOf 11 = .ok (.getfield 18, 3) := by decide +kernel
theorem dX5_placeOf_14 : decode cX5_placeOf 14 = .ok (.iload_n 1, 1) := by decide +kernel
theorem dX5_placeOf_15 : decode cX5_placeOf 15 = .ok (.iload_n 3, 1) := by decide +kernel
theorem dX5_placeOf_16 : decode cX5_placeOf 16 = .ok (.aload_n 0, 1) := by decide +kernel
theorem dX5_placeOf_17 : decode cX5_placeOf 17 = .ok (.getfield 38, 3) := by decide +kernel
theorem dX5_placeOf_20 : decode cX5_placeOf 20 = .ok (.aload_n 0, 1) := by decide +kernel
theorem dX5_placeOf_21 : decode cX5_placeOf 21 = .ok (.getfield 21, 3) := by decide +kernel
theorem dX5_placeOf_24 : decode cX5_placeOf 24 = .ok (.invokestatic 77, 3) := by decide +kernel
theorem dX5_placeOf_27 : decode cX5_placeOf 27 = .ok (.iaload, 1) := by decide +kernel
theorem dX5_placeOf_28 : decode cX5_placeOf 28 = .ok (.iadd, 1) := by decide +kernel
theorem dX5_placeOf_29 : decode cX5_placeOf 29 = .ok (.istore_n 2, 1) := by decide +kernel
theorem dX5_placeOf_30 : decode cX5_placeOf 30 = .ok (.iinc 3 1, 3) := by decide +kernel
theorem dX5_placeOf_33 : decode cX5_placeOf 33 = .ok (.goto (-29), 3) := by decide +kernel
theorem dX5_placeOf_36 : decode cX5_placeOf 36 = .ok (.aload_n 0, 1) := by decide +kernel
theorem dX5_placeOf_37 : decode cX5_placeOf 37 = .ok (.getfield 35, 3) := by decide +kernel
theorem dX5_placeOf_40 : decode cX5_placeOf 40 = .ok (.ifCond .le 12, 3) := by decide +kernel
theorem dX5_placeOf_43 : decode cX5_placeOf 43 = .ok (.iload_n 2, 1) := by decide +kernel
theorem dX5_placeOf_44 : decode cX5_placeOf 44 = .ok (.aload_n 0, 1) := by decide +kernel
theorem dX5_placeOf_45 : decode cX5_placeOf 45 = .ok (.getfield 35, 3) := by decide +kernel
theorem dX5_placeOf_48 : decode cX5_placeOf 48 = .ok (.irem, 1) := by decide +kernel
theorem dX5_placeOf_49 : decode cX5_placeOf 49 = .ok (.goto 4, 3) := by decide +kernel
theorem dX5_placeOf_52 : decode cX5_placeOf 52 = .ok (.iconst 0, 1) := by decide +kernel
theorem dX5_placeOf_53 : decode cX5_placeOf 53 = .ok (.ireturn, 1) := by decide +kernel
theorem dX5_signsBelow_0 : decode cX5_signsBelow 0 = .ok (.iconst 0, 1) := by decide +kernel
theorem dX5_signsBelow_1 : decode cX5_signsBelow 1 = .ok (.istore_n 2, 1) := by decide +kernel
theorem dX5_signsBelow_2 : decode cX5_signsBelow 2 = .ok (.iconst 0, 1) := by decide +kernel
theorem dX5_signsBelow_3 : decode cX5_signsBelow 3 = .ok (.istore_n 3, 1) := by decide +kernel
theorem dX5_signsBelow_4 : decode cX5_signsBelow 4 = .ok (.iload_n 3, 1) := by decide +kernel
theorem dX5_signsBelow_5 : decode cX5_signsBelow 5 = .ok (.iload_n 1, 1) := by decide +kernel
theorem dX5_signsBelow_6 : decode cX5_signsBelow 6 = .ok (.if_icmp .ge 32, 3) := by decide +kernel
theorem dX5_signsBelow_9 : decode cX5_signsBelow 9 = .ok (.iload_n 3, 1) := by decide +kernel
theorem dX5_signsBelow_10 : decode cX5_signsBelow 10 = .ok (.iconst 3, 1) := by decide +kernel
theorem dX5_signsBelow_11 : decode cX5_signsBelow 11 = .ok (.aload_n 0, 1) := by decide +kernel
theorem dX5_signsBelow_12 : decode cX5_signsBelow 12 = .ok (.getfield 21, 3) := by decide +kernel
theorem dX5_signsBelow_15 : decode cX5_signsBelow 15 = .ok (.imul, 1) := by decide +kernel
theorem dX5_signsBelow_16 : decode cX5_signsBelow 16 = .ok (.if_icmp .ge 22, 3) := by decide +kernel
theorem dX5_signsBelow_19 : decode cX5_signsBelow 19 = .ok (.aload_n 0, 1) := by decide +kernel
theorem dX5_signsBelow_20 : decode cX5_signsBelow 20 = .ok (.getfield 15, 3) := by decide +kernel
theorem dX5_signsBelow_23 : decode cX5_signsBelow 23 = .ok (.iload_n 3, 1) := by decide +kernel
theorem dX5_signsBelow_24 : decode cX5_signsBelow 24 = .ok (.iaload, 1) := by decide +kernel
theorem dX5_signsBelow_25 : decode cX5_signsBelow 25 = .ok (.iconst 3, 1) := by decide +kernel
theorem dX5_signsBelow_26 : decode cX5_signsBelow 26 = .ok (.if_icmp .eq 6, 3) := by decide +kernel
theorem dX5_signsBelow_29 : decode cX5_signsBelow 29 = .ok (.iinc 2 1, 3) := by decide +kernel
theorem dX5_signsBelow_32 : decode cX5_signsBelow 32 = .ok (.iinc 3 1, 3) := by decide +kernel
theorem dX5_signsBelow_35 : decode cX5_signsBelow 35 = .ok (.goto (-31), 3) := by decide +kernel
theorem dX5_signsBelow_38 : decode cX5_signsBelow 38 = .ok (.iload_n 2, 1) := by decide +kernel
theorem dX5_signsBelow_39 : decode cX5_signsBelow 39 = .ok (.ireturn, 1) := by decide +kernel
theorem dX5_signAt_0 : decode cX5_signAt 0 = .ok (.iload_n 1, 1) := by decide +kernel
theorem dX5_signAt_1 : decode cX5_signAt 1 = .ok (.ifCond .lt 22, 3) := by decide +kernel
theorem dX5_signAt_4 : decode cX5_signAt 4 = .ok (.iload_n 1, 1) := by decide +kernel
theorem dX5_signAt_5 : decode cX5_signAt 5 = .ok (.iconst 3, 1) := by decide +kernel
theorem dX5_signAt_6 : decode cX5_signAt 6 = .ok (.aload_n 0, 1) := by decide +kernel
theorem dX5_signAt_7 : decode cX5_signAt 7 = .ok (.getfield 21, 3) := by decide +kernel
theorem dX5_signAt_10 : decode cX5_signAt 10 = .ok (.imul, 1) := by decide +kernel
theorem dX5_signAt_11 : decode cX5_signAt 11 = .ok (.if_icmp .ge 12, 3) := by decide +kernel
theorem dX5_signAt_14 : decode cX5_signAt 14 = .ok (.aload_n 0, 1) := by decide +kernel
theorem dX5_signAt_15 : decode cX5_signAt 15 = .ok (.getfield 15, 3) := by decide +kernel
theorem dX5_signAt_18 : decode cX5_signAt 18 = .ok (.iload_n 1, 1) := by decide +kernel
theorem dX5_signAt_19 : decode cX5_signAt 19 = .ok (.iaload, 1) := by decide +kernel
theorem dX5_signAt_20 : decode cX5_signAt 20 = .ok (.goto 4, 3) := by decide +kernel
theorem dX5_signAt_23 : decode cX5_signAt 23 = .ok (.iconst (-1), 1) := by decide +kernel
theorem dX5_signAt_24 : decode cX5_signAt 24 = .ok (.ireturn, 1) := by decide +kernel
theorem dX5_packed_0 : decode cX5_packed 0 = .ok (.iload_n 1, 1) := by decide +kernel
theorem dX5_packed_1 : decode cX5_packed 1 = .ok (.ifCond .lt 20, 3) := by decide +kernel
theorem dX5_packed_4 : decode cX5_packed 4 = .ok (.iload_n 1, 1) := by decide +kernel
theorem dX5_packed_5 : decode cX5_packed 5 = .ok (.bipush 60, 2) := by decide +kernel
theorem dX5_packed_7 : decode cX5_packed 7 = .ok (.if_icmp .ge 14, 3) := by decide +kernel
theorem dX5_packed_10 : decode cX5_packed 10 = .ok (.aload_n 0, 1) := by decide +kernel
theorem dX5_packed_11 : decode cX5_packed 11 = .ok (.iconst 4, 1) := by decide +kernel
theorem dX5_packed_12 : decode cX5_packed 12 = .ok (.iload_n 1, 1) := by decide +kernel
theorem dX5_packed_13 : decode cX5_packed 13 = .ok (.imul, 1) := by decide +kernel
theorem dX5_packed_14 : decode cX5_packed 14 = .ok (.invokevirtual 88, 3) := by decide +kernel
theorem dX5_packed_17 : decode cX5_packed 17 = .ok (.iconst (-1), 1) := by decide +kernel
theorem dX5_packed_18 : decode cX5_packed 18 = .ok (.if_icmp .ne 5, 3) := by decide +kernel
theorem dX5_packed_21 : decode cX5_packed 21 = .ok (.iconst (-1), 1) := by decide +kernel
theorem dX5_packed_22 : decode cX5_packed 22 = .ok (.ireturn, 1) := by decide +kernel
theorem dX5_packed_23 : decode cX5_packed 23 = .ok (.iconst 0, 1) := by decide +kernel
theorem dX5_packed_24 : decode cX5_packed 24 = .ok (.istore_n 2, 1) := by decide +kernel
theorem dX5_packed_25 : decode cX5_packed 25 = .ok (.iconst 3, 1) := by decide +kernel
theorem dX5_packed_26 : decode cX5_packed 26 = .ok (.istore_n 3, 1) := by decide +kernel
theorem dX5_packed_27 : decode cX5_packed 27 = .ok (.iload_n 3, 1) := by decide +kernel
theorem dX5_packed_28 : decode cX5_packed 28 = .ok (.ifCond .lt 37, 3) := by decide +kernel
theorem dX5_packed_31 : decode cX5_packed 31 = .ok (.aload_n 0, 1) := by decide +kernel
theorem dX5_packed_32 : decode cX5_packed 32 = .ok (.iconst 4, 1) := by decide +kernel
theorem dX5_packed_33 : decode cX5_packed 33 = .ok (.iload_n 1, 1) := by decide +kernel
theorem dX5_packed_34 : decode cX5_packed 34 = .ok (.imul, 1) := by decide +kernel
theorem dX5_packed_35 : decode cX5_packed 35 = .ok (.iload_n 3, 1) := by decide +kernel
theorem dX5_packed_36 : decode cX5_packed 36 = .ok (.iadd, 1) := by decide +kernel
theorem dX5_packed_37 : decode cX5_packed 37 = .ok (.invokevirtual 88, 3) := by decide +kernel
theorem dX5_packed_40 : decode cX5_packed 40 = .ok (.istore 4, 2) := by decide +kernel
theorem dX5_packed_42 : decode cX5_packed 42 = .ok (.iload_n 2, 1) := by decide +kernel
theorem dX5_packed_43 : decode cX5_packed 43 = .ok (.iconst 4, 1) := by decide +kernel
theorem dX5_packed_44 : decode cX5_packed 44 = .ok (.imul, 1) := by decide +kernel
theorem dX5_packed_45 : decode cX5_packed 45 = .ok (.iload 4, 2) := by decide +kernel
theorem dX5_packed_47 : decode cX5_packed 47 = .ok (.iconst (-1), 1) := by decide +kernel
theorem dX5_packed_48 : decode cX5_packed 48 = .ok (.if_icmp .ne 7, 3) := by decide +kernel
theorem dX5_packed_51 : decode cX5_packed 51 = .ok (.iconst 3, 1) := by decide +kernel
theorem dX5_packed_52 : decode cX5_packed 52 = .ok (.goto 5, 3) := by decide +kernel
theorem dX5_packed_55 : decode cX5_packed 55 = .ok (.iload 4, 2) := by decide +kernel
theorem dX5_packed_57 : decode cX5_packed 57 = .ok (.iadd, 1) := by decide +kernel
theorem dX5_packed_58 : decode cX5_packed 58 = .ok (.istore_n 2, 1) := by decide +kernel
theorem dX5_packed_59 : decode cX5_packed 59 = .ok (.iinc 3 (-1), 3) := by decide +kernel
theorem dX5_packed_62 : decode cX5_packed 62 = .ok (.goto (-35), 3) := by decide +kernel
theorem dX5_packed_65 : decode cX5_packed 65 = .ok (.iload_n 2, 1) := by decide +kernel
theorem dX5_packed_66 : decode cX5_packed 66 = .ok (.ireturn, 1) := by decide +kernel
theorem dX6_init_0 : decode cX6_init 0 = .ok (.aload_n 0, 1) := by decide +kernel
theorem dX6_init_1 : decode cX6_init 1 = .ok (.invokespecial 3, 3) := by decide +kernel
theorem dX6_init_4 : decode cX6_init 4 = .ok (.iload_n 1, 1) := by decide +kernel
theorem dX6_init_5 : decode cX6_init 5 = .ok (.iconst 0, 1) := by decide +kernel
theorem dX6_init_6 : decode cX6_init 6 = .ok (.invokestatic 9, 3) := by decide +kernel
theorem dX6_init_9 : decode cX6_init 9 = .ok (.istore_n 3, 1) := by decide +kernel
theorem dX6_init_10 : decode cX6_init 10 = .ok (.iload_n 2, 1) := by decide +kernel
theorem dX6_init_11 : decode cX6_init 11 = .ok (.iconst 0, 1) := by decide +kernel
theorem dX6_init_12 : decode cX6_init 12 = .ok (.invokestatic 9, 3) := by decide +kernel
theorem dX6_init_15 : decode cX6_init 15 = .ok (.istore 4, 2) := by decide +kernel
theorem dX6_init_17 : decode cX6_init 17 = .ok (.aload_n 0, 1) := by decide +kernel
theorem dX6_init_18 : decode cX6_init 18 = .ok (.iload_n 3, 1) := by decide +kernel
theorem dX6_init_19 : decode cX6_init 19 = .ok (.newarray .int, 2) := by decide +kernel
theorem dX6_init_21 : decode cX6_init 21 = .ok (.putfield 15, 3) := by decide +kernel
theorem dX6_init_24 : decode cX6_init 24 = .ok (.aload_n 0, 1) := by decide +kernel
theorem dX6_init_25 : decode cX6_init 25 = .ok (.iload_n 3, 1) := by decide +kernel
theorem dX6_init_26 : decode cX6_init 26 = .ok (.newarray .int, 2) := by decide +kernel
theorem dX6_init_28 : decode cX6_init 28 = .ok (.putfield 21, 3) := by decide +kernel
theorem dX6_init_31 : decode cX6_init 31 = .ok (.aload_n 0, 1) := by decide +kernel
theorem dX6_init_32 : decode cX6_init 32 = .ok (.iload_n 3, 1) := by decide +kernel
theorem dX6_init_33 : decode cX6_init 33 = .ok (.newarray .int, 2) := by decide +kernel
theorem dX6_init_35 : decode cX6_init 35 = .ok (.putfield 24, 3) := by decide +kernel
theorem dX6_init_38 : decode cX6_init 38 = .ok (.aload_n 0, 1) := by decide +kernel
theorem dX6_init_39 : decode cX6_init 39 = .ok (.iload_n 3, 1) := by decide +kernel
theorem dX6_init_40 : decode cX6_init 40 = .ok (.newarray .int, 2) := by decide +kernel
theorem dX6_init_42 : decode cX6_init 42 = .ok (.putfield 27, 3) := by decide +kernel
theorem dX6_init_45 : decode cX6_init 45 = .ok (.aload_n 0, 1) := by decide +kernel
theorem dX6_init_46 : decode cX6_init 46 = .ok (.iload 4, 2) := by decide +kernel
theorem dX6_init_48 : decode cX6_init 48 = .ok (.newarray .int, 2) := by decide +kernel
theorem dX6_init_50 : decode cX6_init 50 = .ok (.putfield 30, 3) := by decide +kernel
theorem dX6_init_53 : decode cX6_init 53 = .ok (.aload_n 0, 1) := by decide +kernel
theorem dX6_init_54 : decode cX6_init 54 = .ok (.iload 4, 2) := by decide +kernel
theorem dX6_init_56 : decode cX6_init 56 = .ok (.newarray .int, 2) := by decide +kernel
theorem dX6_init_58 : decode cX6_init 58 = .ok (.putfield 33, 3) := by decide +kernel
theorem dX6_init_61 : decode cX6_init 61 = .ok (.return_, 1) := by decide +kernel
theorem dX6_clear_0 : decode cX6_clear 0 = .ok (.aload_n 0, 1) := by decide +kernel
theorem dX6_clear_1 : decode cX6_clear 1 = .ok (.iconst 0, 1) := by decide +kernel
theorem dX6_clear_2 : decode cX6_clear 2 = .ok (.putfield 36, 3) := by decide +kernel
theorem dX6_clear_5 : decode cX6_clear 5 = .ok (.aload_n 0, 1) := by decide +kernel
theorem dX6_clear_6 : decode cX6_clear 6 = .ok (.iconst 0, 1) := by decide +kernel
theorem dX6_clear_7 : decode cX6_clear 7 = .ok (.putfield 40, 3) := by decide +kernel
theorem dX6_clear_10 : decode cX6_clear 10 = .ok (.return_, 1) := by decide +kernel
theorem dX6_put_0 : decode cX6_put 0 = .ok (.aload_n 0, 1) := by decide +kernel
theorem dX6_put_1 : decode cX6_put 1 = .ok (.getfield 40, 3) := by decide +kernel
theorem dX6_put_4 : decode cX6_put 4 = .ok (.aload_n 0, 1) := by decide +kernel
theorem dX6_put_5 : decode cX6_put 5 = .ok (.getfield 30, 3) := by decide +kernel
theorem dX6_put_8 : decode cX6_put 8 = .ok (.arraylength, 1) := by decide +kernel
theorem dX6_put_9 : decode cX6_put 9 = .ok (.if_icmp .lt 5, 3) := by decide +kernel
theorem dX6_put_12 : decode cX6_put 12 = .ok (.iconst (-1), 1) := by decide +kernel
theorem dX6_put_13 : decode cX6_put 13 = .ok (.ireturn, 1) := by decide +kernel
theorem dX6_put_14 : decode cX6_put 14 = .ok (.aload_n 0, 1) := by decide +kernel
theorem dX6_put_15 : decode cX6_put 15 = .ok (.getfield 30, 3) := by decide +kernel
theorem dX6_put_18 : decode cX6_put 18 = .ok (.aload_n 0, 1) := by decide +kernel
theorem dX6_put_19 : decode cX6_put 19 = .ok (.getfield 40, 3) := by decide +kernel
theorem dX6_put_22 : decode cX6_put 22 = .ok (.iload_n 1, 1) := by decide +kernel
theorem dX6_put_23 : decode cX6_put 23 = .ok (.iastore, 1) := by decide +kernel
theorem dX6_put_24 : decode cX6_put 24 = .ok (.aload_n 0, 1) := by decide +kernel
theorem dX6_put_25 : decode cX6_put 25 = .ok (.getfield 33, 3) := by decide +kernel
theorem dX6_put_28 : decode cX6_put 28 = .ok (.aload_n 0, 1) := by decide +kernel
theorem dX6_put_29 : decode cX6_put 29 = .ok (.getfield 40, 3) := by decide +kernel
theorem dX6_put_32 : decode cX6_put 32 = .ok (.iload_n 2, 1) := by decide +kernel
theorem dX6_put_33 : decode cX6_put 33 = .ok (.iastore, 1) := by decide +kernel
theorem dX6_put_34 : decode cX6_put 34 = .ok (.aload_n 0, 1) := by decide +kernel
theorem dX6_put_35 : decode cX6_put 35 = .ok (.dup, 1) := by decide +kernel
theorem dX6_put_36 : decode cX6_put 36 = .ok (.getfield 40, 3) := by decide +kernel
theorem dX6_put_39 : decode cX6_put 39 = .ok (.iconst 1, 1) := by decide +kernel
theorem dX6_put_40 : decode cX6_put 40 = .ok (.iadd, 1) := by decide +kernel
theorem dX6_put_41 : decode cX6_put 41 = .ok (.putfield 40, 3) := by decide +kernel
theorem dX6_put_44 : decode cX6_put 44 = .ok (.aload_n 0, 1) := by decide +kernel
theorem dX6_put_45 : decode cX6_put 45 = .ok (.getfield 40, 3) := by decide +kernel
theorem dX6_put_48 : decode cX6_put 48 = .ok (.iconst 1, 1) := by decide +kernel
theorem dX6_put_49 : decode cX6_put 49 = .ok (.isub, 1) := by decide +kernel
theorem dX6_put_50 : decode cX6_put 50 = .ok (.ireturn, 1) := by decide +kernel
theorem dX6_jumpToHere_0 : decode cX6_jumpToHere 0 = .ok (.iload_n 1, 1) := by decide +kernel
theorem dX6_jumpToHere_1 : decode cX6_jumpToHere 1 = .ok (.ifCond .lt 21, 3) := by decide +kernel
theorem dX6_jumpToHere_4 : decode cX6_jumpToHere 4 = .ok (.iload_n 1, 1) := by decide +kernel
theorem dX6_jumpToHere_5 : decode cX6_jumpToHere 5 = .ok (.aload_n 0, 1) := by decide +kernel
theorem dX6_jumpToHere_6 : decode cX6_jumpToHere 6 = .ok (.getfield 40, 3) := by decide +kernel
theorem dX6_jumpToHere_9 : decode cX6_jumpToHere 9 = .ok (.if_icmp .ge 13, 3) := by decide +kernel
theorem dX6_jumpToHere_12 : decode cX6_jumpToHere 12 = .ok (.aload_n 0, 1) := by decide +kernel
theorem dX6_jumpToHere_13 : decode cX6_jumpToHere 13 = .ok (.getfield 33, 3) := by decide +kernel
theorem dX6_jumpToHere_16 : decode cX6_jumpToHere 16 = .ok (.iload_n 1, 1) := by decide +kernel
theorem dX6_jumpToHere_17 : decode cX6_jumpToHere 17 = .ok (.aload_n 0, 1) := by decide +kernel
theorem dX6_jumpToHere_18 : decode cX6_jumpToHere 18 = .ok (.getfield 40, 3) := by decide +kernel
theorem dX6_jumpToHere_21 : decode cX6_jumpToHere 21 = .ok (.iastore, 1) := by decide +kernel
theorem dX6_jumpToHere_22 : decode cX6_jumpToHere 22 = .ok (.return_, 1) := by decide +kernel
theorem dX6_trimmed_0 : decode cX6_trimmed 0 = .ok (.new 16, 3) := by decide +kernel
theorem dX6_trimmed_3 : decode cX6_trimmed 3 = .ok (.dup, 1) := by decide +kernel
theorem dX6_trimmed_4 : decode cX6_trimmed 4 = .ok (.aload_n 0, 1) := by decide +kernel
theorem dX6_trimmed_5 : decode cX6_trimmed 5 = .ok (.getfield 36, 3) := by decide +kernel
theorem dX6_trimmed_8 : decode cX6_trimmed 8 = .ok (.aload_n 0, 1) := by decide +kernel
theorem dX6_trimmed_9 : decode cX6_trimmed 9 = .ok (.getfield 40, 3) := by decide +kernel
theorem dX6_trimmed_12 : decode cX6_trimmed 12 = .ok (.invokespecial 43, 3) := by decide +kernel
theorem dX6_trimmed_15 : decode cX6_trimmed 15 = .ok (.astore_n 1, 1) := by decide +kernel
theorem dX6_trimmed_16 : decode cX6_trimmed 16 = .ok (.aload_n 0, 1) := by decide +kernel
theorem dX6_trimmed_17 : decode cX6_trimmed 17 = .ok (.getfield 15, 3) := by decide +kernel
theorem dX6_trimmed_20 : decode cX6_trimmed 20 = .ok (.iconst 0, 1) := by decide +kernel
theorem dX6_trimmed_21 : decode cX6_trimmed 21 = .ok (.aload_n 1, 1) := by decide +kernel
theorem dX6_trimmed_22 : decode cX6_trimmed 22 = .ok (.getfield 15, 3) := by decide +kernel
theorem dX6_trimmed_25 : decode cX6_trimmed 25 = .ok (.iconst 0, 1) := by decide +kernel
theorem dX6_trimmed_26 : decode cX6_trimmed 26 = .ok (.aload_n 0, 1) := by decide +kernel
theorem dX6_trimmed_27 : decode cX6_trimmed 27 = .ok (.getfield 36, 3) := by decide +kernel
theorem dX6_trimmed_30 : decode cX6_trimmed 30 = .ok (.invokestatic 46, 3) := by decide +kernel
theorem dX6_trimmed_33 : decode cX6_trimmed 33 = .ok (.aload_n 0, 1) := by decide +kernel
theorem dX6_trimmed_34 : decode cX6_trimmed 34 = .ok (.getfield 21, 3) := by decide +kernel
theorem dX6_trimmed_37 : decode cX6_trimmed 37 = .ok (.iconst 0, 1) := by decide +kernel
theorem dX6_trimmed_38 : decode cX6_trimmed 38 = .ok (.aload_n 1, 1) := by decide +kernel
theorem dX6_trimmed_39 : decode cX6_trimmed 39 = .ok (.getfield 21, 3) := by decide +kernel
theorem dX6_trimmed_42 : decode cX6_trimmed 42 = .ok (.iconst 0, 1) := by decide +kernel
theorem dX6_trimmed_43 : decode cX6_trimmed 43 = .ok (.aload_n 0, 1) := by decide +kernel
theorem dX6_trimmed_44 : decode cX6_trimmed 44 = .ok (.getfield 36, 3) := by decide +kernel
theorem dX6_trimmed_47 : decode cX6_trimmed 47 = .ok (.invokestatic 46, 3) := by decide +kernel
theorem dX6_trimmed_50 : decode cX6_trimmed 50 = .ok (.aload_n 0, 1) := by decide +kernel
theorem dX6_trimmed_51 : decode cX6_trimmed 51 = .ok (.getfield 24, 3) := by decide +kernel
theorem dX6_trimmed_54 : decode cX6_trimmed 54 = .ok (.iconst 0, 1) := by decide +kernel
theorem dX6_trimmed_55 : decode cX6_trimmed 55 = .ok (.aload_n 1, 1) := by decide +kernel
theorem dX6_trimmed_56 : decode cX6_trimmed 56 = .ok (.getfield 24, 3) := by decide +kernel
theorem dX6_trimmed_59 : decode cX6_trimmed 59 = .ok (.iconst 0, 1) := by decide +kernel
theorem dX6_trimmed_60 : decode cX6_trimmed 60 = .ok (.aload_n 0, 1) := by decide +kernel
theorem dX6_trimmed_61 : decode cX6_trimmed 61 = .ok (.getfield 36, 3) := by decide +kernel
theorem dX6_trimmed_64 : decode cX6_trimmed 64 = .ok (.invokestatic 46, 3) := by decide +kernel
theorem dX6_trimmed_67 : decode cX6_trimmed 67 = .ok (.aload_n 0, 1) := by decide +kernel
theorem dX6_trimmed_68 : decode cX6_trimmed 68 = .ok (.getfield 27, 3) := by decide +kernel
theorem dX6_trimmed_71 : decode cX6_trimmed 71 = .ok (.iconst 0, 1) := by decide +kernel
theorem dX6_trimmed_72 : decode cX6_trimmed 72 = .ok (.aload_n 1, 1) := by decide +kernel
theorem dX6_trimmed_73 : decode cX6_trimmed 73 = .ok (.getfield 27, 3) := by decide +kernel
theorem dX6_trimmed_76 : decode cX6_trimmed 76 = .ok (.iconst 0, 1) := by decide +kernel
theorem dX6_trimmed_77 : decode cX6_trimmed 77 = .ok (.aload_n 0, 1) := by decide +kernel
theorem dX6_trimmed_78 : decode cX6_trimmed 78 = .ok (.getfield 36, 3) := by decide +kernel
theorem dX6_trimmed_81 : decode cX6_trimmed 81 = .ok (.invokestatic 46, 3) := by decide +kernel
theorem dX6_trimmed_84 : decode cX6_trimmed 84 = .ok (.aload_n 0, 1) := by decide +kernel
theorem dX6_trimmed_85 : decode cX6_trimmed 85 = .ok (.getfield 30, 3) := by decide +kernel
theorem dX6_trimmed_88 : decode cX6_trimmed 88 = .ok (.iconst 0, 1) := by decide +kernel
theorem dX6_trimmed_89 : decode cX6_trimmed 89 = .ok (.aload_n 1, 1) := by decide +kernel
theorem dX6_trimmed_90 : decode cX6_trimmed 90 = .ok (.getfield 30, 3) := by decide +kernel
theorem dX6_trimmed_93 : decode cX6_trimmed 93 = .ok (.iconst 0, 1) := by decide +kernel
theorem dX6_trimmed_94 : decode cX6_trimmed 94 = .ok (.aload_n 0, 1) := by decide +kernel
theorem dX6_trimmed_95 : decode cX6_trimmed 95 = .ok (.getfield 40, 3) := by decide +kernel
theorem dX6_trimmed_98 : decode cX6_trimmed 98 = .ok (.invokestatic 46, 3) := by decide +kernel
theorem dX6_trimmed_101 : decode cX6_trimmed 101 = .ok (.aload_n 0, 1) := by decide +kernel
theorem dX6_trimmed_102 : decode cX6_trimmed 102 = .ok (.getfield 33, 3) := by decide +kernel
theorem dX6_trimmed_105 : decode cX6_trimmed 105 = .ok (.iconst 0, 1) := by decide +kernel
theorem dX6_trimmed_106 : decode cX6_trimmed 106 = .ok (.aload_n 1, 1) := by decide +kernel
theorem dX6_trimmed_107 : decode cX6_trimmed 107 = .ok (.getfield 33, 3) := by decide +kernel
theorem dX6_trimmed_110 : decode cX6_trimmed 110 = .ok (.iconst 0, 1) := by decide +kernel
theorem dX6_trimmed_111 : decode cX6_trimmed 111 = .ok (.aload_n 0, 1) := by decide +kernel
theorem dX6_trimmed_112 : decode cX6_trimmed 112 = .ok (.getfield 40, 3) := by decide +kernel
theorem dX6_trimmed_115 : decode cX6_trimmed 115 = .ok (.invokestatic 46, 3) := by decide +kernel
theorem dX6_trimmed_118 : decode cX6_trimmed 118 = .ok (.aload_n 1, 1) := by decide +kernel
theorem dX6_trimmed_119 : decode cX6_trimmed 119 = .ok (.aload_n 0, 1) := by decide +kernel
theorem dX6_trimmed_120 : decode cX6_trimmed 120 = .ok (.getfield 36, 3) := by decide +kernel
theorem dX6_trimmed_123 : decode cX6_trimmed 123 = .ok (.putfield 36, 3) := by decide +kernel
theorem dX6_trimmed_126 : decode cX6_trimmed 126 = .ok (.aload_n 1, 1) := by decide +kernel
theorem dX6_trimmed_127 : decode cX6_trimmed 127 = .ok (.aload_n 0, 1) := by decide +kernel
theorem dX6_trimmed_128 : decode cX6_trimmed 128 = .ok (.getfield 40, 3) := by decide +kernel
theorem dX6_trimmed_131 : decode cX6_trimmed 131 = .ok (.putfield 40, 3) := by decide +kernel
theorem dX6_trimmed_134 : decode cX6_trimmed 134 = .ok (.aload_n 1, 1) := by decide +kernel
theorem dX6_trimmed_135 : decode cX6_trimmed 135 = .ok (.areturn, 1) := by decide +kernel
theorem dX7_init_0 : decode cX7_init 0 = .ok (.aload_n 0, 1) := by decide +kernel
theorem dX7_init_1 : decode cX7_init 1 = .ok (.invokespecial 3, 3) := by decide +kernel
theorem dX7_init_4 : decode cX7_init 4 = .ok (.aload_n 0, 1) := by decide +kernel
theorem dX7_init_5 : decode cX7_init 5 = .ok (.new 9, 3) := by decide +kernel
theorem dX7_init_8 : decode cX7_init 8 = .ok (.dup, 1) := by decide +kernel
theorem dX7_init_9 : decode cX7_init 9 = .ok (.invokespecial 11, 3) := by decide +kernel
theorem dX7_init_12 : decode cX7_init 12 = .ok (.putfield 12, 3) := by decide +kernel
theorem dX7_init_15 : decode cX7_init 15 = .ok (.aload_n 0, 1) := by decide +kernel
theorem dX7_init_16 : decode cX7_init 16 = .ok (.bipush 6, 2) := by decide +kernel
theorem dX7_init_18 : decode cX7_init 18 = .ok (.newarray .int, 2) := by decide +kernel
theorem dX7_init_20 : decode cX7_init 20 = .ok (.putfield 18, 3) := by decide +kernel
theorem dX7_init_23 : decode cX7_init 23 = .ok (.aload_n 0, 1) := by decide +kernel
theorem dX7_init_24 : decode cX7_init 24 = .ok (.bipush 6, 2) := by decide +kernel
theorem dX7_init_26 : decode cX7_init 26 = .ok (.newarray .int, 2) := by decide +kernel
theorem dX7_init_28 : decode cX7_init 28 = .ok (.putfield 22, 3) := by decide +kernel
theorem dX7_init_31 : decode cX7_init 31 = .ok (.aload_n 0, 1) := by decide +kernel
theorem dX7_init_32 : decode cX7_init 32 = .ok (.bipush 6, 2) := by decide +kernel
theorem dX7_init_34 : decode cX7_init 34 = .ok (.anewarray 25, 3) := by decide +kernel
theorem dX7_init_37 : decode cX7_init 37 = .ok (.putfield 27, 3) := by decide +kernel
theorem dX7_init_40 : decode cX7_init 40 = .ok (.aload_n 0, 1) := by decide +kernel
theorem dX7_init_41 : decode cX7_init 41 = .ok (.iconst (-1), 1) := by decide +kernel
theorem dX7_init_42 : decode cX7_init 42 = .ok (.putfield 31, 3) := by decide +kernel
theorem dX7_init_45 : decode cX7_init 45 = .ok (.return_, 1) := by decide +kernel
theorem dX7_copyFrom_0 : decode cX7_copyFrom 0 = .ok (.aload_n 0, 1) := by decide +kernel
theorem dX7_copyFrom_1 : decode cX7_copyFrom 1 = .ok (.getfield 12, 3) := by decide +kernel
theorem dX7_copyFrom_4 : decode cX7_copyFrom 4 = .ok (.aload_n 1, 1) := by decide +kernel
theorem dX7_copyFrom_5 : decode cX7_copyFrom 5 = .ok (.getfield 12, 3) := by decide +kernel
theorem dX7_copyFrom_8 : decode cX7_copyFrom 8 = .ok (.invokevirtual 35, 3) := by decide +kernel
theorem dX7_copyFrom_11 : decode cX7_copyFrom 11 = .ok (.iconst 0, 1) := by decide +kernel
theorem dX7_copyFrom_12 : decode cX7_copyFrom 12 = .ok (.istore_n 2, 1) := by decide +kernel
theorem dX7_copyFrom_13 : decode cX7_copyFrom 13 = .ok (.iload_n 2, 1) := by decide +kernel
theorem dX7_copyFrom_14 : decode cX7_copyFrom 14 = .ok (.bipush 6, 2) := by decide +kernel
theorem dX7_copyFrom_16 : decode cX7_copyFrom 16 = .ok (.if_icmp .ge 33, 3) := by decide +kernel
theorem dX7_copyFrom_19 : decode cX7_copyFrom 19 = .ok (.aload_n 0, 1) := by decide +kernel
theorem dX7_copyFrom_20 : decode cX7_copyFrom 20 = .ok (.getfield 18, 3) := by decide +kernel
theorem dX7_copyFrom_23 : decode cX7_copyFrom 23 = .ok (.iload_n 2, 1) := by decide +kernel
theorem dX7_copyFrom_24 : decode cX7_copyFrom 24 = .ok (.aload_n 1, 1) := by decide +kernel
theorem dX7_copyFrom_25 : decode cX7_copyFrom 25 = .ok (.getfield 18, 3) := by decide +kernel
theorem dX7_copyFrom_28 : decode cX7_copyFrom 28 = .ok (.iload_n 2, 1) := by decide +kernel
theorem dX7_copyFrom_29 : decode cX7_copyFrom 29 = .ok (.iaload, 1) := by decide +kernel
theorem dX7_copyFrom_30 : decode cX7_copyFrom 30 = .ok (.iastore, 1) := by decide +kernel
theorem dX7_copyFrom_31 : decode cX7_copyFrom 31 = .ok (.aload_n 0, 1) := by decide +kernel
theorem dX7_copyFrom_32 : decode cX7_copyFrom 32 = .ok (.getfield 22, 3) := by decide +kernel
theorem dX7_copyFrom_35 : decode cX7_copyFrom 35 = .ok (.iload_n 2, 1) := by decide +kernel
theorem dX7_copyFrom_36 : decode cX7_copyFrom 36 = .ok (.aload_n 1, 1) := by decide +kernel
theorem dX7_copyFrom_37 : decode cX7_copyFrom 37 = .ok (.getfield 22, 3) := by decide +kernel
theorem dX7_copyFrom_40 : decode cX7_copyFrom 40 = .ok (.iload_n 2, 1) := by decide +kernel
theorem dX7_copyFrom_41 : decode cX7_copyFrom 41 = .ok (.iaload, 1) := by decide +kernel
theorem dX7_copyFrom_42 : decode cX7_copyFrom 42 = .ok (.iastore, 1) := by decide +kernel
theorem dX7_copyFrom_43 : decode cX7_copyFrom 43 = .ok (.iinc 2 1, 3) := by decide +kernel
theorem dX7_copyFrom_46 : decode cX7_copyFrom 46 = .ok (.goto (-33), 3) := by decide +kernel
theorem dX7_copyFrom_49 : decode cX7_copyFrom 49 = .ok (.iconst 0, 1) := by decide +kernel
theorem dX7_copyFrom_50 : decode cX7_copyFrom 50 = .ok (.istore_n 2, 1) := by decide +kernel
theorem dX7_copyFrom_51 : decode cX7_copyFrom 51 = .ok (.iload_n 2, 1) := by decide +kernel
theorem dX7_copyFrom_52 : decode cX7_copyFrom 52 = .ok (.bipush 6, 2) := by decide +kernel
theorem dX7_copyFrom_54 : decode cX7_copyFrom 54 = .ok (.if_icmp .ge 21, 3) := by decide +kernel
theorem dX7_copyFrom_57 : decode cX7_copyFrom 57 = .ok (.aload_n 0, 1) := by decide +kernel
theorem dX7_copyFrom_58 : decode cX7_copyFrom 58 = .ok (.getfield 27, 3) := by decide +kernel
theorem dX7_copyFrom_61 : decode cX7_copyFrom 61 = .ok (.iload_n 2, 1) := by decide +kernel
theorem dX7_copyFrom_62 : decode cX7_copyFrom 62 = .ok (.aload_n 1, 1) := by decide +kernel
theorem dX7_copyFrom_63 : decode cX7_copyFrom 63 = .ok (.getfield 27, 3) := by decide +kernel
theorem dX7_copyFrom_66 : decode cX7_copyFrom 66 = .ok (.iload_n 2, 1) := by decide +kernel
theorem dX7_copyFrom_67 : decode cX7_copyFrom 67 = .ok (.aaload, 1) := by decide +kernel
theorem dX7_copyFrom_68 : decode cX7_copyFrom 68 = .ok (.aastore, 1) := by decide +kernel
theorem dX7_copyFrom_69 : decode cX7_copyFrom 69 = .ok (.iinc 2 1, 3) := by decide +kernel
theorem dX7_copyFrom_72 : decode cX7_copyFrom 72 = .ok (.goto (-21), 3) := by decide +kernel
theorem dX7_copyFrom_75 : decode cX7_copyFrom 75 = .ok (.aload_n 0, 1) := by decide +kernel
theorem dX7_copyFrom_76 : decode cX7_copyFrom 76 = .ok (.aload_n 1, 1) := by decide +kernel
theorem dX7_copyFrom_77 : decode cX7_copyFrom 77 = .ok (.getfield 39, 3) := by decide +kernel
theorem dX7_copyFrom_80 : decode cX7_copyFrom 80 = .ok (.putfield 39, 3) := by decide +kernel
theorem dX7_copyFrom_83 : decode cX7_copyFrom 83 = .ok (.aload_n 0, 1) := by decide +kernel
theorem dX7_copyFrom_84 : decode cX7_copyFrom 84 = .ok (.aload_n 1, 1) := by decide +kernel
theorem dX7_copyFrom_85 : decode cX7_copyFrom 85 = .ok (.getfield 42, 3) := by decide +kernel
theorem dX7_copyFrom_88 : decode cX7_copyFrom 88 = .ok (.putfield 42, 3) := by decide +kernel
theorem dX7_copyFrom_91 : decode cX7_copyFrom 91 = .ok (.aload_n 0, 1) := by decide +kernel
theorem dX7_copyFrom_92 : decode cX7_copyFrom 92 = .ok (.aload_n 1, 1) := by decide +kernel
theorem dX7_copyFrom_93 : decode cX7_copyFrom 93 = .ok (.getfield 31, 3) := by decide +kernel
theorem dX7_copyFrom_96 : decode cX7_copyFrom 96 = .ok (.putfield 31, 3) := by decide +kernel
theorem dX7_copyFrom_99 : decode cX7_copyFrom 99 = .ok (.return_, 1) := by decide +kernel
theorem dX7_fitsSeen_0 : decode cX7_fitsSeen 0 = .ok (.iconst 0, 1) := by decide +kernel
theorem dX7_fitsSeen_1 : decode cX7_fitsSeen 1 = .ok (.istore_n 2, 1) := by decide +kernel
theorem dX7_fitsSeen_2 : decode cX7_fitsSeen 2 = .ok (.iload_n 2, 1) := by decide +kernel
theorem dX7_fitsSeen_3 : decode cX7_fitsSeen 3 = .ok (.aload_n 0, 1) := by decide +kernel
theorem dX7_fitsSeen_4 : decode cX7_fitsSeen 4 = .ok (.getfield 39, 3) := by decide +kernel
theorem dX7_fitsSeen_7 : decode cX7_fitsSeen 7 = .ok (.if_icmp .ge 43, 3) := by decide +kernel
theorem dX7_fitsSeen_10 : decode cX7_fitsSeen 10 = .ok (.aload_n 0, 1) := by decide +kernel
theorem dX7_fitsSeen_11 : decode cX7_fitsSeen 11 = .ok (.getfield 12, 3) := by decide +kernel
theorem dX7_fitsSeen_14 : decode cX7_fitsSeen 14 = .ok (.iload_n 1, 1) := by decide +kernel
theorem dX7_fitsSeen_15 : decode cX7_fitsSeen 15 = .ok (.aload_n 0, 1) := by decide +kernel
theorem dX7_fitsSeen_16 : decode cX7_fitsSeen 16 = .ok (.getfield 18, 3) := by decide +kernel
theorem dX7_fitsSeen_19 : decode cX7_fitsSeen 19 = .ok (.iload_n 2, 1) := by decide +kernel
theorem dX7_fitsSeen_20 : decode cX7_fitsSeen 20 = .ok (.iaload, 1) := by decide +kernel
theorem dX7_fitsSeen_21 : decode cX7_fitsSeen 21 = .ok (.invokevirtual 45, 3) := by decide +kernel
theorem dX7_fitsSeen_24 : decode cX7_fitsSeen 24 = .ok (.aload_n 0, 1) := by decide +kernel
theorem dX7_fitsSeen_25 : decode cX7_fitsSeen 25 = .ok (.getfield 22, 3) := by decide +kernel
theorem dX7_fitsSeen_28 : decode cX7_fitsSeen 28 = .ok (.iload_n 2, 1) := by decide +kernel
theorem dX7_fitsSeen_29 : decode cX7_fitsSeen 29 = .ok (.iaload, 1) := by decide +kernel
theorem dX7_fitsSeen_30 : decode cX7_fitsSeen 30 = .ok (.iconst 1, 1) := by decide +kernel
theorem dX7_fitsSeen_31 : decode cX7_fitsSeen 31 = .ok (.if_icmp .ne 7, 3) := by decide +kernel
theorem dX7_fitsSeen_34 : decode cX7_fitsSeen 34 = .ok (.iconst 1, 1) := by decide +kernel
theorem dX7_fitsSeen_35 : decode cX7_fitsSeen 35 = .ok (.goto 4, 3) := by decide +kernel
theorem dX7_fitsSeen_38 : decode cX7_fitsSeen 38 = .ok (.iconst 0, 1) := by decide +kernel
theorem dX7_fitsSeen_39 : decode cX7_fitsSeen 39 = .ok (.if_icmp .eq 5, 3) := by decide +kernel
theorem dX7_fitsSeen_42 : decode cX7_fitsSeen 42 = .ok (.iconst 0, 1) := by decide +kernel
theorem dX7_fitsSeen_43 : decode cX7_fitsSeen 43 = .ok (.ireturn, 1) := by decide +kernel
theorem dX7_fitsSeen_44 : decode cX7_fitsSeen 44 = .ok (.iinc 2 1, 3) := by decide +kernel
theorem dX7_fitsSeen_47 : decode cX7_fitsSeen 47 = .ok (.goto (-45), 3) := by decide +kernel
theorem dX7_fitsSeen_50 : decode cX7_fitsSeen 50 = .ok (.iconst 1, 1) := by decide +kernel
theorem dX7_fitsSeen_51 : decode cX7_fitsSeen 51 = .ok (.ireturn, 1) := by decide +kernel
theorem dJ7_fill_d0a16_0 : decode cJ7_fill_d0a16 0 = .ok (.iconst 0, 1) := by decide +kernel
theorem dJ7_fill_d0a16_1 : decode cJ7_fill_d0a16 1 = .ok (.istore_n 3, 1) := by decide +kernel
theorem dJ7_fill_d0a16_2 : decode cJ7_fill_d0a16 2 = .ok (.aload_n 0, 1) := by decide +kernel
theorem dJ7_fill_d0a16_3 : decode cJ7_fill_d0a16 3 = .ok (.arraylength, 1) := by decide +kernel
theorem dJ7_fill_d0a16_4 : decode cJ7_fill_d0a16 4 = .ok (.istore 4, 2) := by decide +kernel
theorem dJ7_fill_d0a16_6 : decode cJ7_fill_d0a16 6 = .ok (.iload_n 3, 1) := by decide +kernel
theorem dJ7_fill_d0a16_7 : decode cJ7_fill_d0a16 7 = .ok (.iload 4, 2) := by decide +kernel
theorem dJ7_fill_d0a16_9 : decode cJ7_fill_d0a16 9 = .ok (.if_icmp .ge 13, 3) := by decide +kernel
theorem dJ7_fill_d0a16_12 : decode cJ7_fill_d0a16 12 = .ok (.aload_n 0, 1) := by decide +kernel
theorem dJ7_fill_d0a16_13 : decode cJ7_fill_d0a16 13 = .ok (.iload_n 3, 1) := by decide +kernel
theorem dJ7_fill_d0a16_14 : decode cJ7_fill_d0a16 14 = .ok (.lload_n 1, 1) := by decide +kernel
theorem dJ7_fill_d0a16_15 : decode cJ7_fill_d0a16 15 = .ok (.lastore, 1) := by decide +kernel
theorem dJ7_fill_d0a16_16 : decode cJ7_fill_d0a16 16 = .ok (.iinc 3 1, 3) := by decide +kernel
theorem dJ7_fill_d0a16_19 : decode cJ7_fill_d0a16 19 = .ok (.goto (-13), 3) := by decide +kernel
theorem dJ7_fill_d0a16_22 : decode cJ7_fill_d0a16 22 = .ok (.return_, 1) := by decide +kernel
theorem dJ7_fill_53178_0 : decode cJ7_fill_53178 0 = .ok (.iconst 0, 1) := by decide +kernel
theorem dJ7_fill_53178_1 : decode cJ7_fill_53178 1 = .ok (.istore_n 2, 1) := by decide +kernel
theorem dJ7_fill_53178_2 : decode cJ7_fill_53178 2 = .ok (.aload_n 0, 1) := by decide +kernel
theorem dJ7_fill_53178_3 : decode cJ7_fill_53178 3 = .ok (.arraylength, 1) := by decide +kernel
theorem dJ7_fill_53178_4 : decode cJ7_fill_53178 4 = .ok (.istore_n 3, 1) := by decide +kernel
theorem dJ7_fill_53178_5 : decode cJ7_fill_53178 5 = .ok (.iload_n 2, 1) := by decide +kernel
theorem dJ7_fill_53178_6 : decode cJ7_fill_53178 6 = .ok (.iload_n 3, 1) := by decide +kernel
theorem dJ7_fill_53178_7 : decode cJ7_fill_53178 7 = .ok (.if_icmp .ge 13, 3) := by decide +kernel
theorem dJ7_fill_53178_10 : decode cJ7_fill_53178 10 = .ok (.aload_n 0, 1) := by decide +kernel
theorem dJ7_fill_53178_11 : decode cJ7_fill_53178 11 = .ok (.iload_n 2, 1) := by decide +kernel
theorem dJ7_fill_53178_12 : decode cJ7_fill_53178 12 = .ok (.iload_n 1, 1) := by decide +kernel
theorem dJ7_fill_53178_13 : decode cJ7_fill_53178 13 = .ok (.iastore, 1) := by decide +kernel
theorem dJ7_fill_53178_14 : decode cJ7_fill_53178 14 = .ok (.iinc 2 1, 3) := by decide +kernel
theorem dJ7_fill_53178_17 : decode cJ7_fill_53178 17 = .ok (.goto (-12), 3) := by decide +kernel
theorem dJ7_fill_53178_20 : decode cJ7_fill_53178 20 = .ok (.return_, 1) := by decide +kernel
theorem dJ9_floorMod_7cf53_0 : decode cJ9_floorMod_7cf53 0 = .ok (.iload_n 0, 1) := by decide +kernel
theorem dJ9_floorMod_7cf53_1 : decode cJ9_floorMod_7cf53 1 = .ok (.iload_n 1, 1) := by decide +kernel
theorem dJ9_floorMod_7cf53_2 : decode cJ9_floorMod_7cf53 2 = .ok (.irem, 1) := by decide +kernel
theorem dJ9_floorMod_7cf53_3 : decode cJ9_floorMod_7cf53 3 = .ok (.istore_n 2, 1) := by decide +kernel
theorem dJ9_floorMod_7cf53_4 : decode cJ9_floorMod_7cf53 4 = .ok (.iload_n 0, 1) := by decide +kernel
theorem dJ9_floorMod_7cf53_5 : decode cJ9_floorMod_7cf53 5 = .ok (.iload_n 1, 1) := by decide +kernel
theorem dJ9_floorMod_7cf53_6 : decode cJ9_floorMod_7cf53 6 = .ok (.ixor, 1) := by decide +kernel
theorem dJ9_floorMod_7cf53_7 : decode cJ9_floorMod_7cf53 7 = .ok (.ifCond .ge 11, 3) := by decide +kernel
theorem dJ9_floorMod_7cf53_10 : decode cJ9_floorMod_7cf53 10 = .ok (.iload_n 2, 1) := by decide +kernel
theorem dJ9_floorMod_7cf53_11 : decode cJ9_floorMod_7cf53 11 = .ok (.ifCond .eq 7, 3) := by decide +kernel
theorem dJ9_floorMod_7cf53_14 : decode cJ9_floorMod_7cf53 14 = .ok (.iload_n 2, 1) := by decide +kernel
theorem dJ9_floorMod_7cf53_15 : decode cJ9_floorMod_7cf53 15 = .ok (.iload_n 1, 1) := by decide +kernel
theorem dJ9_floorMod_7cf53_16 : decode cJ9_floorMod_7cf53 16 = .ok (.iadd, 1) := by decide +kernel
theorem dJ9_floorMod_7cf53_17 : decode cJ9_floorMod_7cf53 17 = .ok (.ireturn, 1) := by decide +kernel
theorem dJ9_floorMod_7cf53_18 : decode cJ9_floorMod_7cf53 18 = .ok (.iload_n 2, 1) := by decide +kernel
theorem dJ9_floorMod_7cf53_19 : decode cJ9_floorMod_7cf53 19 = .ok (.ireturn, 1) := by decide +kernel
theorem dJ9_max_7cf53_0 : decode cJ9_max_7cf53 0 = .ok (.iload_n 0, 1) := by decide +kernel
theorem dJ9_max_7cf53_1 : decode cJ9_max_7cf53 1 = .ok (.iload_n 1, 1) := by decide +kernel
theorem dJ9_max_7cf53_2 : decode cJ9_max_7cf53 2 = .ok (.if_icmp .lt 7, 3) := by decide +kernel
theorem dJ9_max_7cf53_5 : decode cJ9_max_7cf53 5 = .ok (.iload_n 0, 1) := by decide +kernel
theorem dJ9_max_7cf53_6 : decode cJ9_max_7cf53 6 = .ok (.goto 4, 3) := by decide +kernel
theorem dJ9_max_7cf53_9 : decode cJ9_max_7cf53 9 = .ok (.iload_n 1, 1) := by decide +kernel
theorem dJ9_max_7cf53_10 : decode cJ9_max_7cf53 10 = .ok (.ireturn, 1) := by decide +kernel
theorem dJ9_min_7cf53_0 : decode cJ9_min_7cf53 0 = .ok (.iload_n 0, 1) := by decide +kernel
theorem dJ9_min_7cf53_1 : decode cJ9_min_7cf53 1 = .ok (.iload_n 1, 1) := by decide +kernel
theorem dJ9_min_7cf53_2 : decode cJ9_min_7cf53 2 = .ok (.if_icmp .gt 7, 3) := by decide +kernel
theorem dJ9_min_7cf53_5 : decode cJ9_min_7cf53 5 = .ok (.iload_n 0, 1) := by decide +kernel
theorem dJ9_min_7cf53_6 : decode cJ9_min_7cf53 6 = .ok (.goto 4, 3) := by decide +kernel
theorem dJ9_min_7cf53_9 : decode cJ9_min_7cf53 9 = .ok (.iload_n 1, 1) := by decide +kernel
theorem dJ9_min_7cf53_10 : decode cJ9_min_7cf53 10 = .ok (.ireturn, 1) := by decide +kernel
