theorem dX0_init_0 : decode cX0_init 0 = .ok (.aload_n 0, 1) := by decide +kernel
theorem dX0_init_1 : decode cX0_init 1 = .ok (.invokespecial 1, 3) := by decide +kernel
theorem dX0_init_4 : decode cX0_init 4 = .ok (.aload_n 0, 1) := by decide +kernel
theorem dX0_init_5 : decode cX0_init 5 = .ok (.iload_n 1, 1) := by decide +kernel
theorem dX0_init_6 : decode cX0_init 6 = .ok (.putfield 7, 3) := by decide +kernel
theorem dX0_init_9 : decode cX0_init 9 = .ok (.aload_n 0, 1) := by decide +kernel
theorem dX0_init_10 : decode cX0_init 10 = .ok (.iload_n 2, 1) := by decide +kernel
theorem dX0_init_11 : decode cX0_init 11 = .ok (.putfield 13, 3) := by decide +kernel
theorem dX0_init_14 : decode cX0_init 14 = .ok (.aload_n 0, 1) := by decide +kernel
theorem dX0_init_15 : decode cX0_init 15 = .ok (.new 16, 3) := by decide +kernel
theorem dX0_init_18 : decode cX0_init 18 = .ok (.dup, 1) := by decide +kernel
theorem dX0_init_19 : decode cX0_init 19 = .ok (.invokespecial 18, 3) := by decide +kernel
theorem dX0_init_22 : decode cX0_init 22 = .ok (.putfield 19, 3) := by decide +kernel
theorem dX0_init_25 : decode cX0_init 25 = .ok (.return_, 1) := by decide +kernel
theorem dX0_append_0 : decode cX0_append 0 = .ok (.aload_n 0, 1) := by decide +kernel
theorem dX0_append_1 : decode cX0_append 1 = .ok (.getfield 19, 3) := by decide +kernel
theorem dX0_append_4 : decode cX0_append 4 = .ok (.invokevirtual 23, 3) := by decide +kernel
theorem dX0_append_7 : decode cX0_append 7 = .ok (.istore 5, 2) := by decide +kernel
theorem dX0_append_9 : decode cX0_append 9 = .ok (.new 27, 3) := by decide +kernel
theorem dX0_append_12 : decode cX0_append 12 = .ok (.dup, 1) := by decide +kernel
theorem dX0_append_13 : decode cX0_append 13 = .ok (.aload_n 0, 1) := by decide +kernel
theorem dX0_append_14 : decode cX0_append 14 = .ok (.iload 5, 2) := by decide +kernel
theorem dX0_append_16 : decode cX0_append 16 = .ok (.aload_n 1, 1) := by decide +kernel
theorem dX0_append_17 : decode cX0_append 17 = .ok (.iload_n 2, 1) := by decide +kernel
theorem dX0_append_18 : decode cX0_append 18 = .ok (.iload_n 3, 1) := by decide +kernel
theorem dX0_append_19 : decode cX0_append 19 = .ok (.iload 4, 2) := by decide +kernel
theorem dX0_append_21 : decode cX0_append 21 = .ok (.invokespecial 29, 3) := by decide +kernel
theorem dX0_append_24 : decode cX0_append 24 = .ok (.astore 6, 2) := by decide +kernel
theorem dX0_append_26 : decode cX0_append 26 = .ok (.iload 5, 2) := by decide +kernel
theorem dX0_append_28 : decode cX0_append 28 = .ok (.ifCond .le 33, 3) := by decide +kernel
theorem dX0_append_31 : decode cX0_append 31 = .ok (.aload_n 0, 1) := by decide +kernel
theorem dX0_append_32 : decode cX0_append 32 = .ok (.getfield 19, 3) := by decide +kernel
theorem dX0_append_35 : decode cX0_append 35 = .ok (.iload 5, 2) := by decide +kernel
theorem dX0_append_37 : decode cX0_append 37 = .ok (.iconst 1, 1) := by decide +kernel
theorem dX0_append_38 : decode cX0_append 38 = .ok (.isub, 1) := by decide +kernel
theorem dX0_append_39 : decode cX0_append 39 = .ok (.invokevirtual 32, 3) := by decide +kernel
theorem dX0_append_42 : decode cX0_append 42 = .ok (.checkcast 27, 3) := by decide +kernel
theorem dX0_append_45 : decode cX0_append 45 = .ok (.astore 7, 2) := by decide +kernel
theorem dX0_append_47 : decode cX0_append 47 = .ok (.aload 6, 2) := by decide +kernel
theorem dX0_append_49 : decode cX0_append 49 = .ok (.aload 7, 2) := by decide +kernel
theorem dX0_append_51 : decode cX0_append 51 = .ok (.putfield 36, 3) := by decide +kernel
theorem dX0_append_54 : decode cX0_append 54 = .ok (.aload 7, 2) := by decide +kernel
theorem dX0_append_56 : decode cX0_append 56 = .ok (.aload 6, 2) := by decide +kernel
theorem dX0_append_58 : decode cX0_append 58 = .ok (.putfield 40, 3) := by decide +kernel
theorem dX0_append_61 : decode cX0_append 61 = .ok (.aload_n 0, 1) := by decide +kernel
theorem dX0_append_62 : decode cX0_append 62 = .ok (.getfield 19, 3) := by decide +kernel
theorem dX0_append_65 : decode cX0_append 65 = .ok (.aload 6, 2) := by decide +kernel
theorem dX0_append_67 : decode cX0_append 67 = .ok (.invokevirtual 43, 3) := by decide +kernel
theorem dX0_append_70 : decode cX0_append 70 = .ok (.pop, 1) := by decide +kernel
theorem dX0_append_71 : decode cX0_append 71 = .ok (.aload_n 1, 1) := by decide +kernel
theorem dX0_append_72 : decode cX0_append 72 = .ok (.aload_n 1, 1) := by decide +kernel
theorem dX0_append_73 : decode cX0_append 73 = .ok (.getfield 47, 3) := by decide +kernel
theorem dX0_append_76 : decode cX0_append 76 = .ok (.iload 4, 2) := by decide +kernel
theorem dX0_append_78 : decode cX0_append 78 = .ok (.invokestatic 52, 3) := by decide +kernel
theorem dX0_append_81 : decode cX0_append 81 = .ok (.invokestatic 58, 3) := by decide +kernel
theorem dX0_append_84 : decode cX0_append 84 = .ok (.putfield 47, 3) := by decide +kernel
theorem dX0_append_87 : decode cX0_append 87 = .ok (.iload 5, 2) := by decide +kernel
theorem dX0_append_89 : decode cX0_append 89 = .ok (.ireturn, 1) := by decide +kernel
theorem dX1_init_0 : decode cX1_init 0 = .ok (.aload_n 0, 1) := by decide +kernel
theorem dX1_init_1 : decode cX1_init 1 = .ok (.invokespecial 3, 3) := by decide +kernel
theorem dX1_init_4 : decode cX1_init 4 = .ok (.aload_n 0, 1) := by decide +kernel
theorem dX1_init_5 : decode cX1_init 5 = .ok (.new 9, 3) := by decide +kernel
theorem dX1_init_8 : decode cX1_init 8 = .ok (.dup, 1) := by decide +kernel
theorem dX1_init_9 : decode cX1_init 9 = .ok (.invokespecial 11, 3) := by decide +kernel
theorem dX1_init_12 : decode cX1_init 12 = .ok (.putfield 12, 3) := by decide +kernel
theorem dX1_init_15 : decode cX1_init 15 = .ok (.aload_n 0, 1) := by decide +kernel
theorem dX1_init_16 : decode cX1_init 16 = .ok (.iconst 4, 1) := by decide +kernel
theorem dX1_init_17 : decode cX1_init 17 = .ok (.putfield 18, 3) := by decide +kernel
theorem dX1_init_20 : decode cX1_init 20 = .ok (.return_, 1) := by decide +kernel
theorem dX1_insert_0 : decode cX1_insert 0 = .ok (.aload_n 0, 1) := by decide +kernel
theorem dX1_insert_1 : decode cX1_insert 1 = .ok (.getfield 12, 3) := by decide +kernel
theorem dX1_insert_4 : decode cX1_insert 4 = .ok (.iload_n 2, 1) := by decide +kernel
theorem dX1_insert_5 : decode cX1_insert 5 = .ok (.aload_n 1, 1) := by decide +kernel
theorem dX1_insert_6 : decode cX1_insert 6 = .ok (.invokevirtual 22, 3) := by decide +kernel
theorem dX1_insert_9 : decode cX1_insert 9 = .ok (.aload_n 0, 1) := by decide +kernel
theorem dX1_insert_10 : decode cX1_insert 10 = .ok (.invokevirtual 26, 3) := by decide +kernel
theorem dX1_insert_13 : decode cX1_insert 13 = .ok (.return_, 1) := by decide +kernel
theorem dX1_takeOut_0 : decode cX1_takeOut 0 = .ok (.aload_n 0, 1) := by decide +kernel
theorem dX1_takeOut_1 : decode cX1_takeOut 1 = .ok (.getfield 12, 3) := by decide +kernel
theorem dX1_takeOut_4 : decode cX1_takeOut 4 = .ok (.iload_n 1, 1) := by decide +kernel
theorem dX1_takeOut_5 : decode cX1_takeOut 5 = .ok (.invokevirtual 29, 3) := by decide +kernel
theorem dX1_takeOut_8 : decode cX1_takeOut 8 = .ok (.pop, 1) := by decide +kernel
theorem dX1_takeOut_9 : decode cX1_takeOut 9 = .ok (.aload_n 0, 1) := by decide +kernel
theorem dX1_takeOut_10 : decode cX1_takeOut 10 = .ok (.invokevirtual 26, 3) := by decide +kernel
theorem dX1_takeOut_13 : decode cX1_takeOut 13 = .ok (.return_, 1) := by decide +kernel
theorem dX1_takeOutAllOf_0 : decode cX1_takeOutAllOf 0 = .ok (.aload_n 0, 1) := by decide +kernel
theorem dX1_takeOutAllOf_1 : decode cX1_takeOutAllOf 1 = .ok (.getfield 12, 3) := by decide +kernel
theorem dX1_takeOutAllOf_4 : decode cX1_takeOutAllOf 4 = .ok (.invokevirtual 33, 3) := by decide +kernel
theorem dX1_takeOutAllOf_7 : decode cX1_takeOutAllOf 7 = .ok (.iconst 1, 1) := by decide +kernel
theorem dX1_takeOutAllOf_8 : decode cX1_takeOutAllOf 8 = .ok (.isub, 1) := by decide +kernel
theorem dX1_takeOutAllOf_9 : decode cX1_takeOutAllOf 9 = .ok (.istore_n 2, 1) := by decide +kernel
theorem dX1_takeOutAllOf_10 : decode cX1_takeOutAllOf 10 = .ok (.iload_n 2, 1) := by decide +kernel
theorem dX1_takeOutAllOf_11 : decode cX1_takeOutAllOf 11 = .ok (.ifCond .lt 36, 3) := by decide +kernel
theorem dX1_takeOutAllOf_14 : decode cX1_takeOutAllOf 14 = .ok (.aload_n 0, 1) := by decide +kernel
theorem dX1_takeOutAllOf_15 : decode cX1_takeOutAllOf 15 = .ok (.getfield 12, 3) := by decide +kernel
theorem dX1_takeOutAllOf_18 : decode cX1_takeOutAllOf 18 = .ok (.iload_n 2, 1) := by decide +kernel
theorem dX1_takeOutAllOf_19 : decode cX1_takeOutAllOf 19 = .ok (.invokevirtual 37, 3) := by decide +kernel
theorem dX1_takeOutAllOf_22 : decode cX1_takeOutAllOf 22 = .ok (.checkcast 40, 3) := by decide +kernel
theorem dX1_takeOutAllOf_25 : decode cX1_takeOutAllOf 25 = .ok (.getfield 42, 3) := by decide +kernel
theorem dX1_takeOutAllOf_28 : decode cX1_takeOutAllOf 28 = .ok (.aload_n 1, 1) := by decide +kernel
theorem dX1_takeOutAllOf_29 : decode cX1_takeOutAllOf 29 = .ok (.if_acmp .ne 12, 3) := by decide +kernel
theorem dX1_takeOutAllOf_32 : decode cX1_takeOutAllOf 32 = .ok (.aload_n 0, 1) := by decide +kernel
theorem dX1_takeOutAllOf_33 : decode cX1_takeOutAllOf 33 = .ok (.getfield 12, 3) := by decide +kernel
theorem dX1_takeOutAllOf_36 : decode cX1_takeOutAllOf 36 = .ok (.iload_n 2, 1) := by decide +kernel
theorem dX1_takeOutAllOf_37 : decode cX1_takeOutAllOf 37 = .ok (.invokevirtual 29, 3) := by decide +kernel
theorem dX1_takeOutAllOf_40 : decode cX1_takeOutAllOf 40 = .ok (.pop, 1) := by decide +kernel
theorem dX1_takeOutAllOf_41 : decode cX1_takeOutAllOf 41 = .ok (.iinc 2 (-1), 3) := by decide +kernel
theorem dX1_takeOutAllOf_44 : decode cX1_takeOutAllOf 44 = .ok (.goto (-34), 3) := by decide +kernel
theorem dX1_takeOutAllOf_47 : decode cX1_takeOutAllOf 47 = .ok (.aload_n 0, 1) := by decide +kernel
theorem dX1_takeOutAllOf_48 : decode cX1_takeOutAllOf 48 = .ok (.invokevirtual 26, 3) := by decide +kernel
theorem dX1_takeOutAllOf_51 : decode cX1_takeOutAllOf 51 = .ok (.return_, 1) := by decide +kernel
theorem dX1_link_0 : decode cX1_link 0 = .ok (.aconst_null, 1) := by decide +kernel
theorem dX1_link_1 : decode cX1_link 1 = .ok (.astore_n 1, 1) := by decide +kernel
theorem dX1_link_2 : decode cX1_link 2 = .ok (.iconst 0, 1) := by decide +kernel
theorem dX1_link_3 : decode cX1_link 3 = .ok (.istore_n 2, 1) := by decide +kernel
theorem dX1_link_4 : decode cX1_link 4 = .ok (.iload_n 2, 1) := by decide +kernel
theorem dX1_link_5 : decode cX1_link 5 = .ok (.aload_n 0, 1) := by decide +kernel
theorem dX1_link_6 : decode cX1_link 6 = .ok (.getfield 12, 3) := by decide +kernel
theorem dX1_link_9 : decode cX1_link 9 = .ok (.invokevirtual 33, 3) := by decide +kernel
theorem dX1_link_12 : decode cX1_link 12 = .ok (.if_icmp .ge 42, 3) := by decide +kernel
theorem dX1_link_15 : decode cX1_link 15 = .ok (.aload_n 0, 1) := by decide +kernel
theorem dX1_link_16 : decode cX1_link 16 = .ok (.getfield 12, 3) := by decide +kernel
theorem dX1_link_19 : decode cX1_link 19 = .ok (.iload_n 2, 1) := by decide +kernel
theorem dX1_link_20 : decode cX1_link 20 = .ok (.invokevirtual 37, 3) := by decide +kernel
theorem dX1_link_23 : decode cX1_link 23 = .ok (.checkcast 40, 3) := by decide +kernel
theorem dX1_link_26 : decode cX1_link 26 = .ok (.astore_n 3, 1) := by decide +kernel
theorem dX1_link_27 : decode cX1_link 27 = .ok (.aload_n 3, 1) := by decide +kernel
theorem dX1_link_28 : decode cX1_link 28 = .ok (.aload_n 1, 1) := by decide +kernel
theorem dX1_link_29 : decode cX1_link 29 = .ok (.putfield 50, 3) := by decide +kernel
theorem dX1_link_32 : decode cX1_link 32 = .ok (.aload_n 3, 1) := by decide +kernel
theorem dX1_link_33 : decode cX1_link 33 = .ok (.aconst_null, 1) := by decide +kernel
theorem dX1_link_34 : decode cX1_link 34 = .ok (.putfield 54, 3) := by decide +kernel
theorem dX1_link_37 : decode cX1_link 37 = .ok (.aload_n 1, 1) := by decide +kernel
theorem dX1_link_38 : decode cX1_link 38 = .ok (.ifnull 8, 3) := by decide +kernel
theorem dX1_link_41 : decode cX1_link 41 = .ok (.aload_n 1, 1) := by decide +kernel
theorem dX1_link_42 : decode cX1_link 42 = .ok (.aload_n 3, 1) := by decide +kernel
theorem dX1_link_43 : decode cX1_link 43 = .ok (.putfield 54, 3) := by decide +kernel
theorem dX1_link_46 : decode cX1_link 46 = .ok (.aload_n 3, 1) := by decide +kernel
theorem dX1_link_47 : decode cX1_link 47 = .ok (.astore_n 1, 1) := by decide +kernel
theorem dX1_link_48 : decode cX1_link 48 = .ok (.iinc 2 1, 3) := by decide +kernel
theorem dX1_link_51 : decode cX1_link 51 = .ok (.goto (-47), 3) := by decide +kernel
theorem dX1_link_54 : decode cX1_link 54 = .ok (.return_, 1) := by decide +kernel
theorem dX1_isBrokenDuring_0 : decode cX1_isBrokenDuring 0 = .ok (.aload_n 0, 1) := by decide +kernel
theorem dX1_isBrokenDuring_1 : decode cX1_isBrokenDuring 1 = .ok (.getfield 57, 3) := by decide +kernel
theorem dX1_isBrokenDuring_4 : decode cX1_isBrokenDuring 4 = .ok (.ifCond .eq 25, 3) := by decide +kernel
theorem dX1_isBrokenDuring_7 : decode cX1_isBrokenDuring 7 = .ok (.iload_n 1, 1) := by decide +kernel
theorem dX1_isBrokenDuring_8 : decode cX1_isBrokenDuring 8 = .ok (.aload_n 0, 1) := by decide +kernel
theorem dX1_isBrokenDuring_9 : decode cX1_isBrokenDuring 9 = .ok (.getfield 61, 3) := by decide +kernel
theorem dX1_isBrokenDuring_12 : decode cX1_isBrokenDuring 12 = .ok (.if_icmp .ge 17, 3) := by decide +kernel
theorem dX1_isBrokenDuring_15 : decode cX1_isBrokenDuring 15 = .ok (.iload_n 1, 1) := by decide +kernel
theorem dX1_isBrokenDuring_16 : decode cX1_isBrokenDuring 16 = .ok (.iload_n 2, 1) := by decide +kernel
theorem dX1_isBrokenDuring_17 : decode cX1_isBrokenDuring 17 = .ok (.iadd, 1) := by decide +kernel
theorem dX1_isBrokenDuring_18 : decode cX1_isBrokenDuring 18 = .ok (.aload_n 0, 1) := by decide +kernel
theorem dX1_isBrokenDuring_19 : decode cX1_isBrokenDuring 19 = .ok (.getfield 64, 3) := by decide +kernel
theorem dX1_isBrokenDuring_22 : decode cX1_isBrokenDuring 22 = .ok (.if_icmp .le 7, 3) := by decide +kernel
theorem dX1_isBrokenDuring_25 : decode cX1_isBrokenDuring 25 = .ok (.iconst 1, 1) := by decide +kernel
theorem dX1_isBrokenDuring_26 : decode cX1_isBrokenDuring 26 = .ok (.goto 4, 3) := by decide +kernel
theorem dX1_isBrokenDuring_29 : decode cX1_isBrokenDuring 29 = .ok (.iconst 0, 1) := by decide +kernel
theorem dX1_isBrokenDuring_30 : decode cX1_isBrokenDuring 30 = .ok (.ireturn, 1) := by decide +kernel
theorem dX1_leastStart_0 : decode cX1_leastStart 0 = .ok (.aload_n 0, 1) := by decide +kernel
theorem dX1_leastStart_1 : decode cX1_leastStart 1 = .ok (.iload_n 1, 1) := by decide +kernel
theorem dX1_leastStart_2 : decode cX1_leastStart 2 = .ok (.iload_n 2, 1) := by decide +kernel
theorem dX1_leastStart_3 : decode cX1_leastStart 3 = .ok (.invokevirtual 67, 3) := by decide +kernel
theorem dX1_leastStart_6 : decode cX1_leastStart 6 = .ok (.ifCond .eq 10, 3) := by decide +kernel
theorem dX1_leastStart_9 : decode cX1_leastStart 9 = .ok (.aload_n 0, 1) := by decide +kernel
theorem dX1_leastStart_10 : decode cX1_leastStart 10 = .ok (.getfield 61, 3) := by decide +kernel
theorem dX1_leastStart_13 : decode cX1_leastStart 13 = .ok (.goto 4, 3) := by decide +kernel
theorem dX1_leastStart_16 : decode cX1_leastStart 16 = .ok (.iload_n 1, 1) := by decide +kernel
theorem dX1_leastStart_17 : decode cX1_leastStart 17 = .ok (.ireturn, 1) := by decide +kernel
theorem dX1_greatestStart_0 : decode cX1_greatestStart 0 = .ok (.aload_n 0, 1) := by decide +kernel
theorem dX1_greatestStart_1 : decode cX1_greatestStart 1 = .ok (.iload_n 1, 1) := by decide +kernel
theorem dX1_greatestStart_2 : decode cX1_greatestStart 2 = .ok (.iload_n 2, 1) := by decide +kernel
theorem dX1_greatestStart_3 : decode cX1_greatestStart 3 = .ok (.invokevirtual 67, 3) := by decide +kernel
theorem dX1_greatestStart_6 : decode cX1_greatestStart 6 = .ok (.ifCond .eq 12, 3) := by decide +kernel
theorem dX1_greatestStart_9 : decode cX1_greatestStart 9 = .ok (.aload_n 0, 1) := by decide +kernel
theorem dX1_greatestStart_10 : decode cX1_greatestStart 10 = .ok (.getfield 64, 3) := by decide +kernel
theorem dX1_greatestStart_13 : decode cX1_greatestStart 13 = .ok (.iload_n 2, 1) := by decide +kernel
theorem dX1_greatestStart_14 : decode cX1_greatestStart 14 = .ok (.isub, 1) := by decide +kernel
theorem dX1_greatestStart_15 : decode cX1_greatestStart 15 = .ok (.goto 4, 3) := by decide +kernel
theorem dX1_greatestStart_18 : decode cX1_greatestStart 18 = .ok (.iload_n 1, 1) := by decide +kernel
theorem dX1_greatestStart_19 : decode cX1_greatestStart 19 = .ok (.ireturn, 1) := by decide +kernel
theorem dX1_leastLoads_0 : decode cX1_leastLoads 0 = .ok (.iconst 0, 1) := by decide +kernel
theorem dX1_leastLoads_1 : decode cX1_leastLoads 1 = .ok (.istore_n 1, 1) := by decide +kernel
theorem dX1_leastLoads_2 : decode cX1_leastLoads 2 = .ok (.iconst 0, 1) := by decide +kernel
theorem dX1_leastLoads_3 : decode cX1_leastLoads 3 = .ok (.istore_n 2, 1) := by decide +kernel
theorem dX1_leastLoads_4 : decode cX1_leastLoads 4 = .ok (.iconst 0, 1) := by decide +kernel
theorem dX1_leastLoads_5 : decode cX1_leastLoads 5 = .ok (.istore_n 3, 1) := by decide +kernel
theorem dX1_leastLoads_6 : decode cX1_leastLoads 6 = .ok (.iload_n 3, 1) := by decide +kernel
theorem dX1_leastLoads_7 : decode cX1_leastLoads 7 = .ok (.aload_n 0, 1) := by decide +kernel
theorem dX1_leastLoads_8 : decode cX1_leastLoads 8 = .ok (.getfield 12, 3) := by decide +kernel
theorem dX1_leastLoads_11 : decode cX1_leastLoads 11 = .ok (.invokevirtual 33, 3) := by decide +kernel
theorem dX1_leastLoads_14 : decode cX1_leastLoads 14 = .ok (.if_icmp .ge 82, 3) := by decide +kernel
theorem dX1_leastLoads_17 : decode cX1_leastLoads 17 = .ok (.aload_n 0, 1) := by decide +kernel
theorem dX1_leastLoads_18 : decode cX1_leastLoads 18 = .ok (.getfield 12, 3) := by decide +kernel
theorem dX1_leastLoads_21 : decode cX1_leastLoads 21 = .ok (.iload_n 3, 1) := by decide +kernel
theorem dX1_leastLoads_22 : decode cX1_leastLoads 22 = .ok (.invokevirtual 37, 3) := by decide +kernel
theorem dX1_leastLoads_25 : decode cX1_leastLoads 25 = .ok (.checkcast 40, 3) := by decide +kernel
theorem dX1_leastLoads_28 : decode cX1_leastLoads 28 = .ok (.getfield 71, 3) := by decide +kernel
theorem dX1_leastLoads_31 : decode cX1_leastLoads 31 = .ok (.istore 4, 2) := by decide +kernel
theorem dX1_leastLoads_33 : decode cX1_leastLoads 33 = .ok (.iload_n 2, 1) := by decide +kernel
theorem dX1_leastLoads_34 : decode cX1_leastLoads 34 = .ok (.iload 4, 2) := by decide +kernel
theorem dX1_leastLoads_36 : decode cX1_leastLoads 36 = .ok (.iload_n 1, 1) := by decide +kernel
theorem dX1_leastLoads_37 : decode cX1_leastLoads 37 = .ok (.iconst (-1), 1) := by decide +kernel
theorem dX1_leastLoads_38 : decode cX1_leastLoads 38 = .ok (.ixor, 1) := by decide +kernel
theorem dX1_leastLoads_39 : decode cX1_leastLoads 39 = .ok (.iand, 1) := by decide +kernel
theorem dX1_leastLoads_40 : decode cX1_leastLoads 40 = .ok (.invokestatic 74, 3) := by decide +kernel
theorem dX1_leastLoads_43 : decode cX1_leastLoads 43 = .ok (.iadd, 1) := by decide +kernel
theorem dX1_leastLoads_44 : decode cX1_leastLoads 44 = .ok (.istore_n 2, 1) := by decide +kernel
theorem dX1_leastLoads_45 : decode cX1_leastLoads 45 = .ok (.iload_n 1, 1) := by decide +kernel
theorem dX1_leastLoads_46 : decode cX1_leastLoads 46 = .ok (.iload 4, 2) := by decide +kernel
theorem dX1_leastLoads_48 : decode cX1_leastLoads 48 = .ok (.ior, 1) := by decide +kernel
theorem dX1_leastLoads_49 : decode cX1_leastLoads 49 = .ok (.istore_n 1, 1) := by decide +kernel
theorem dX1_leastLoads_50 : decode cX1_leastLoads 50 = .ok (.iload_n 1, 1) := by decide +kernel
theorem dX1_leastLoads_51 : decode cX1_leastLoads 51 = .ok (.invokestatic 74, 3) := by decide +kernel
theorem dX1_leastLoads_54 : decode cX1_leastLoads 54 = .ok (.aload_n 0, 1) := by decide +kernel
theorem dX1_leastLoads_55 : decode cX1_leastLoads 55 = .ok (.getfield 18, 3) := by decide +kernel
theorem dX1_leastLoads_58 : decode cX1_leastLoads 58 = .ok (.isub, 1) := by decide +kernel
theorem dX1_leastLoads_59 : decode cX1_leastLoads 59 = .ok (.istore 5, 2) := by decide +kernel
theorem dX1_leastLoads_61 : decode cX1_leastLoads 61 = .ok (.iload 5, 2) := by decide +kernel
theorem dX1_leastLoads_63 : decode cX1_leastLoads 63 = .ok (.ifCond .le 27, 3) := by decide +kernel
theorem dX1_leastLoads_66 : decode cX1_leastLoads 66 = .ok (.iload_n 1, 1) := by decide +kernel
theorem dX1_leastLoads_67 : decode cX1_leastLoads 67 = .ok (.aload_n 0, 1) := by decide +kernel
theorem dX1_leastLoads_68 : decode cX1_leastLoads 68 = .ok (.iload_n 1, 1) := by decide +kernel
theorem dX1_leastLoads_69 : decode cX1_leastLoads 69 = .ok (.iload 4, 2) := by decide +kernel
theorem dX1_leastLoads_71 : decode cX1_leastLoads 71 = .ok (.iconst (-1), 1) := by decide +kernel
theorem dX1_leastLoads_72 : decode cX1_leastLoads 72 = .ok (.ixor, 1) := by decide +kernel
theorem dX1_leastLoads_73 : decode cX1_leastLoads 73 = .ok (.iand, 1) := by decide +kernel
theorem dX1_leastLoads_74 : decode cX1_leastLoads 74 = .ok (.iload_n 3, 1) := by decide +kernel
theorem dX1_leastLoads_75 : decode cX1_leastLoads 75 = .ok (.iconst 1, 1) := by decide +kernel
theorem dX1_leastLoads_76 : decode cX1_leastLoads 76 = .ok (.iadd, 1) := by decide +kernel
theorem dX1_leastLoads_77 : decode cX1_leastLoads 77 = .ok (.invokevirtual 80, 3) := by decide +kernel
theorem dX1_leastLoads_80 : decode cX1_leastLoads 80 = .ok (.iconst (-1), 1) := by decide +kernel
theorem dX1_leastLoads_81 : decode cX1_leastLoads 81 = .ok (.ixor, 1) := by decide +kernel
theorem dX1_leastLoads_82 : decode cX1_leastLoads 82 = .ok (.iand, 1) := by decide +kernel
theorem dX1_leastLoads_83 : decode cX1_leastLoads 83 = .ok (.istore_n 1, 1) := by decide +kernel
theorem dX1_leastLoads_84 : decode cX1_leastLoads 84 = .ok (.iinc 5 (-1), 3) := by decide +kernel
theorem dX1_leastLoads_87 : decode cX1_leastLoads 87 = .ok (.goto (-26), 3) := by decide +kernel
theorem dX1_leastLoads_90 : decode cX1_leastLoads 90 = .ok (.iinc 3 1, 3) := by decide +kernel
theorem dX1_leastLoads_93 : decode cX1_leastLoads 93 = .ok (.goto (-87), 3) := by decide +kernel
theorem dX1_leastLoads_96 : decode cX1_leastLoads 96 = .ok (.iload_n 2, 1) := by decide +kernel
theorem dX1_leastLoads_97 : decode cX1_leastLoads 97 = .ok (.ireturn, 1) := by decide +kernel
theorem dX1_neededLast_0 : decode cX1_neededLast 0 = .ok (.iload_n 1, 1) := by decide +kernel
theorem dX1_neededLast_1 : decode cX1_neededLast 1 = .ok (.istore_n 3, 1) := by decide +kernel
theorem dX1_neededLast_2 : decode cX1_neededLast 2 = .ok (.iload_n 2, 1) := by decide +kernel
theorem dX1_neededLast_3 : decode cX1_neededLast 3 = .ok (.istore 4, 2) := by decide +kernel
theorem dX1_neededLast_5 : decode cX1_neededLast 5 = .ok (.iload 4, 2) := by decide +kernel
theorem dX1_neededLast_7 : decode cX1_neededLast 7 = .ok (.aload_n 0, 1) := by decide +kernel
theorem dX1_neededLast_8 : decode cX1_neededLast 8 = .ok (.getfield 12, 3) := by decide +kernel
theorem dX1_neededLast_11 : decode cX1_neededLast 11 = .ok (.invokevirtual 33, 3) := by decide +kernel
theorem dX1_neededLast_14 : decode cX1_neededLast 14 = .ok (.if_icmp .ge 41, 3) := by decide +kernel
theorem dX1_neededLast_17 : decode cX1_neededLast 17 = .ok (.iload_n 3, 1) := by decide +kernel
theorem dX1_neededLast_18 : decode cX1_neededLast 18 = .ok (.aload_n 0, 1) := by decide +kernel
theorem dX1_neededLast_19 : decode cX1_neededLast 19 = .ok (.getfield 12, 3) := by decide +kernel
theorem dX1_neededLast_22 : decode cX1_neededLast 22 = .ok (.iload 4, 2) := by decide +kernel
theorem dX1_neededLast_24 : decode cX1_neededLast 24 = .ok (.invokevirtual 37, 3) := by decide +kernel
theorem dX1_neededLast_27 : decode cX1_neededLast 27 = .ok (.checkcast 40, 3) := by decide +kernel
theorem dX1_neededLast_30 : decode cX1_neededLast 30 = .ok (.getfield 71, 3) := by decide +kernel
theorem dX1_neededLast_33 : decode cX1_neededLast 33 = .ok (.iconst (-1), 1) := by decide +kernel
theorem dX1_neededLast_34 : decode cX1_neededLast 34 = .ok (.ixor, 1) := by decide +kernel
theorem dX1_neededLast_35 : decode cX1_neededLast 35 = .ok (.iand, 1) := by decide +kernel
theorem dX1_neededLast_36 : decode cX1_neededLast 36 = .ok (.istore 5, 2) := by decide +kernel
theorem dX1_neededLast_38 : decode cX1_neededLast 38 = .ok (.iload 5, 2) := by decide +kernel
theorem dX1_neededLast_40 : decode cX1_neededLast 40 = .ok (.ifCond .ne 6, 3) := by decide +kernel
theorem dX1_neededLast_43 : decode cX1_neededLast 43 = .ok (.goto 12, 3) := by decide +kernel
theorem dX1_neededLast_46 : decode cX1_neededLast 46 = .ok (.iload 5, 2) := by decide +kernel
theorem dX1_neededLast_48 : decode cX1_neededLast 48 = .ok (.istore_n 3, 1) := by decide +kernel
theorem dX1_neededLast_49 : decode cX1_neededLast 49 = .ok (.iinc 4 1, 3) := by decide +kernel
theorem dX1_neededLast_52 : decode cX1_neededLast 52 = .ok (.goto (-47), 3) := by decide +kernel
theorem dX1_neededLast_55 : decode cX1_neededLast 55 = .ok (.iload_n 3, 1) := by decide +kernel
theorem dX1_neededLast_56 : decode cX1_neededLast 56 = .ok (.iload_n 3, 1) := by decide +kernel
theorem dX1_neededLast_57 : decode cX1_neededLast 57 = .ok (.ineg, 1) := by decide +kernel
theorem dX1_neededLast_58 : decode cX1_neededLast 58 = .ok (.iand, 1) := by decide +kernel
theorem dX1_neededLast_59 : decode cX1_neededLast 59 = .ok (.ireturn, 1) := by decide +kernel
theorem dX2_init_0 : decode cX2_init 0 = .ok (.aload_n 0, 1) := by decide +kernel
theorem dX2_init_1 : decode cX2_init 1 = .ok (.invokespecial 1, 3) := by decide +kernel
theorem dX2_init_4 : decode cX2_init 4 = .ok (.aload_n 0, 1) := by decide +kernel
theorem dX2_init_5 : decode cX2_init 5 = .ok (.aload_n 1, 1) := by decide +kernel
theorem dX2_init_6 : decode cX2_init 6 = .ok (.putfield 7, 3) := by decide +kernel
theorem dX2_init_9 : decode cX2_init 9 = .ok (.aload_n 0, 1) := by decide +kernel
theorem dX2_init_10 : decode cX2_init 10 = .ok (.iload_n 2, 1) := by decide +kernel
theorem dX2_init_11 : decode cX2_init 11 = .ok (.putfield 13, 3) := by decide +kernel
theorem dX2_init_14 : decode cX2_init 14 = .ok (.aload_n 0, 1) := by decide +kernel
theorem dX2_init_15 : decode cX2_init 15 = .ok (.aload_n 3, 1) := by decide +kernel
theorem dX2_init_16 : decode cX2_init 16 = .ok (.putfield 17, 3) := by decide +kernel
theorem dX2_init_19 : decode cX2_init 19 = .ok (.aload_n 0, 1) := by decide +kernel
theorem dX2_init_20 : decode cX2_init 20 = .ok (.iload 4, 2) := by decide +kernel
theorem dX2_init_22 : decode cX2_init 22 = .ok (.putfield 21, 3) := by decide +kernel
theorem dX2_init_25 : decode cX2_init 25 = .ok (.aload_n 0, 1) := by decide +kernel
theorem dX2_init_26 : decode cX2_init 26 = .ok (.iload 5, 2) := by decide +kernel
theorem dX2_init_28 : decode cX2_init 28 = .ok (.putfield 24, 3) := by decide +kernel
theorem dX2_init_31 : decode cX2_init 31 = .ok (.aload_n 0, 1) := by decide +kernel
theorem dX2_init_32 : decode cX2_init 32 = .ok (.iload 6, 2) := by decide +kernel
theorem dX2_init_34 : decode cX2_init 34 = .ok (.putfield 27, 3) := by decide +kernel
theorem dX2_init_37 : decode cX2_init 37 = .ok (.return_, 1) := by decide +kernel
theorem dX2_code_0 : decode cX2_code 0 = .ok (.bipush 10, 2) := by decide +kernel
theorem dX2_code_2 : decode cX2_code 2 = .ok (.aload_n 0, 1) := by decide +kernel
theorem dX2_code_3 : decode cX2_code 3 = .ok (.getfield 7, 3) := by decide +kernel
theorem dX2_code_6 : decode cX2_code 6 = .ok (.getfield 30, 3) := by decide +kernel
theorem dX2_code_9 : decode cX2_code 9 = .ok (.imul, 1) := by decide +kernel
theorem dX2_code_10 : decode cX2_code 10 = .ok (.aload_n 0, 1) := by decide +kernel
theorem dX2_code_11 : decode cX2_code 11 = .ok (.getfield 13, 3) := by decide +kernel
theorem dX2_code_14 : decode cX2_code 14 = .ok (.iadd, 1) := by decide +kernel
theorem dX2_code_15 : decode cX2_code 15 = .ok (.ireturn, 1) := by decide +kernel
theorem dX3_init_0 : decode cX3_init 0 = .ok (.aload_n 0, 1) := by decide +kernel
theorem dX3_init_1 : decode cX3_init 1 = .ok (.invokespecial 3, 3) := by decide +kernel
theorem dX3_init_4 : decode cX3_init 4 = .ok (.aload_n 0, 1) := by decide +kernel
theorem dX3_init_5 : decode cX3_init 5 = .ok (.iconst 4, 1) := by decide +kernel
theorem dX3_init_6 : decode cX3_init 6 = .ok (.iconst 4, 1) := by decide +kernel
theorem dX3_init_7 : decode cX3_init 7 = .ok (.multianewarray 9 2, 4) := by decide +kernel
theorem dX3_init_11 : decode cX3_init 11 = .ok (.putfield 11, 3) := by decide +kernel
theorem dX3_init_14 : decode cX3_init 14 = .ok (.return_, 1) := by decide +kernel
theorem dX3_between_0 : decode cX3_between 0 = .ok (.aload_n 1, 1) := by decide +kernel
theorem dX3_between_1 : decode cX3_between 1 = .ok (.ifnonnull 7, 3) := by decide +kernel
theorem dX3_between_4 : decode cX3_between 4 = .ok (.iconst 0, 1) := by decide +kernel
theorem dX3_between_5 : decode cX3_between 5 = .ok (.goto 7, 3) := by decide +kernel
theorem dX3_between_8 : decode cX3_between 8 = .ok (.aload_n 1, 1) := by decide +kernel
theorem dX3_between_9 : decode cX3_between 9 = .ok (.getfield 16, 3) := by decide +kernel
theorem dX3_between_12 : decode cX3_between 12 = .ok (.istore_n 3, 1) := by decide +kernel
theorem dX3_between_13 : decode cX3_between 13 = .ok (.aload_n 0, 1) := by decide +kernel
theorem dX3_between_14 : decode cX3_between 14 = .ok (.getfield 11, 3) := by decide +kernel
theorem dX3_between_17 : decode cX3_between 17 = .ok (.iload_n 3, 1) := by decide +kernel
theorem dX3_between_18 : decode cX3_between 18 = .ok (.aaload, 1) := by decide +kernel
theorem dX3_between_19 : decode cX3_between 19 = .ok (.aload_n 2, 1) := by decide +kernel
theorem dX3_between_20 : decode cX3_between 20 = .ok (.getfield 16, 3) := by decide +kernel
theorem dX3_between_23 : decode cX3_between 23 = .ok (.iaload, 1) := by decide +kernel
theorem dX3_between_24 : decode cX3_between 24 = .ok (.ireturn, 1) := by decide +kernel
theorem dX3_sumOf_0 : decode cX3_sumOf 0 = .ok (.iconst 0, 1) := by decide +kernel
theorem dX3_sumOf_1 : decode cX3_sumOf 1 = .ok (.istore_n 2, 1) := by decide +kernel
theorem dX3_sumOf_2 : decode cX3_sumOf 2 = .ok (.iconst 0, 1) := by decide +kernel
theorem dX3_sumOf_3 : decode cX3_sumOf 3 = .ok (.istore_n 3, 1) := by decide +kernel
theorem dX3_sumOf_4 : decode cX3_sumOf 4 = .ok (.iload_n 3, 1) := by decide +kernel
theorem dX3_sumOf_5 : decode cX3_sumOf 5 = .ok (.aload_n 1, 1) := by decide +kernel
theorem dX3_sumOf_6 : decode cX3_sumOf 6 = .ok (.getfield 22, 3) := by decide +kernel
theorem dX3_sumOf_9 : decode cX3_sumOf 9 = .ok (.invokevirtual 28, 3) := by decide +kernel
theorem dX3_sumOf_12 : decode cX3_sumOf 12 = .ok (.if_icmp .ge 36, 3) := by decide +kernel
theorem dX3_sumOf_15 : decode cX3_sumOf 15 = .ok (.aload_n 1, 1) := by decide +kernel
theorem dX3_sumOf_16 : decode cX3_sumOf 16 = .ok (.getfield 22, 3) := by decide +kernel
theorem dX3_sumOf_19 : decode cX3_sumOf 19 = .ok (.iload_n 3, 1) := by decide +kernel
theorem dX3_sumOf_20 : decode cX3_sumOf 20 = .ok (.invokevirtual 34, 3) := by decide +kernel
theorem dX3_sumOf_23 : decode cX3_sumOf 23 = .ok (.checkcast 17, 3) := by decide +kernel
theorem dX3_sumOf_26 : decode cX3_sumOf 26 = .ok (.astore 4, 2) := by decide +kernel
theorem dX3_sumOf_28 : decode cX3_sumOf 28 = .ok (.iload_n 2, 1) := by decide +kernel
theorem dX3_sumOf_29 : decode cX3_sumOf 29 = .ok (.aload_n 0, 1) := by decide +kernel
theorem dX3_sumOf_30 : decode cX3_sumOf 30 = .ok (.aload 4, 2) := by decide +kernel
theorem dX3_sumOf_32 : decode cX3_sumOf 32 = .ok (.getfield 38, 3) := by decide +kernel
theorem dX3_sumOf_35 : decode cX3_sumOf 35 = .ok (.aload 4, 2) := by decide +kernel
theorem dX3_sumOf_37 : decode cX3_sumOf 37 = .ok (.invokevirtual 42, 3) := by decide +kernel
theorem dX3_sumOf_40 : decode cX3_sumOf 40 = .ok (.iadd, 1) := by decide +kernel
theorem dX3_sumOf_41 : decode cX3_sumOf 41 = .ok (.istore_n 2, 1) := by decide +kernel
theorem dX3_sumOf_42 : decode cX3_sumOf 42 = .ok (.iinc 3 1, 3) := by decide +kernel
theorem dX3_sumOf_45 : decode cX3_sumOf 45 = .ok (.goto (-41), 3) := by decide +kernel
theorem dX3_sumOf_48 : decode cX3_sumOf 48 = .ok (.iload_n 2, 1) := by decide +kernel
theorem dX3_sumOf_49 : decode cX3_sumOf 49 = .ok (.ireturn, 1) := by decide +kernel
theorem dX4_init_0 : decode cX4_init 0 = .ok (.aload_n 0, 1) := by decide +kernel
theorem dX4_init_1 : decode cX4_init 1 = .ok (.invokespecial 3, 3) := by decide +kernel
theorem dX4_init_4 : decode cX4_init 4 = .ok (.aload_n 0, 1) := by decide +kernel
theorem dX4_init_5 : decode cX4_init 5 = .ok (.new 9, 3) := by decide +kernel
theorem dX4_init_8 : decode cX4_init 8 = .ok (.dup, 1) := by decide +kernel
theorem dX4_init_9 : decode cX4_init 9 = .ok (.invokespecial 11, 3) := by decide +kernel
theorem dX4_init_12 : decode cX4_init 12 = .ok (.putfield 12, 3) := by decide +kernel
theorem dX4_init_15 : decode cX4_init 15 = .ok (.aload_n 0, 1) := by decide +kernel
theorem dX4_init_16 : decode cX4_init 16 = .ok (.new 9, 3) := by decide +kernel
theorem dX4_init_19 : decode cX4_init 19 = .ok (.dup, 1) := by decide +kernel
theorem dX4_init_20 : decode cX4_init 20 = .ok (.invokespecial 11, 3) := by decide +kernel
theorem dX4_init_23 : decode cX4_init 23 = .ok (.putfield 18, 3) := by decide +kernel
theorem dX4_init_26 : decode cX4_init 26 = .ok (.aload_n 0, 1) := by decide +kernel
theorem dX4_init_27 : decode cX4_init 27 = .ok (.new 21, 3) := by decide +kernel
theorem dX4_init_30 : decode cX4_init 30 = .ok (.dup, 1) := by decide +kernel
theorem dX4_init_31 : decode cX4_init 31 = .ok (.invokespecial 23, 3) := by decide +kernel
theorem dX4_init_34 : decode cX4_init 34 = .ok (.putfield 24, 3) := by decide +kernel
theorem dX4_init_37 : decode cX4_init 37 = .ok (.aload_n 0, 1) := by decide +kernel
theorem dX4_init_38 : decode cX4_init 38 = .ok (.new 9, 3) := by decide +kernel
theorem dX4_init_41 : decode cX4_init 41 = .ok (.dup, 1) := by decide +kernel
theorem dX4_init_42 : decode cX4_init 42 = .ok (.invokespecial 11, 3) := by decide +kernel
theorem dX4_init_45 : decode cX4_init 45 = .ok (.putfield 28, 3) := by decide +kernel
theorem dX4_init_48 : decode cX4_init 48 = .ok (.aload_n 0, 1) := by decide +kernel
theorem dX4_init_49 : decode cX4_init 49 = .ok (.new 9, 3) := by decide +kernel
theorem dX4_init_52 : decode cX4_init 52 = .ok (.dup, 1) := by decide +kernel
theorem dX4_init_53 : decode cX4_init 53 = .ok (.invokespecial 11, 3) := by decide +kernel
theorem dX4_init_56 : decode cX4_init 56 = .ok (.putfield 31, 3) := by decide +kernel
theorem dX4_init_59 : decode cX4_init 59 = .ok (.return_, 1) := by decide +kernel
theorem dX4_insertAtBestPlace_0 : decode cX4_insertAtBestPlace 0 = .ok (.aload_n 1, 1) := by decide +kernel
theorem dX4_insertAtBestPlace_1 : decode cX4_insertAtBestPlace 1 = .ok (.getfield 34, 3) := by decide +kernel
theorem dX4_insertAtBestPlace_4 : decode cX4_insertAtBestPlace 4 = .ok (.astore_n 2, 1) := by decide +kernel
theorem dX4_insertAtBestPlace_5 : decode cX4_insertAtBestPlace 5 = .ok (.aload_n 2, 1) := by decide +kernel
theorem dX4_insertAtBestPlace_6 : decode cX4_insertAtBestPlace 6 = .ok (.getfield 40, 3) := by decide +kernel
theorem dX4_insertAtBestPlace_9 : decode cX4_insertAtBestPlace 9 = .ok (.invokevirtual 45, 3) := by decide +kernel
theorem dX4_insertAtBestPlace_12 : decode cX4_insertAtBestPlace 12 = .ok (.istore_n 3, 1) := by decide +kernel
theorem dX4_insertAtBestPlace_13 : decode cX4_insertAtBestPlace 13 = .ok (.iload_n 3, 1) := by decide +kernel
theorem dX4_insertAtBestPlace_14 : decode cX4_insertAtBestPlace 14 = .ok (.istore 4, 2) := by decide +kernel
theorem dX4_insertAtBestPlace_16 : decode cX4_insertAtBestPlace 16 = .ok (.ldc 49, 2) := by decide +kernel
theorem dX4_insertAtBestPlace_18 : decode cX4_insertAtBestPlace 18 = .ok (.istore 5, 2) := by decide +kernel
theorem dX4_insertAtBestPlace_20 : decode cX4_insertAtBestPlace 20 = .ok (.ldc 49, 2) := by decide +kernel
theorem dX4_insertAtBestPlace_22 : decode cX4_insertAtBestPlace 22 = .ok (.istore 6, 2) := by decide +kernel
theorem dX4_insertAtBestPlace_24 : decode cX4_insertAtBestPlace 24 = .ok (.iconst 0, 1) := by decide +kernel
theorem dX4_insertAtBestPlace_25 : decode cX4_insertAtBestPlace 25 = .ok (.istore 7, 2) := by decide +kernel
theorem dX4_insertAtBestPlace_27 : decode cX4_insertAtBestPlace 27 = .ok (.iload 7, 2) := by decide +kernel
theorem dX4_insertAtBestPlace_29 : decode cX4_insertAtBestPlace 29 = .ok (.iload_n 3, 1) := by decide +kernel
theorem dX4_insertAtBestPlace_30 : decode cX4_insertAtBestPlace 30 = .ok (.if_icmp .gt 72, 3) := by decide +kernel
theorem dX4_insertAtBestPlace_33 : decode cX4_insertAtBestPlace 33 = .ok (.aload_n 2, 1) := by decide +kernel
theorem dX4_insertAtBestPlace_34 : decode cX4_insertAtBestPlace 34 = .ok (.aload_n 1, 1) := by decide +kernel
theorem dX4_insertAtBestPlace_35 : decode cX4_insertAtBestPlace 35 = .ok (.iload 7, 2) := by decide +kernel
theorem dX4_insertAtBestPlace_37 : decode cX4_insertAtBestPlace 37 = .ok (.invokevirtual 50, 3) := by decide +kernel
theorem dX4_insertAtBestPlace_40 : decode cX4_insertAtBestPlace 40 = .ok (.aload_n 0, 1) := by decide +kernel
theorem dX4_insertAtBestPlace_41 : decode cX4_insertAtBestPlace 41 = .ok (.invokevirtual 54, 3) := by decide +kernel
theorem dX4_insertAtBestPlace_44 : decode cX4_insertAtBestPlace 44 = .ok (.ifCond .eq 46, 3) := by decide +kernel
theorem dX4_insertAtBestPlace_47 : decode cX4_insertAtBestPlace 47 = .ok (.aload_n 0, 1) := by decide +kernel
theorem dX4_insertAtBestPlace_48 : decode cX4_insertAtBestPlace 48 = .ok (.getfield 58, 3) := by decide +kernel
theorem dX4_insertAtBestPlace_51 : decode cX4_insertAtBestPlace 51 = .ok (.iload 5, 2) := by decide +kernel
theorem dX4_insertAtBestPlace_53 : decode cX4_insertAtBestPlace 53 = .ok (.if_icmp .lt 21, 3) := by decide +kernel
theorem dX4_insertAtBestPlace_56 : decode cX4_insertAtBestPlace 56 = .ok (.aload_n 0, 1) := by decide +kernel
theorem dX4_insertAtBestPlace_57 : decode cX4_insertAtBestPlace 57 = .ok (.getfield 58, 3) := by decide +kernel
theorem dX4_insertAtBestPlace_60 : decode cX4_insertAtBestPlace 60 = .ok (.iload 5, 2) := by decide +kernel
theorem dX4_insertAtBestPlace_62 : decode cX4_insertAtBestPlace 62 = .ok (.if_icmp .ne 28, 3) := by decide +kernel
theorem dX4_insertAtBestPlace_65 : decode cX4_insertAtBestPlace 65 = .ok (.aload_n 1, 1) := by decide +kernel
theorem dX4_insertAtBestPlace_66 : decode cX4_insertAtBestPlace 66 = .ok (.getfield 62, 3) := by decide +kernel
theorem dX4_insertAtBestPlace_69 : decode cX4_insertAtBestPlace 69 = .ok (.iload 6, 2) := by decide +kernel
theorem dX4_insertAtBestPlace_71 : decode cX4_insertAtBestPlace 71 = .ok (.if_icmp .ge 19, 3) := by decide +kernel
theorem dX4_insertAtBestPlace_74 : decode cX4_insertAtBestPlace 74 = .ok (.iload 7, 2) := by decide +kernel
theorem dX4_insertAtBestPlace_76 : decode cX4_insertAtBestPlace 76 = .ok (.istore 4, 2) := by decide +kernel
theorem dX4_insertAtBestPlace_78 : decode cX4_insertAtBestPlace 78 = .ok (.aload_n 0, 1) := by decide +kernel
theorem dX4_insertAtBestPlace_79 : decode cX4_insertAtBestPlace 79 = .ok (.getfield 58, 3) := by decide +kernel
theorem dX4_insertAtBestPlace_82 : decode cX4_insertAtBestPlace 82 = .ok (.istore 5, 2) := by decide +kernel
theorem dX4_insertAtBestPlace_84 : decode cX4_insertAtBestPlace 84 = .ok (.aload_n 1, 1) := by decide +kernel
theorem dX4_insertAtBestPlace_85 : decode cX4_insertAtBestPlace 85 = .ok (.getfield 62, 3) := by decide +kernel
theorem dX4_insertAtBestPlace_88 : decode cX4_insertAtBestPlace 88 = .ok (.istore 6, 2) := by decide +kernel
theorem dX4_insertAtBestPlace_90 : decode cX4_insertAtBestPlace 90 = .ok (.aload_n 2, 1) := by decide +kernel
theorem dX4_insertAtBestPlace_91 : decode cX4_insertAtBestPlace 91 = .ok (.iload 7, 2) := by decide +kernel
theorem dX4_insertAtBestPlace_93 : decode cX4_insertAtBestPlace 93 = .ok (.invokevirtual 65, 3) := by decide +kernel
theorem dX4_insertAtBestPlace_96 : decode cX4_insertAtBestPlace 96 = .ok (.iinc 7 1, 3) := by decide +kernel
theorem dX4_insertAtBestPlace_99 : decode cX4_insertAtBestPlace 99 = .ok (.goto (-72), 3) := by decide +kernel
theorem dX4_insertAtBestPlace_102 : decode cX4_insertAtBestPlace 102 = .ok (.aload_n 2, 1) := by decide +kernel
theorem dX4_insertAtBestPlace_103 : decode cX4_insertAtBestPlace 103 = .ok (.aload_n 1, 1) := by decide +kernel
theorem dX4_insertAtBestPlace_104 : decode cX4_insertAtBestPlace 104 = .ok (.iload 4, 2) := by decide +kernel
theorem dX4_insertAtBestPlace_106 : decode cX4_insertAtBestPlace 106 = .ok (.invokevirtual 50, 3) := by decide +kernel
theorem dX4_insertAtBestPlace_109 : decode cX4_insertAtBestPlace 109 = .ok (.return_, 1) := by decide +kernel
theorem dX4_timeAll_0 : decode cX4_timeAll 0 = .ok (.aload_n 0, 1) := by decide +kernel
theorem dX4_timeAll_1 : decode cX4_timeAll 1 = .ok (.invokevirtual 69, 3) := by decide +kernel
theorem dX4_timeAll_4 : decode cX4_timeAll 4 = .ok (.istore_n 1, 1) := by decide +kernel
theorem dX4_timeAll_5 : decode cX4_timeAll 5 = .ok (.iconst 0, 1) := by decide +kernel
theorem dX4_timeAll_6 : decode cX4_timeAll 6 = .ok (.istore_n 2, 1) := by decide +kernel
theorem dX4_timeAll_7 : decode cX4_timeAll 7 = .ok (.iload_n 2, 1) := by decide +kernel
theorem dX4_timeAll_8 : decode cX4_timeAll 8 = .ok (.bipush 32, 2) := by decide +kernel
theorem dX4_timeAll_10 : decode cX4_timeAll 10 = .ok (.if_icmp .ge 78, 3) := by decide +kernel
theorem dX4_timeAll_13 : decode cX4_timeAll 13 = .ok (.aload_n 0, 1) := by decide +kernel
theorem dX4_timeAll_14 : decode cX4_timeAll 14 = .ok (.getfield 28, 3) := by decide +kernel
theorem dX4_timeAll_17 : decode cX4_timeAll 17 = .ok (.invokevirtual 45, 3) := by decide +kernel
theorem dX4_timeAll_20 : decode cX4_timeAll 20 = .ok (.iload_n 1, 1) := by decide +kernel
theorem dX4_timeAll_21 : decode cX4_timeAll 21 = .ok (.if_icmp .ge 67, 3) := by decide +kernel
theorem dX4_timeAll_24 : decode cX4_timeAll 24 = .ok (.aload_n 0, 1) := by decide +kernel
theorem dX4_timeAll_25 : decode cX4_timeAll 25 = .ok (.getfield 28, 3) := by decide +kernel
theorem dX4_timeAll_28 : decode cX4_timeAll 28 = .ok (.invokevirtual 45, 3) := by decide +kernel
theorem dX4_timeAll_31 : decode cX4_timeAll 31 = .ok (.istore_n 3, 1) := by decide +kernel
theorem dX4_timeAll_32 : decode cX4_timeAll 32 = .ok (.iconst 0, 1) := by decide +kernel
theorem dX4_timeAll_33 : decode cX4_timeAll 33 = .ok (.istore 4, 2) := by decide +kernel
theorem dX4_timeAll_35 : decode cX4_timeAll 35 = .ok (.iload 4, 2) := by decide +kernel
theorem dX4_timeAll_37 : decode cX4_timeAll 37 = .ok (.aload_n 0, 1) := by decide +kernel
theorem dX4_timeAll_38 : decode cX4_timeAll 38 = .ok (.getfield 12, 3) := by decide +kernel
theorem dX4_timeAll_41 : decode cX4_timeAll 41 = .ok (.invokevirtual 45, 3) := by decide +kernel
theorem dX4_timeAll_44 : decode cX4_timeAll 44 = .ok (.if_icmp .ge 25, 3) := by decide +kernel
theorem dX4_timeAll_47 : decode cX4_timeAll 47 = .ok (.aload_n 0, 1) := by decide +kernel
theorem dX4_timeAll_48 : decode cX4_timeAll 48 = .ok (.aload_n 0, 1) := by decide +kernel
theorem dX4_timeAll_49 : decode cX4_timeAll 49 = .ok (.getfield 12, 3) := by decide +kernel
theorem dX4_timeAll_52 : decode cX4_timeAll 52 = .ok (.iload 4, 2) := by decide +kernel
theorem dX4_timeAll_54 : decode cX4_timeAll 54 = .ok (.invokevirtual 72, 3) := by decide +kernel
theorem dX4_timeAll_57 : decode cX4_timeAll 57 = .ok (.checkcast 41, 3) := by decide +kernel
theorem dX4_timeAll_60 : decode cX4_timeAll 60 = .ok (.invokevirtual 76, 3) := by decide +kernel
theorem dX4_timeAll_63 : decode cX4_timeAll 63 = .ok (.iinc 4 1, 3) := by decide +kernel
theorem dX4_timeAll_66 : decode cX4_timeAll 66 = .ok (.goto (-31), 3) := by decide +kernel
theorem dX4_timeAll_69 : decode cX4_timeAll 69 = .ok (.aload_n 0, 1) := by decide +kernel
theorem dX4_timeAll_70 : decode cX4_timeAll 70 = .ok (.getfield 28, 3) := by decide +kernel
theorem dX4_timeAll_73 : decode cX4_timeAll 73 = .ok (.invokevirtual 45, 3) := by decide +kernel
theorem dX4_timeAll_76 : decode cX4_timeAll 76 = .ok (.iload_n 3, 1) := by decide +kernel
theorem dX4_timeAll_77 : decode cX4_timeAll 77 = .ok (.if_icmp .ne 5, 3) := by decide +kernel
theorem dX4_timeAll_80 : decode cX4_timeAll 80 = .ok (.iconst 0, 1) := by decide +kernel
theorem dX4_timeAll_81 : decode cX4_timeAll 81 = .ok (.ireturn, 1) := by decide +kernel
theorem dX4_timeAll_82 : decode cX4_timeAll 82 = .ok (.iinc 2 1, 3) := by decide +kernel
theorem dX4_timeAll_85 : decode cX4_timeAll 85 = .ok (.goto (-78), 3) := by decide +kernel
theorem dX4_timeAll_88 : decode cX4_timeAll 88 = .ok (.aload_n 0, 1) := by decide +kernel
theorem dX4_timeAll_89 : decode cX4_timeAll 89 = .ok (.getfield 28, 3) := by decide +kernel
theorem dX4_timeAll_92 : decode cX4_timeAll 92 = .ok (.invokevirtual 45, 3) := by decide +kernel
theorem dX4_timeAll_95 : decode cX4_timeAll 95 = .ok (.iload_n 1, 1) := by decide +kernel
theorem dX4_timeAll_96 : decode cX4_timeAll 96 = .ok (.if_icmp .ne 7, 3) := by decide +kernel
theorem dX4_timeAll_99 : decode cX4_timeAll 99 = .ok (.iconst 1, 1) := by decide +kernel
theorem dX4_timeAll_100 : decode cX4_timeAll 100 = .ok (.goto 4, 3) := by decide +kernel
theorem dX4_timeAll_103 : decode cX4_timeAll 103 = .ok (.iconst 0, 1) := by decide +kernel
theorem dX4_timeAll_104 : decode cX4_timeAll 104 = .ok (.ireturn, 1) := by decide +kernel
theorem dX4_begin_0 : decode cX4_begin 0 = .ok (.aload_n 0, 1) := by decide +kernel
theorem dX4_begin_1 : decode cX4_begin 1 = .ok (.iconst 0, 1) := by decide +kernel
theorem dX4_begin_2 : decode cX4_begin 2 = .ok (.putfield 58, 3) := by decide +kernel
theorem dX4_begin_5 : decode cX4_begin 5 = .ok (.aload_n 0, 1) := by decide +kernel
theorem dX4_begin_6 : decode cX4_begin 6 = .ok (.getfield 28, 3) := by decide +kernel
theorem dX4_begin_9 : decode cX4_begin 9 = .ok (.invokevirtual 80, 3) := by decide +kernel
theorem dX4_begin_12 : decode cX4_begin 12 = .ok (.iconst 0, 1) := by decide +kernel
theorem dX4_begin_13 : decode cX4_begin 13 = .ok (.istore_n 1, 1) := by decide +kernel
theorem dX4_begin_14 : decode cX4_begin 14 = .ok (.iload_n 1, 1) := by decide +kernel
theorem dX4_begin_15 : decode cX4_begin 15 = .ok (.aload_n 0, 1) := by decide +kernel
theorem dX4_begin_16 : decode cX4_begin 16 = .ok (.getfield 18, 3) := by decide +kernel
theorem dX4_begin_19 : decode cX4_begin 19 = .ok (.invokevirtual 45, 3) := by decide +kernel
theorem dX4_begin_22 : decode cX4_begin 22 = .ok (.if_icmp .ge 24, 3) := by decide +kernel
theorem dX4_begin_25 : decode cX4_begin 25 = .ok (.aload_n 0, 1) := by decide +kernel
theorem dX4_begin_26 : decode cX4_begin 26 = .ok (.getfield 18, 3) := by decide +kernel
theorem dX4_begin_29 : decode cX4_begin 29 = .ok (.iload_n 1, 1) := by decide +kernel
theorem dX4_begin_30 : decode cX4_begin 30 = .ok (.invokevirtual 72, 3) := by decide +kernel
theorem dX4_begin_33 : decode cX4_begin 33 = .ok (.checkcast 83, 3) := by decide +kernel
theorem dX4_begin_36 : decode cX4_begin 36 = .ok (.iconst 0, 1) := by decide +kernel
theorem dX4_begin_37 : decode cX4_begin 37 = .ok (.putfield 85, 3) := by decide +kernel
theorem dX4_begin_40 : decode cX4_begin 40 = .ok (.iinc 1 1, 3) := by decide +kernel
theorem dX4_begin_43 : decode cX4_begin 43 = .ok (.goto (-29), 3) := by decide +kernel
theorem dX4_begin_46 : decode cX4_begin 46 = .ok (.iconst 0, 1) := by decide +kernel
theorem dX4_begin_47 : decode cX4_begin 47 = .ok (.istore_n 1, 1) := by decide +kernel
theorem dX4_begin_48 : decode cX4_begin 48 = .ok (.iconst 0, 1) := by decide +kernel
theorem dX4_begin_49 : decode cX4_begin 49 = .ok (.istore_n 2, 1) := by decide +kernel
theorem dX4_begin_50 : decode cX4_begin 50 = .ok (.iload_n 2, 1) := by decide +kernel
theorem dX4_begin_51 : decode cX4_begin 51 = .ok (.aload_n 0, 1) := by decide +kernel
theorem dX4_begin_52 : decode cX4_begin 52 = .ok (.getfield 12, 3) := by decide +kernel
theorem dX4_begin_55 : decode cX4_begin 55 = .ok (.invokevirtual 45, 3) := by decide +kernel
theorem dX4_begin_58 : decode cX4_begin 58 = .ok (.if_icmp .ge 44, 3) := by decide +kernel
theorem dX4_begin_61 : decode cX4_begin 61 = .ok (.aload_n 0, 1) := by decide +kernel
theorem dX4_begin_62 : decode cX4_begin 62 = .ok (.getfield 12, 3) := by decide +kernel
theorem dX4_begin_65 : decode cX4_begin 65 = .ok (.iload_n 2, 1) := by decide +kernel
theorem dX4_begin_66 : decode cX4_begin 66 = .ok (.invokevirtual 72, 3) := by decide +kernel
theorem dX4_begin_69 : decode cX4_begin 69 = .ok (.checkcast 41, 3) := by decide +kernel
theorem dX4_begin_72 : decode cX4_begin 72 = .ok (.iconst 0, 1) := by decide +kernel
theorem dX4_begin_73 : decode cX4_begin 73 = .ok (.putfield 88, 3) := by decide +kernel
theorem dX4_begin_76 : decode cX4_begin 76 = .ok (.iload_n 1, 1) := by decide +kernel
theorem dX4_begin_77 : decode cX4_begin 77 = .ok (.aload_n 0, 1) := by decide +kernel
theorem dX4_begin_78 : decode cX4_begin 78 = .ok (.getfield 12, 3) := by decide +kernel
theorem dX4_begin_81 : decode cX4_begin 81 = .ok (.iload_n 2, 1) := by decide +kernel
theorem dX4_begin_82 : decode cX4_begin 82 = .ok (.invokevirtual 72, 3) := by decide +kernel
theorem dX4_begin_85 : decode cX4_begin 85 = .ok (.checkcast 41, 3) := by decide +kernel
theorem dX4_begin_88 : decode cX4_begin 88 = .ok (.getfield 40, 3) := by decide +kernel
theorem dX4_begin_91 : decode cX4_begin 91 = .ok (.invokevirtual 45, 3) := by decide +kernel
theorem dX4_begin_94 : decode cX4_begin 94 = .ok (.iadd, 1) := by decide +kernel
theorem dX4_begin_95 : decode cX4_begin 95 = .ok (.istore_n 1, 1) := by decide +kernel
theorem dX4_begin_96 : decode cX4_begin 96 = .ok (.iinc 2 1, 3) := by decide +kernel
theorem dX4_begin_99 : decode cX4_begin 99 = .ok (.goto (-49), 3) := by decide +kernel
theorem dX4_begin_102 : decode cX4_begin 102 = .ok (.iload_n 1, 1) := by decide +kernel
theorem dX4_begin_103 : decode cX4_begin 103 = .ok (.ireturn, 1) := by decide +kernel
theorem dX4_timeRow_0 : decode cX4_timeRow 0 = .ok (.aload_n 1, 1) := by decide +kernel
theorem dX4_timeRow_1 : decode cX4_timeRow 1 = .ok (.getfield 88, 3) := by decide +kernel
theorem dX4_timeRow_4 : decode cX4_timeRow 4 = .ok (.istore_n 2, 1) := by decide +kernel
theorem dX4_timeRow_5 : decode cX4_timeRow 5 = .ok (.iload_n 2, 1) := by decide +kernel
theorem dX4_timeRow_6 : decode cX4_timeRow 6 = .ok (.aload_n 1, 1) := by decide +kernel
theorem dX4_timeRow_7 : decode cX4_timeRow 7 = .ok (.getfield 40, 3) := by decide +kernel
theorem dX4_timeRow_10 : decode cX4_timeRow 10 = .ok (.invokevirtual 45, 3) := by decide +kernel
theorem dX4_timeRow_13 : decode cX4_timeRow 13 = .ok (.if_icmp .ge 64, 3) := by decide +kernel
theorem dX4_timeRow_16 : decode cX4_timeRow 16 = .ok (.aload_n 1, 1) := by decide +kernel
theorem dX4_timeRow_17 : decode cX4_timeRow 17 = .ok (.getfield 40, 3) := by decide +kernel
theorem dX4_timeRow_20 : decode cX4_timeRow 20 = .ok (.iload_n 2, 1) := by decide +kernel
theorem dX4_timeRow_21 : decode cX4_timeRow 21 = .ok (.invokevirtual 72, 3) := by decide +kernel
theorem dX4_timeRow_24 : decode cX4_timeRow 24 = .ok (.checkcast 35, 3) := by decide +kernel
theorem dX4_timeRow_27 : decode cX4_timeRow 27 = .ok (.astore_n 3, 1) := by decide +kernel
theorem dX4_timeRow_28 : decode cX4_timeRow 28 = .ok (.aload_n 3, 1) := by decide +kernel
theorem dX4_timeRow_29 : decode cX4_timeRow 29 = .ok (.getfield 89, 3) := by decide +kernel
theorem dX4_timeRow_32 : decode cX4_timeRow 32 = .ok (.aload_n 3, 1) := by decide +kernel
theorem dX4_timeRow_33 : decode cX4_timeRow 33 = .ok (.getfield 92, 3) := by decide +kernel
theorem dX4_timeRow_36 : decode cX4_timeRow 36 = .ok (.getfield 85, 3) := by decide +kernel
theorem dX4_timeRow_39 : decode cX4_timeRow 39 = .ok (.if_icmp .eq 4, 3) := by decide +kernel
theorem dX4_timeRow_42 : decode cX4_timeRow 42 = .ok (.return_, 1) := by decide +kernel
theorem dX4_timeRow_43 : decode cX4_timeRow 43 = .ok (.aload_n 0, 1) := by decide +kernel
theorem dX4_timeRow_44 : decode cX4_timeRow 44 = .ok (.aload_n 3, 1) := by decide +kernel
theorem dX4_timeRow_45 : decode cX4_timeRow 45 = .ok (.invokevirtual 96, 3) := by decide +kernel
theorem dX4_timeRow_48 : decode cX4_timeRow 48 = .ok (.aload_n 3, 1) := by decide +kernel
theorem dX4_timeRow_49 : decode cX4_timeRow 49 = .ok (.getfield 92, 3) := by decide +kernel
theorem dX4_timeRow_52 : decode cX4_timeRow 52 = .ok (.dup, 1) := by decide +kernel
theorem dX4_timeRow_53 : decode cX4_timeRow 53 = .ok (.getfield 85, 3) := by decide +kernel
theorem dX4_timeRow_56 : decode cX4_timeRow 56 = .ok (.iconst 1, 1) := by decide +kernel
theorem dX4_timeRow_57 : decode cX4_timeRow 57 = .ok (.iadd, 1) := by decide +kernel
theorem dX4_timeRow_58 : decode cX4_timeRow 58 = .ok (.putfield 85, 3) := by decide +kernel
theorem dX4_timeRow_61 : decode cX4_timeRow 61 = .ok (.aload_n 1, 1) := by decide +kernel
theorem dX4_timeRow_62 : decode cX4_timeRow 62 = .ok (.dup, 1) := by decide +kernel
theorem dX4_timeRow_63 : decode cX4_timeRow 63 = .ok (.getfield 88, 3) := by decide +kernel
theorem dX4_timeRow_66 : decode cX4_timeRow 66 = .ok (.iconst 1, 1) := by decide +kernel
theorem dX4_timeRow_67 : decode cX4_timeRow 67 = .ok (.iadd, 1) := by decide +kernel
theorem dX4_timeRow_68 : decode cX4_timeRow 68 = .ok (.putfield 88, 3) := by decide +kernel
theorem dX4_timeRow_71 : decode cX4_timeRow 71 = .ok (.iinc 2 1, 3) := by decide +kernel
theorem dX4_timeRow_74 : decode cX4_timeRow 74 = .ok (.goto (-69), 3) := by decide +kernel
theorem dX4_timeRow_77 : decode cX4_timeRow 77 = .ok (.return_, 1) := by decide +kernel
theorem dX4_timeOne_0 : decode cX4_timeOne 0 = .ok (.aload_n 1, 1) := by decide +kernel
theorem dX4_timeOne_1 : decode cX4_timeOne 1 = .ok (.getfield 100, 3) := by decide +kernel
theorem dX4_timeOne_4 : decode cX4_timeOne 4 = .ok (.astore_n 2, 1) := by decide +kernel
theorem dX4_timeOne_5 : decode cX4_timeOne 5 = .ok (.aload_n 1, 1) := by decide +kernel
theorem dX4_timeOne_6 : decode cX4_timeOne 6 = .ok (.getfield 104, 3) := by decide +kernel
theorem dX4_timeOne_9 : decode cX4_timeOne 9 = .ok (.astore_n 3, 1) := by decide +kernel
theorem dX4_timeOne_10 : decode cX4_timeOne 10 = .ok (.aload_n 3, 1) := by decide +kernel
theorem dX4_timeOne_11 : decode cX4_timeOne 11 = .ok (.ifnonnull 7, 3) := by decide +kernel
theorem dX4_timeOne_14 : decode cX4_timeOne 14 = .ok (.iconst 0, 1) := by decide +kernel
theorem dX4_timeOne_15 : decode cX4_timeOne 15 = .ok (.goto 7, 3) := by decide +kernel
theorem dX4_timeOne_18 : decode cX4_timeOne 18 = .ok (.aload_n 3, 1) := by decide +kernel
theorem dX4_timeOne_19 : decode cX4_timeOne 19 = .ok (.getfield 107, 3) := by decide +kernel
theorem dX4_timeOne_22 : decode cX4_timeOne 22 = .ok (.istore 4, 2) := by decide +kernel
theorem dX4_timeOne_24 : decode cX4_timeOne 24 = .ok (.iload 4, 2) := by decide +kernel
theorem dX4_timeOne_26 : decode cX4_timeOne 26 = .ok (.aload_n 0, 1) := by decide +kernel
theorem dX4_timeOne_27 : decode cX4_timeOne 27 = .ok (.getfield 24, 3) := by decide +kernel
theorem dX4_timeOne_30 : decode cX4_timeOne 30 = .ok (.aload_n 3, 1) := by decide +kernel
theorem dX4_timeOne_31 : decode cX4_timeOne 31 = .ok (.aload_n 1, 1) := by decide +kernel
theorem dX4_timeOne_32 : decode cX4_timeOne 32 = .ok (.invokevirtual 110, 3) := by decide +kernel
theorem dX4_timeOne_35 : decode cX4_timeOne 35 = .ok (.iadd, 1) := by decide +kernel
theorem dX4_timeOne_36 : decode cX4_timeOne 36 = .ok (.istore 5, 2) := by decide +kernel
theorem dX4_timeOne_38 : decode cX4_timeOne 38 = .ok (.aload_n 2, 1) := by decide +kernel
theorem dX4_timeOne_39 : decode cX4_timeOne 39 = .ok (.ifnull 14, 3) := by decide +kernel
theorem dX4_timeOne_42 : decode cX4_timeOne 42 = .ok (.iload 5, 2) := by decide +kernel
theorem dX4_timeOne_44 : decode cX4_timeOne 44 = .ok (.aload_n 2, 1) := by decide +kernel
theorem dX4_timeOne_45 : decode cX4_timeOne 45 = .ok (.getfield 107, 3) := by decide +kernel
theorem dX4_timeOne_48 : decode cX4_timeOne 48 = .ok (.invokestatic 114, 3) := by decide +kernel
theorem dX4_timeOne_51 : decode cX4_timeOne 51 = .ok (.istore 5, 2) := by decide +kernel
theorem dX4_timeOne_53 : decode cX4_timeOne 53 = .ok (.aload_n 1, 1) := by decide +kernel
theorem dX4_timeOne_54 : decode cX4_timeOne 54 = .ok (.aload_n 1, 1) := by decide +kernel
theorem dX4_timeOne_55 : decode cX4_timeOne 55 = .ok (.getfield 34, 3) := by decide +kernel
theorem dX4_timeOne_58 : decode cX4_timeOne 58 = .ok (.iload 5, 2) := by decide +kernel
theorem dX4_timeOne_60 : decode cX4_timeOne 60 = .ok (.aload_n 1, 1) := by decide +kernel
theorem dX4_timeOne_61 : decode cX4_timeOne 61 = .ok (.getfield 120, 3) := by decide +kernel
theorem dX4_timeOne_64 : decode cX4_timeOne 64 = .ok (.invokevirtual 123, 3) := by decide +kernel
theorem dX4_timeOne_67 : decode cX4_timeOne 67 = .ok (.putfield 62, 3) := by decide +kernel
theorem dX4_timeOne_70 : decode cX4_timeOne 70 = .ok (.aload_n 1, 1) := by decide +kernel
theorem dX4_timeOne_71 : decode cX4_timeOne 71 = .ok (.aload_n 1, 1) := by decide +kernel
theorem dX4_timeOne_72 : decode cX4_timeOne 72 = .ok (.getfield 62, 3) := by decide +kernel
theorem dX4_timeOne_75 : decode cX4_timeOne 75 = .ok (.aload_n 1, 1) := by decide +kernel
theorem dX4_timeOne_76 : decode cX4_timeOne 76 = .ok (.getfield 120, 3) := by decide +kernel
theorem dX4_timeOne_79 : decode cX4_timeOne 79 = .ok (.iadd, 1) := by decide +kernel
theorem dX4_timeOne_80 : decode cX4_timeOne 80 = .ok (.putfield 107, 3) := by decide +kernel
theorem dX4_timeOne_83 : decode cX4_timeOne 83 = .ok (.aload_n 0, 1) := by decide +kernel
theorem dX4_timeOne_84 : decode cX4_timeOne 84 = .ok (.aload_n 0, 1) := by decide +kernel
theorem dX4_timeOne_85 : decode cX4_timeOne 85 = .ok (.getfield 58, 3) := by decide +kernel
theorem dX4_timeOne_88 : decode cX4_timeOne 88 = .ok (.aload_n 1, 1) := by decide +kernel
theorem dX4_timeOne_89 : decode cX4_timeOne 89 = .ok (.getfield 107, 3) := by decide +kernel
theorem dX4_timeOne_92 : decode cX4_timeOne 92 = .ok (.invokestatic 114, 3) := by decide +kernel
theorem dX4_timeOne_95 : decode cX4_timeOne 95 = .ok (.putfield 58, 3) := by decide +kernel
theorem dX4_timeOne_98 : decode cX4_timeOne 98 = .ok (.aload_n 0, 1) := by decide +kernel
theorem dX4_timeOne_99 : decode cX4_timeOne 99 = .ok (.getfield 28, 3) := by decide +kernel
theorem dX4_timeOne_102 : decode cX4_timeOne 102 = .ok (.aload_n 1, 1) := by decide +kernel
theorem dX4_timeOne_103 : decode cX4_timeOne 103 = .ok (.invokevirtual 126, 3) := by decide +kernel
theorem dX4_timeOne_106 : decode cX4_timeOne 106 = .ok (.pop, 1) := by decide +kernel
theorem dX4_timeOne_107 : decode cX4_timeOne 107 = .ok (.return_, 1) := by decide +kernel
theorem dX4_putLaterInRounds_0 : decode cX4_putLaterInRounds 0 = .ok (.iconst 0, 1) := by decide +kernel
theorem dX4_putLaterInRounds_1 : decode cX4_putLaterInRounds 1 = .ok (.istore_n 1, 1) := by decide +kernel
theorem dX4_putLaterInRounds_2 : decode cX4_putLaterInRounds 2 = .ok (.iload_n 1, 1) := by decide +kernel
theorem dX4_putLaterInRounds_3 : decode cX4_putLaterInRounds 3 = .ok (.aload_n 0, 1) := by decide +kernel
theorem dX4_putLaterInRounds_4 : decode cX4_putLaterInRounds 4 = .ok (.getfield 28, 3) := by decide +kernel
theorem dX4_putLaterInRounds_7 : decode cX4_putLaterInRounds 7 = .ok (.invokevirtual 45, 3) := by decide +kernel
theorem dX4_putLaterInRounds_10 : decode cX4_putLaterInRounds 10 = .ok (.if_icmp .ge 24, 3) := by decide +kernel
theorem dX4_putLaterInRounds_13 : decode cX4_putLaterInRounds 13 = .ok (.aload_n 0, 1) := by decide +kernel
theorem dX4_putLaterInRounds_14 : decode cX4_putLaterInRounds 14 = .ok (.getfield 28, 3) := by decide +kernel
theorem dX4_putLaterInRounds_17 : decode cX4_putLaterInRounds 17 = .ok (.iload_n 1, 1) := by decide +kernel
theorem dX4_putLaterInRounds_18 : decode cX4_putLaterInRounds 18 = .ok (.invokevirtual 72, 3) := by decide +kernel
theorem dX4_putLaterInRounds_21 : decode cX4_putLaterInRounds 21 = .ok (.checkcast 35, 3) := by decide +kernel
theorem dX4_putLaterInRounds_24 : decode cX4_putLaterInRounds 24 = .ok (.iconst 0, 1) := by decide +kernel
theorem dX4_putLaterInRounds_25 : decode cX4_putLaterInRounds 25 = .ok (.putfield 130, 3) := by decide +kernel
theorem dX4_putLaterInRounds_28 : decode cX4_putLaterInRounds 28 = .ok (.iinc 1 1, 3) := by decide +kernel
theorem dX4_putLaterInRounds_31 : decode cX4_putLaterInRounds 31 = .ok (.goto (-29), 3) := by decide +kernel
theorem dX4_putLaterInRounds_34 : decode cX4_putLaterInRounds 34 = .ok (.iconst 1, 1) := by decide +kernel
theorem dX4_putLaterInRounds_35 : decode cX4_putLaterInRounds 35 = .ok (.istore_n 1, 1) := by decide +kernel
theorem dX4_putLaterInRounds_36 : decode cX4_putLaterInRounds 36 = .ok (.iconst 0, 1) := by decide +kernel
theorem dX4_putLaterInRounds_37 : decode cX4_putLaterInRounds 37 = .ok (.istore_n 2, 1) := by decide +kernel
theorem dX4_putLaterInRounds_38 : decode cX4_putLaterInRounds 38 = .ok (.iload_n 1, 1) := by decide +kernel
theorem dX4_putLaterInRounds_39 : decode cX4_putLaterInRounds 39 = .ok (.ifCond .eq 56, 3) := by decide +kernel
theorem dX4_putLaterInRounds_42 : decode cX4_putLaterInRounds 42 = .ok (.iload_n 2, 1) := by decide +kernel
theorem dX4_putLaterInRounds_43 : decode cX4_putLaterInRounds 43 = .ok (.bipush 32, 2) := by decide +kernel
theorem dX4_putLaterInRounds_45 : decode cX4_putLaterInRounds 45 = .ok (.if_icmp .gt 50, 3) := by decide +kernel
theorem dX4_putLaterInRounds_48 : decode cX4_putLaterInRounds 48 = .ok (.iconst 0, 1) := by decide +kernel
theorem dX4_putLaterInRounds_49 : decode cX4_putLaterInRounds 49 = .ok (.istore_n 1, 1) := by decide +kernel
theorem dX4_putLaterInRounds_50 : decode cX4_putLaterInRounds 50 = .ok (.iconst 0, 1) := by decide +kernel
theorem dX4_putLaterInRounds_51 : decode cX4_putLaterInRounds 51 = .ok (.istore_n 3, 1) := by decide +kernel
theorem dX4_putLaterInRounds_52 : decode cX4_putLaterInRounds 52 = .ok (.iload_n 3, 1) := by decide +kernel
theorem dX4_putLaterInRounds_53 : decode cX4_putLaterInRounds 53 = .ok (.aload_n 0, 1) := by decide +kernel
theorem dX4_putLaterInRounds_54 : decode cX4_putLaterInRounds 54 = .ok (.getfield 12, 3) := by decide +kernel
theorem dX4_putLaterInRounds_57 : decode cX4_putLaterInRounds 57 = .ok (.invokevirtual 45, 3) := by decide +kernel
theorem dX4_putLaterInRounds_60 : decode cX4_putLaterInRounds 60 = .ok (.if_icmp .ge 29, 3) := by decide +kernel
theorem dX4_putLaterInRounds_63 : decode cX4_putLaterInRounds 63 = .ok (.aload_n 0, 1) := by decide +kernel
theorem dX4_putLaterInRounds_64 : decode cX4_putLaterInRounds 64 = .ok (.aload_n 0, 1) := by decide +kernel
theorem dX4_putLaterInRounds_65 : decode cX4_putLaterInRounds 65 = .ok (.getfield 12, 3) := by decide +kernel
theorem dX4_putLaterInRounds_68 : decode cX4_putLaterInRounds 68 = .ok (.iload_n 3, 1) := by decide +kernel
theorem dX4_putLaterInRounds_69 : decode cX4_putLaterInRounds 69 = .ok (.invokevirtual 72, 3) := by decide +kernel
theorem dX4_putLaterInRounds_72 : decode cX4_putLaterInRounds 72 = .ok (.checkcast 41, 3) := by decide +kernel
theorem dX4_putLaterInRounds_75 : decode cX4_putLaterInRounds 75 = .ok (.invokevirtual 133, 3) := by decide +kernel
theorem dX4_putLaterInRounds_78 : decode cX4_putLaterInRounds 78 = .ok (.ifCond .eq 5, 3) := by decide +kernel
theorem dX4_putLaterInRounds_81 : decode cX4_putLaterInRounds 81 = .ok (.iconst 1, 1) := by decide +kernel
theorem dX4_putLaterInRounds_82 : decode cX4_putLaterInRounds 82 = .ok (.istore_n 1, 1) := by decide +kernel
theorem dX4_putLaterInRounds_83 : decode cX4_putLaterInRounds 83 = .ok (.iinc 3 1, 3) := by decide +kernel
theorem dX4_putLaterInRounds_86 : decode cX4_putLaterInRounds 86 = .ok (.goto (-34), 3) := by decide +kernel
theorem dX4_putLaterInRounds_89 : decode cX4_putLaterInRounds 89 = .ok (.iinc 2 1, 3) := by decide +kernel
theorem dX4_putLaterInRounds_92 : decode cX4_putLaterInRounds 92 = .ok (.goto (-54), 3) := by decide +kernel
theorem dX4_putLaterInRounds_95 : decode cX4_putLaterInRounds 95 = .ok (.return_, 1) := by decide +kernel
theorem dX4_putRowLater_0 : decode cX4_putRowLater 0 = .ok (.iconst 0, 1) := by decide +kernel
theorem dX4_putRowLater_1 : decode cX4_putRowLater 1 = .ok (.istore_n 2, 1) := by decide +kernel
theorem dX4_putRowLater_2 : decode cX4_putRowLater 2 = .ok (.iconst 0, 1) := by decide +kernel
theorem dX4_putRowLater_3 : decode cX4_putRowLater 3 = .ok (.istore_n 3, 1) := by decide +kernel
theorem dX4_putRowLater_4 : decode cX4_putRowLater 4 = .ok (.iload_n 3, 1) := by decide +kernel
theorem dX4_putRowLater_5 : decode cX4_putRowLater 5 = .ok (.aload_n 1, 1) := by decide +kernel
theorem dX4_putRowLater_6 : decode cX4_putRowLater 6 = .ok (.getfield 40, 3) := by decide +kernel
theorem dX4_putRowLater_9 : decode cX4_putRowLater 9 = .ok (.invokevirtual 45, 3) := by decide +kernel
theorem dX4_putRowLater_12 : decode cX4_putRowLater 12 = .ok (.if_icmp .ge 58, 3) := by decide +kernel
theorem dX4_putRowLater_15 : decode cX4_putRowLater 15 = .ok (.aload_n 1, 1) := by decide +kernel
theorem dX4_putRowLater_16 : decode cX4_putRowLater 16 = .ok (.getfield 40, 3) := by decide +kernel
theorem dX4_putRowLater_19 : decode cX4_putRowLater 19 = .ok (.iload_n 3, 1) := by decide +kernel
theorem dX4_putRowLater_20 : decode cX4_putRowLater 20 = .ok (.invokevirtual 72, 3) := by decide +kernel
theorem dX4_putRowLater_23 : decode cX4_putRowLater 23 = .ok (.checkcast 35, 3) := by decide +kernel
theorem dX4_putRowLater_26 : decode cX4_putRowLater 26 = .ok (.astore 4, 2) := by decide +kernel
theorem dX4_putRowLater_28 : decode cX4_putRowLater 28 = .ok (.aload_n 1, 1) := by decide +kernel
theorem dX4_putRowLater_29 : decode cX4_putRowLater 29 = .ok (.aload_n 0, 1) := by decide +kernel
theorem dX4_putRowLater_30 : decode cX4_putRowLater 30 = .ok (.aload 4, 2) := by decide +kernel
theorem dX4_putRowLater_32 : decode cX4_putRowLater 32 = .ok (.invokevirtual 137, 3) := by decide +kernel
theorem dX4_putRowLater_35 : decode cX4_putRowLater 35 = .ok (.aload 4, 2) := by decide +kernel
theorem dX4_putRowLater_37 : decode cX4_putRowLater 37 = .ok (.getfield 120, 3) := by decide +kernel
theorem dX4_putRowLater_40 : decode cX4_putRowLater 40 = .ok (.invokevirtual 123, 3) := by decide +kernel
theorem dX4_putRowLater_43 : decode cX4_putRowLater 43 = .ok (.istore 5, 2) := by decide +kernel
theorem dX4_putRowLater_45 : decode cX4_putRowLater 45 = .ok (.iload 5, 2) := by decide +kernel
theorem dX4_putRowLater_47 : decode cX4_putRowLater 47 = .ok (.aload 4, 2) := by decide +kernel
theorem dX4_putRowLater_49 : decode cX4_putRowLater 49 = .ok (.getfield 130, 3) := by decide +kernel
theorem dX4_putRowLater_52 : decode cX4_putRowLater 52 = .ok (.if_icmp .le 12, 3) := by decide +kernel
theorem dX4_putRowLater_55 : decode cX4_putRowLater 55 = .ok (.aload 4, 2) := by decide +kernel
theorem dX4_putRowLater_57 : decode cX4_putRowLater 57 = .ok (.iload 5, 2) := by decide +kernel
theorem dX4_putRowLater_59 : decode cX4_putRowLater 59 = .ok (.putfield 130, 3) := by decide +kernel
theorem dX4_putRowLater_62 : decode cX4_putRowLater 62 = .ok (.iconst 1, 1) := by decide +kernel
theorem dX4_putRowLater_63 : decode cX4_putRowLater 63 = .ok (.istore_n 2, 1) := by decide +kernel
theorem dX4_putRowLater_64 : decode cX4_putRowLater 64 = .ok (.iinc 3 1, 3) := by decide +kernel
theorem dX4_putRowLater_67 : decode cX4_putRowLater 67 = .ok (.goto (-63), 3) := by decide +kernel
theorem dX4_putRowLater_70 : decode cX4_putRowLater 70 = .ok (.iload_n 2, 1) := by decide +kernel
theorem dX4_putRowLater_71 : decode cX4_putRowLater 71 = .ok (.ireturn, 1) := by decide +kernel
theorem dX4_readyInRounds_0 : decode cX4_readyInRounds 0 = .ok (.aload_n 1, 1) := by decide +kernel
theorem dX4_readyInRounds_1 : decode cX4_readyInRounds 1 = .ok (.getfield 100, 3) := by decide +kernel
theorem dX4_readyInRounds_4 : decode cX4_readyInRounds 4 = .ok (.astore_n 2, 1) := by decide +kernel
theorem dX4_readyInRounds_5 : decode cX4_readyInRounds 5 = .ok (.aload_n 1, 1) := by decide +kernel
theorem dX4_readyInRounds_6 : decode cX4_readyInRounds 6 = .ok (.getfield 104, 3) := by decide +kernel
theorem dX4_readyInRounds_9 : decode cX4_readyInRounds 9 = .ok (.astore_n 3, 1) := by decide +kernel
theorem dX4_readyInRounds_10 : decode cX4_readyInRounds 10 = .ok (.aload_n 3, 1) := by decide +kernel
theorem dX4_readyInRounds_11 : decode cX4_readyInRounds 11 = .ok (.ifnonnull 7, 3) := by decide +kernel
theorem dX4_readyInRounds_14 : decode cX4_readyInRounds 14 = .ok (.iconst 0, 1) := by decide +kernel
theorem dX4_readyInRounds_15 : decode cX4_readyInRounds 15 = .ok (.goto 12, 3) := by decide +kernel
theorem dX4_readyInRounds_18 : decode cX4_readyInRounds 18 = .ok (.aload_n 3, 1) := by decide +kernel
theorem dX4_readyInRounds_19 : decode cX4_readyInRounds 19 = .ok (.getfield 130, 3) := by decide +kernel
theorem dX4_readyInRounds_22 : decode cX4_readyInRounds 22 = .ok (.aload_n 3, 1) := by decide +kernel
theorem dX4_readyInRounds_23 : decode cX4_readyInRounds 23 = .ok (.getfield 120, 3) := by decide +kernel
theorem dX4_readyInRounds_26 : decode cX4_readyInRounds 26 = .ok (.iadd, 1) := by decide +kernel
theorem dX4_readyInRounds_27 : decode cX4_readyInRounds 27 = .ok (.istore 4, 2) := by decide +kernel
theorem dX4_readyInRounds_29 : decode cX4_readyInRounds 29 = .ok (.iload 4, 2) := by decide +kernel
theorem dX4_readyInRounds_31 : decode cX4_readyInRounds 31 = .ok (.aload_n 0, 1) := by decide +kernel
theorem dX4_readyInRounds_32 : decode cX4_readyInRounds 32 = .ok (.getfield 24, 3) := by decide +kernel
theorem dX4_readyInRounds_35 : decode cX4_readyInRounds 35 = .ok (.aload_n 3, 1) := by decide +kernel
theorem dX4_readyInRounds_36 : decode cX4_readyInRounds 36 = .ok (.aload_n 1, 1) := by decide +kernel
theorem dX4_readyInRounds_37 : decode cX4_readyInRounds 37 = .ok (.invokevirtual 110, 3) := by decide +kernel
theorem dX4_readyInRounds_40 : decode cX4_readyInRounds 40 = .ok (.iadd, 1) := by decide +kernel
theorem dX4_readyInRounds_41 : decode cX4_readyInRounds 41 = .ok (.istore 5, 2) := by decide +kernel
theorem dX4_readyInRounds_43 : decode cX4_readyInRounds 43 = .ok (.aload_n 2, 1) := by decide +kernel
theorem dX4_readyInRounds_44 : decode cX4_readyInRounds 44 = .ok (.ifnonnull 8, 3) := by decide +kernel
theorem dX4_readyInRounds_47 : decode cX4_readyInRounds 47 = .ok (.iload 5, 2) := by decide +kernel
theorem dX4_readyInRounds_49 : decode cX4_readyInRounds 49 = .ok (.goto 17, 3) := by decide +kernel
theorem dX4_readyInRounds_52 : decode cX4_readyInRounds 52 = .ok (.iload 5, 2) := by decide +kernel
theorem dX4_readyInRounds_54 : decode cX4_readyInRounds 54 = .ok (.aload_n 2, 1) := by decide +kernel
theorem dX4_readyInRounds_55 : decode cX4_readyInRounds 55 = .ok (.getfield 130, 3) := by decide +kernel
theorem dX4_readyInRounds_58 : decode cX4_readyInRounds 58 = .ok (.aload_n 2, 1) := by decide +kernel
theorem dX4_readyInRounds_59 : decode cX4_readyInRounds 59 = .ok (.getfield 120, 3) := by decide +kernel
theorem dX4_readyInRounds_62 : decode cX4_readyInRounds 62 = .ok (.iadd, 1) := by decide +kernel
theorem dX4_readyInRounds_63 : decode cX4_readyInRounds 63 = .ok (.invokestatic 114, 3) := by decide +kernel
theorem dX4_readyInRounds_66 : decode cX4_readyInRounds 66 = .ok (.ireturn, 1) := by decide +kernel
theorem dX4_findLatestStarts_0 : decode cX4_findLatestStarts 0 = .ok (.aload_n 0, 1) := by decide +kernel
theorem dX4_findLatestStarts_1 : decode cX4_findLatestStarts 1 = .ok (.getfield 28, 3) := by decide +kernel
theorem dX4_findLatestStarts_4 : decode cX4_findLatestStarts 4 = .ok (.invokevirtual 45, 3) := by decide +kernel
theorem dX4_findLatestStarts_7 : decode cX4_findLatestStarts 7 = .ok (.iconst 1, 1) := by decide +kernel
theorem dX4_findLatestStarts_8 : decode cX4_findLatestStarts 8 = .ok (.isub, 1) := by decide +kernel
theorem dX4_findLatestStarts_9 : decode cX4_findLatestStarts 9 = .ok (.istore_n 1, 1) := by decide +kernel
theorem dX4_findLatestStarts_10 : decode cX4_findLatestStarts 10 = .ok (.iload_n 1, 1) := by decide +kernel
theorem dX4_findLatestStarts_11 : decode cX4_findLatestStarts 11 = .ok (.ifCond .lt 48, 3) := by decide +kernel
theorem dX4_findLatestStarts_14 : decode cX4_findLatestStarts 14 = .ok (.aload_n 0, 1) := by decide +kernel
theorem dX4_findLatestStarts_15 : decode cX4_findLatestStarts 15 = .ok (.getfield 28, 3) := by decide +kernel
theorem dX4_findLatestStarts_18 : decode cX4_findLatestStarts 18 = .ok (.iload_n 1, 1) := by decide +kernel
theorem dX4_findLatestStarts_19 : decode cX4_findLatestStarts 19 = .ok (.invokevirtual 72, 3) := by decide +kernel
theorem dX4_findLatestStarts_22 : decode cX4_findLatestStarts 22 = .ok (.checkcast 35, 3) := by decide +kernel
theorem dX4_findLatestStarts_25 : decode cX4_findLatestStarts 25 = .ok (.astore_n 2, 1) := by decide +kernel
theorem dX4_findLatestStarts_26 : decode cX4_findLatestStarts 26 = .ok (.aload_n 0, 1) := by decide +kernel
theorem dX4_findLatestStarts_27 : decode cX4_findLatestStarts 27 = .ok (.aload_n 2, 1) := by decide +kernel
theorem dX4_findLatestStarts_28 : decode cX4_findLatestStarts 28 = .ok (.invokevirtual 141, 3) := by decide +kernel
theorem dX4_findLatestStarts_31 : decode cX4_findLatestStarts 31 = .ok (.aload_n 2, 1) := by decide +kernel
theorem dX4_findLatestStarts_32 : decode cX4_findLatestStarts 32 = .ok (.getfield 120, 3) := by decide +kernel
theorem dX4_findLatestStarts_35 : decode cX4_findLatestStarts 35 = .ok (.isub, 1) := by decide +kernel
theorem dX4_findLatestStarts_36 : decode cX4_findLatestStarts 36 = .ok (.istore_n 3, 1) := by decide +kernel
theorem dX4_findLatestStarts_37 : decode cX4_findLatestStarts 37 = .ok (.aload_n 2, 1) := by decide +kernel
theorem dX4_findLatestStarts_38 : decode cX4_findLatestStarts 38 = .ok (.aload_n 2, 1) := by decide +kernel
theorem dX4_findLatestStarts_39 : decode cX4_findLatestStarts 39 = .ok (.getfield 34, 3) := by decide +kernel
theorem dX4_findLatestStarts_42 : decode cX4_findLatestStarts 42 = .ok (.iload_n 3, 1) := by decide +kernel
theorem dX4_findLatestStarts_43 : decode cX4_findLatestStarts 43 = .ok (.aload_n 2, 1) := by decide +kernel
theorem dX4_findLatestStarts_44 : decode cX4_findLatestStarts 44 = .ok (.getfield 120, 3) := by decide +kernel
theorem dX4_findLatestStarts_47 : decode cX4_findLatestStarts 47 = .ok (.invokevirtual 144, 3) := by decide +kernel
theorem dX4_findLatestStarts_50 : decode cX4_findLatestStarts 50 = .ok (.putfield 147, 3) := by decide +kernel
theorem dX4_findLatestStarts_53 : decode cX4_findLatestStarts 53 = .ok (.iinc 1 (-1), 3) := by decide +kernel
theorem dX4_findLatestStarts_56 : decode cX4_findLatestStarts 56 = .ok (.goto (-46), 3) := by decide +kernel
theorem dX4_findLatestStarts_59 : decode cX4_findLatestStarts 59 = .ok (.return_, 1) := by decide +kernel
theorem dX4_latestFinish_0 : decode cX4_latestFinish 0 = .ok (.aload_n 1, 1) := by decide +kernel
theorem dX4_latestFinish_1 : decode cX4_latestFinish 1 = .ok (.getfield 150, 3) := by decide +kernel
theorem dX4_latestFinish_4 : decode cX4_latestFinish 4 = .ok (.astore_n 2, 1) := by decide +kernel
theorem dX4_latestFinish_5 : decode cX4_latestFinish 5 = .ok (.aload_n 1, 1) := by decide +kernel
theorem dX4_latestFinish_6 : decode cX4_latestFinish 6 = .ok (.getfield 153, 3) := by decide +kernel
theorem dX4_latestFinish_9 : decode cX4_latestFinish 9 = .ok (.astore_n 3, 1) := by decide +kernel
theorem dX4_latestFinish_10 : decode cX4_latestFinish 10 = .ok (.aload_n 0, 1) := by decide +kernel
theorem dX4_latestFinish_11 : decode cX4_latestFinish 11 = .ok (.getfield 58, 3) := by decide +kernel
theorem dX4_latestFinish_14 : decode cX4_latestFinish 14 = .ok (.istore 4, 2) := by decide +kernel
theorem dX4_latestFinish_16 : decode cX4_latestFinish 16 = .ok (.aload_n 2, 1) := by decide +kernel
theorem dX4_latestFinish_17 : decode cX4_latestFinish 17 = .ok (.ifnull 14, 3) := by decide +kernel
theorem dX4_latestFinish_20 : decode cX4_latestFinish 20 = .ok (.iload 4, 2) := by decide +kernel
theorem dX4_latestFinish_22 : decode cX4_latestFinish 22 = .ok (.aload_n 2, 1) := by decide +kernel
theorem dX4_latestFinish_23 : decode cX4_latestFinish 23 = .ok (.getfield 147, 3) := by decide +kernel
theorem dX4_latestFinish_26 : decode cX4_latestFinish 26 = .ok (.invokestatic 156, 3) := by decide +kernel
theorem dX4_latestFinish_29 : decode cX4_latestFinish 29 = .ok (.istore 4, 2) := by decide +kernel
theorem dX4_latestFinish_31 : decode cX4_latestFinish 31 = .ok (.aload_n 3, 1) := by decide +kernel
theorem dX4_latestFinish_32 : decode cX4_latestFinish 32 = .ok (.ifnull 24, 3) := by decide +kernel
theorem dX4_latestFinish_35 : decode cX4_latestFinish 35 = .ok (.iload 4, 2) := by decide +kernel
theorem dX4_latestFinish_37 : decode cX4_latestFinish 37 = .ok (.aload_n 3, 1) := by decide +kernel
theorem dX4_latestFinish_38 : decode cX4_latestFinish 38 = .ok (.getfield 147, 3) := by decide +kernel
theorem dX4_latestFinish_41 : decode cX4_latestFinish 41 = .ok (.aload_n 0, 1) := by decide +kernel
theorem dX4_latestFinish_42 : decode cX4_latestFinish 42 = .ok (.getfield 24, 3) := by decide +kernel
theorem dX4_latestFinish_45 : decode cX4_latestFinish 45 = .ok (.aload_n 1, 1) := by decide +kernel
theorem dX4_latestFinish_46 : decode cX4_latestFinish 46 = .ok (.aload_n 3, 1) := by decide +kernel
theorem dX4_latestFinish_47 : decode cX4_latestFinish 47 = .ok (.invokevirtual 110, 3) := by decide +kernel
theorem dX4_latestFinish_50 : decode cX4_latestFinish 50 = .ok (.isub, 1) := by decide +kernel
theorem dX4_latestFinish_51 : decode cX4_latestFinish 51 = .ok (.invokestatic 156, 3) := by decide +kernel
theorem dX4_latestFinish_54 : decode cX4_latestFinish 54 = .ok (.istore 4, 2) := by decide +kernel
theorem dX4_latestFinish_56 : decode cX4_latestFinish 56 = .ok (.iload 4, 2) := by decide +kernel
theorem dX4_latestFinish_58 : decode cX4_latestFinish 58 = .ok (.ireturn, 1) := by decide +kernel
theorem dX4_findPath_0 : decode cX4_findPath 0 = .ok (.aload_n 0, 1) := by decide +kernel
theorem dX4_findPath_1 : decode cX4_findPath 1 = .ok (.getfield 31, 3) := by decide +kernel
theorem dX4_findPath_4 : decode cX4_findPath 4 = .ok (.invokevirtual 80, 3) := by decide +kernel
theorem dX4_findPath_7 : decode cX4_findPath 7 = .ok (.aload_n 0, 1) := by decide +kernel
theorem dX4_findPath_8 : decode cX4_findPath 8 = .ok (.invokevirtual 159, 3) := by decide +kernel
theorem dX4_findPath_11 : decode cX4_findPath 11 = .ok (.astore_n 1, 1) := by decide +kernel
theorem dX4_findPath_12 : decode cX4_findPath 12 = .ok (.iconst 0, 1) := by decide +kernel
theorem dX4_findPath_13 : decode cX4_findPath 13 = .ok (.istore_n 2, 1) := by decide +kernel
theorem dX4_findPath_14 : decode cX4_findPath 14 = .ok (.iload_n 2, 1) := by decide +kernel
theorem dX4_findPath_15 : decode cX4_findPath 15 = .ok (.bipush 32, 2) := by decide +kernel
theorem dX4_findPath_17 : decode cX4_findPath 17 = .ok (.if_icmp .ge 28, 3) := by decide +kernel
theorem dX4_findPath_20 : decode cX4_findPath 20 = .ok (.aload_n 1, 1) := by decide +kernel
theorem dX4_findPath_21 : decode cX4_findPath 21 = .ok (.ifnull 24, 3) := by decide +kernel
theorem dX4_findPath_24 : decode cX4_findPath 24 = .ok (.aload_n 0, 1) := by decide +kernel
theorem dX4_findPath_25 : decode cX4_findPath 25 = .ok (.getfield 31, 3) := by decide +kernel
theorem dX4_findPath_28 : decode cX4_findPath 28 = .ok (.aload_n 1, 1) := by decide +kernel
theorem dX4_findPath_29 : decode cX4_findPath 29 = .ok (.invokevirtual 126, 3) := by decide +kernel
theorem dX4_findPath_32 : decode cX4_findPath 32 = .ok (.pop, 1) := by decide +kernel
theorem dX4_findPath_33 : decode cX4_findPath 33 = .ok (.aload_n 0, 1) := by decide +kernel
theorem dX4_findPath_34 : decode cX4_findPath 34 = .ok (.aload_n 1, 1) := by decide +kernel
theorem dX4_findPath_35 : decode cX4_findPath 35 = .ok (.invokevirtual 163, 3) := by decide +kernel
theorem dX4_findPath_38 : decode cX4_findPath 38 = .ok (.astore_n 1, 1) := by decide +kernel
theorem dX4_findPath_39 : decode cX4_findPath 39 = .ok (.iinc 2 1, 3) := by decide +kernel
theorem dX4_findPath_42 : decode cX4_findPath 42 = .ok (.goto (-28), 3) := by decide +kernel
theorem dX4_findPath_45 : decode cX4_findPath 45 = .ok (.return_, 1) := by decide +kernel
theorem dX4_lastOfPath_0 : decode cX4_lastOfPath 0 = .ok (.iconst 0, 1) := by decide +kernel
theorem dX4_lastOfPath_1 : decode cX4_lastOfPath 1 = .ok (.istore_n 1, 1) := by decide +kernel
theorem dX4_lastOfPath_2 : decode cX4_lastOfPath 2 = .ok (.iload_n 1, 1) := by decide +kernel
theorem dX4_lastOfPath_3 : decode cX4_lastOfPath 3 = .ok (.aload_n 0, 1) := by decide +kernel
theorem dX4_lastOfPath_4 : decode cX4_lastOfPath 4 = .ok (.getfield 18, 3) := by decide +kernel
theorem dX4_lastOfPath_7 : decode cX4_lastOfPath 7 = .ok (.invokevirtual 45, 3) := by decide +kernel
theorem dX4_lastOfPath_10 : decode cX4_lastOfPath 10 = .ok (.if_icmp .ge 80, 3) := by decide +kernel
theorem dX4_lastOfPath_13 : decode cX4_lastOfPath 13 = .ok (.aload_n 0, 1) := by decide +kernel
theorem dX4_lastOfPath_14 : decode cX4_lastOfPath 14 = .ok (.getfield 18, 3) := by decide +kernel
theorem dX4_lastOfPath_17 : decode cX4_lastOfPath 17 = .ok (.iload_n 1, 1) := by decide +kernel
theorem dX4_lastOfPath_18 : decode cX4_lastOfPath 18 = .ok (.invokevirtual 72, 3) := by decide +kernel
theorem dX4_lastOfPath_21 : decode cX4_lastOfPath 21 = .ok (.checkcast 83, 3) := by decide +kernel
theorem dX4_lastOfPath_24 : decode cX4_lastOfPath 24 = .ok (.astore_n 2, 1) := by decide +kernel
theorem dX4_lastOfPath_25 : decode cX4_lastOfPath 25 = .ok (.iconst 0, 1) := by decide +kernel
theorem dX4_lastOfPath_26 : decode cX4_lastOfPath 26 = .ok (.istore_n 3, 1) := by decide +kernel
theorem dX4_lastOfPath_27 : decode cX4_lastOfPath 27 = .ok (.aload_n 2, 1) := by decide +kernel
theorem dX4_lastOfPath_28 : decode cX4_lastOfPath 28 = .ok (.getfield 167, 3) := by decide +kernel
theorem dX4_lastOfPath_31 : decode cX4_lastOfPath 31 = .ok (.ifCond .eq 53, 3) := by decide +kernel
theorem dX4_lastOfPath_34 : decode cX4_lastOfPath 34 = .ok (.iload_n 3, 1) := by decide +kernel
theorem dX4_lastOfPath_35 : decode cX4_lastOfPath 35 = .ok (.aload_n 2, 1) := by decide +kernel
theorem dX4_lastOfPath_36 : decode cX4_lastOfPath 36 = .ok (.getfield 171, 3) := by decide +kernel
theorem dX4_lastOfPath_39 : decode cX4_lastOfPath 39 = .ok (.invokevirtual 45, 3) := by decide +kernel
theorem dX4_lastOfPath_42 : decode cX4_lastOfPath 42 = .ok (.if_icmp .ge 42, 3) := by decide +kernel
theorem dX4_lastOfPath_45 : decode cX4_lastOfPath 45 = .ok (.aload_n 2, 1) := by decide +kernel
theorem dX4_lastOfPath_46 : decode cX4_lastOfPath 46 = .ok (.getfield 171, 3) := by decide +kernel
theorem dX4_lastOfPath_49 : decode cX4_lastOfPath 49 = .ok (.iload_n 3, 1) := by decide +kernel
theorem dX4_lastOfPath_50 : decode cX4_lastOfPath 50 = .ok (.invokevirtual 72, 3) := by decide +kernel
theorem dX4_lastOfPath_53 : decode cX4_lastOfPath 53 = .ok (.checkcast 35, 3) := by decide +kernel
theorem dX4_lastOfPath_56 : decode cX4_lastOfPath 56 = .ok (.getfield 107, 3) := by decide +kernel
theorem dX4_lastOfPath_59 : decode cX4_lastOfPath 59 = .ok (.aload_n 0, 1) := by decide +kernel
theorem dX4_lastOfPath_60 : decode cX4_lastOfPath 60 = .ok (.getfield 58, 3) := by decide +kernel
theorem dX4_lastOfPath_63 : decode cX4_lastOfPath 63 = .ok (.if_icmp .ne 15, 3) := by decide +kernel
theorem dX4_lastOfPath_66 : decode cX4_lastOfPath 66 = .ok (.aload_n 2, 1) := by decide +kernel
theorem dX4_lastOfPath_67 : decode cX4_lastOfPath 67 = .ok (.getfield 171, 3) := by decide +kernel
theorem dX4_lastOfPath_70 : decode cX4_lastOfPath 70 = .ok (.iload_n 3, 1) := by decide +kernel
theorem dX4_lastOfPath_71 : decode cX4_lastOfPath 71 = .ok (.invokevirtual 72, 3) := by decide +kernel
theorem dX4_lastOfPath_74 : decode cX4_lastOfPath 74 = .ok (.checkcast 35, 3) := by decide +kernel
theorem dX4_lastOfPath_77 : decode cX4_lastOfPath 77 = .ok (.areturn, 1) := by decide +kernel
theorem dX4_lastOfPath_78 : decode cX4_lastOfPath 78 = .ok (.iinc 3 1, 3) := by decide +kernel
theorem dX4_lastOfPath_81 : decode cX4_lastOfPath 81 = .ok (.goto (-54), 3) := by decide +kernel
theorem dX4_lastOfPath_84 : decode cX4_lastOfPath 84 = .ok (.iinc 1 1, 3) := by decide +kernel
theorem dX4_lastOfPath_87 : decode cX4_lastOfPath 87 = .ok (.goto (-85), 3) := by decide +kernel
theorem dX4_lastOfPath_90 : decode cX4_lastOfPath 90 = .ok (.aconst_null, 1) := by decide +kernel
theorem dX4_lastOfPath_91 : decode cX4_lastOfPath 91 = .ok (.areturn, 1) := by decide +kernel
theorem dX4_aheadOnPath_0 : decode cX4_aheadOnPath 0 = .ok (.aload_n 1, 1) := by decide +kernel
theorem dX4_aheadOnPath_1 : decode cX4_aheadOnPath 1 = .ok (.getfield 100, 3) := by decide +kernel
theorem dX4_aheadOnPath_4 : decode cX4_aheadOnPath 4 = .ok (.astore_n 2, 1) := by decide +kernel
theorem dX4_aheadOnPath_5 : decode cX4_aheadOnPath 5 = .ok (.aload_n 1, 1) := by decide +kernel
theorem dX4_aheadOnPath_6 : decode cX4_aheadOnPath 6 = .ok (.getfield 104, 3) := by decide +kernel
theorem dX4_aheadOnPath_9 : decode cX4_aheadOnPath 9 = .ok (.astore_n 3, 1) := by decide +kernel
theorem dX4_aheadOnPath_10 : decode cX4_aheadOnPath 10 = .ok (.aload_n 2, 1) := by decide +kernel
theorem dX4_aheadOnPath_11 : decode cX4_aheadOnPath 11 = .ok (.ifnull 16, 3) := by decide +kernel
theorem dX4_aheadOnPath_14 : decode cX4_aheadOnPath 14 = .ok (.aload_n 2, 1) := by decide +kernel
theorem dX4_aheadOnPath_15 : decode cX4_aheadOnPath 15 = .ok (.getfield 107, 3) := by decide +kernel
theorem dX4_aheadOnPath_18 : decode cX4_aheadOnPath 18 = .ok (.aload_n 1, 1) := by decide +kernel
theorem dX4_aheadOnPath_19 : decode cX4_aheadOnPath 19 = .ok (.getfield 62, 3) := by decide +kernel
theorem dX4_aheadOnPath_22 : decode cX4_aheadOnPath 22 = .ok (.if_icmp .ne 5, 3) := by decide +kernel
theorem dX4_aheadOnPath_25 : decode cX4_aheadOnPath 25 = .ok (.aload_n 2, 1) := by decide +kernel
theorem dX4_aheadOnPath_26 : decode cX4_aheadOnPath 26 = .ok (.areturn, 1) := by decide +kernel
theorem dX4_aheadOnPath_27 : decode cX4_aheadOnPath 27 = .ok (.aload_n 3, 1) := by decide +kernel
theorem dX4_aheadOnPath_28 : decode cX4_aheadOnPath 28 = .ok (.ifnull 26, 3) := by decide +kernel
theorem dX4_aheadOnPath_31 : decode cX4_aheadOnPath 31 = .ok (.aload_n 3, 1) := by decide +kernel
theorem dX4_aheadOnPath_32 : decode cX4_aheadOnPath 32 = .ok (.getfield 107, 3) := by decide +kernel
theorem dX4_aheadOnPath_35 : decode cX4_aheadOnPath 35 = .ok (.aload_n 0, 1) := by decide +kernel
theorem dX4_aheadOnPath_36 : decode cX4_aheadOnPath 36 = .ok (.getfield 24, 3) := by decide +kernel
theorem dX4_aheadOnPath_39 : decode cX4_aheadOnPath 39 = .ok (.aload_n 3, 1) := by decide +kernel
theorem dX4_aheadOnPath_40 : decode cX4_aheadOnPath 40 = .ok (.aload_n 1, 1) := by decide +kernel
theorem dX4_aheadOnPath_41 : decode cX4_aheadOnPath 41 = .ok (.invokevirtual 110, 3) := by decide +kernel
theorem dX4_aheadOnPath_44 : decode cX4_aheadOnPath 44 = .ok (.iadd, 1) := by decide +kernel
theorem dX4_aheadOnPath_45 : decode cX4_aheadOnPath 45 = .ok (.aload_n 1, 1) := by decide +kernel
theorem dX4_aheadOnPath_46 : decode cX4_aheadOnPath 46 = .ok (.getfield 62, 3) := by decide +kernel
theorem dX4_aheadOnPath_49 : decode cX4_aheadOnPath 49 = .ok (.if_icmp .ne 5, 3) := by decide +kernel
theorem dX4_aheadOnPath_52 : decode cX4_aheadOnPath 52 = .ok (.aload_n 3, 1) := by decide +kernel
theorem dX4_aheadOnPath_53 : decode cX4_aheadOnPath 53 = .ok (.areturn, 1) := by decide +kernel
theorem dX4_aheadOnPath_54 : decode cX4_aheadOnPath 54 = .ok (.aconst_null, 1) := by decide +kernel
theorem dX4_aheadOnPath_55 : decode cX4_aheadOnPath 55 = .ok (.areturn, 1) := by decide +kernel
theorem dX5_init_0 : decode cX5_init 0 = .ok (.aload_n 0, 1) := by decide +kernel
theorem dX5_init_1 : decode cX5_init 1 = .ok (.invokespecial 3, 3) := by decide +kernel
theorem dX5_init_4 : decode cX5_init 4 = .ok (.aload_n 0, 1) := by decide +kernel
theorem dX5_init_5 : decode cX5_init 5 = .ok (.new 9, 3) := by decide +kernel
theorem dX5_init_8 : decode cX5_init 8 = .ok (.dup, 1) := by decide +kernel
theorem dX5_init_9 : decode cX5_init 9 = .ok (.invokespecial 11, 3) := by decide +kernel
theorem dX5_init_12 : decode cX5_init 12 = .ok (.putfield 12, 3) := by decide +kernel
theorem dX5_init_15 : decode cX5_init 15 = .ok (.return_, 1) := by decide +kernel
theorem dX5_addMachine_0 : decode cX5_addMachine 0 = .ok (.aload_n 0, 1) := by decide +kernel
theorem dX5_addMachine_1 : decode cX5_addMachine 1 = .ok (.getfield 12, 3) := by decide +kernel
theorem dX5_addMachine_4 : decode cX5_addMachine 4 = .ok (.getfield 16, 3) := by decide +kernel
theorem dX5_addMachine_7 : decode cX5_addMachine 7 = .ok (.invokevirtual 20, 3) := by decide +kernel
theorem dX5_addMachine_10 : decode cX5_addMachine 10 = .ok (.iconst 4, 1) := by decide +kernel
theorem dX5_addMachine_11 : decode cX5_addMachine 11 = .ok (.if_icmp .lt 13, 3) := by decide +kernel
theorem dX5_addMachine_14 : decode cX5_addMachine 14 = .ok (.new 26, 3) := by decide +kernel
theorem dX5_addMachine_17 : decode cX5_addMachine 17 = .ok (.dup, 1) := by decide +kernel
theorem dX5_addMachine_18 : decode cX5_addMachine 18 = .ok (.ldc 28, 2) := by decide +kernel
theorem dX5_addMachine_20 : decode cX5_addMachine 20 = .ok (.invokespecial 30, 3) := by decide +kernel
theorem dX5_addMachine_23 : decode cX5_addMachine 23 = .ok (.athrow, 1) := by decide +kernel
theorem dX5_addMachine_24 : decode cX5_addMachine 24 = .ok (.aload_n 0, 1) := by decide +kernel
theorem dX5_addMachine_25 : decode cX5_addMachine 25 = .ok (.getfield 12, 3) := by decide +kernel
theorem dX5_addMachine_28 : decode cX5_addMachine 28 = .ok (.getfield 16, 3) := by decide +kernel
theorem dX5_addMachine_31 : decode cX5_addMachine 31 = .ok (.new 33, 3) := by decide +kernel
theorem dX5_addMachine_34 : decode cX5_addMachine 34 = .ok (.dup, 1) := by decide +kernel
theorem dX5_addMachine_35 : decode cX5_addMachine 35 = .ok (.invokespecial 35, 3) := by decide +kernel
theorem dX5_addMachine_38 : decode cX5_addMachine 38 = .ok (.invokevirtual 36, 3) := by decide +kernel
theorem dX5_addMachine_41 : decode cX5_addMachine 41 = .ok (.pop, 1) := by decide +kernel
theorem dX5_addMachine_42 : decode cX5_addMachine 42 = .ok (.aload_n 0, 1) := by decide +kernel
theorem dX5_addMachine_43 : decode cX5_addMachine 43 = .ok (.getfield 12, 3) := by decide +kernel
theorem dX5_addMachine_46 : decode cX5_addMachine 46 = .ok (.getfield 16, 3) := by decide +kernel
theorem dX5_addMachine_49 : decode cX5_addMachine 49 = .ok (.invokevirtual 20, 3) := by decide +kernel
theorem dX5_addMachine_52 : decode cX5_addMachine 52 = .ok (.iconst 1, 1) := by decide +kernel
theorem dX5_addMachine_53 : decode cX5_addMachine 53 = .ok (.isub, 1) := by decide +kernel
theorem dX5_addMachine_54 : decode cX5_addMachine 54 = .ok (.ireturn, 1) := by decide +kernel
theorem dX5_setMagazine_0 : decode cX5_setMagazine 0 = .ok (.aload_n 0, 1) := by decide +kernel
theorem dX5_setMagazine_1 : decode cX5_setMagazine 1 = .ok (.iload_n 1, 1) := by decide +kernel
theorem dX5_setMagazine_2 : decode cX5_setMagazine 2 = .ok (.invokevirtual 40, 3) := by decide +kernel
theorem dX5_setMagazine_5 : decode cX5_setMagazine 5 = .ok (.astore_n 3, 1) := by decide +kernel
theorem dX5_setMagazine_6 : decode cX5_setMagazine 6 = .ok (.iload_n 2, 1) := by decide +kernel
theorem dX5_setMagazine_7 : decode cX5_setMagazine 7 = .ok (.iconst 1, 1) := by decide +kernel
theorem dX5_setMagazine_8 : decode cX5_setMagazine 8 = .ok (.if_icmp .lt 9, 3) := by decide +kernel
theorem dX5_setMagazine_11 : decode cX5_setMagazine 11 = .ok (.iload_n 2, 1) := by decide +kernel
theorem dX5_setMagazine_12 : decode cX5_setMagazine 12 = .ok (.bipush 8, 2) := by decide +kernel
theorem dX5_setMagazine_14 : decode cX5_setMagazine 14 = .ok (.if_icmp .le 13, 3) := by decide +kernel
theorem dX5_setMagazine_17 : decode cX5_setMagazine 17 = .ok (.new 44, 3) := by decide +kernel
theorem dX5_setMagazine_20 : decode cX5_setMagazine 20 = .ok (.dup, 1) := by decide +kernel
theorem dX5_setMagazine_21 : decode cX5_setMagazine 21 = .ok (.ldc 46, 2) := by decide +kernel
theorem dX5_setMagazine_23 : decode cX5_setMagazine 23 = .ok (.invokespecial 48, 3) := by decide +kernel
theorem dX5_setMagazine_26 : decode cX5_setMagazine 26 = .ok (.athrow, 1) := by decide +kernel
theorem dX5_setMagazine_27 : decode cX5_setMagazine 27 = .ok (.iload_n 2, 1) := by decide +kernel
theorem dX5_setMagazine_28 : decode cX5_setMagazine 28 = .ok (.aload_n 3, 1) := by decide +kernel
theorem dX5_setMagazine_29 : decode cX5_setMagazine 29 = .ok (.getfield 49, 3) := by decide +kernel
theorem dX5_setMagazine_32 : decode cX5_setMagazine 32 = .ok (.if_icmp .ge 13, 3) := by decide +kernel
theorem dX5_setMagazine_35 : decode cX5_setMagazine 35 = .ok (.new 26, 3) := by decide +kernel
theorem dX5_setMagazine_38 : decode cX5_setMagazine 38 = .ok (.dup, 1) := by decide +kernel
theorem dX5_setMagazine_39 : decode cX5_setMagazine 39 = .ok (.ldc 53, 2) := by decide +kernel
theorem dX5_setMagazine_41 : decode cX5_setMagazine 41 = .ok (.invokespecial 30, 3) := by decide +kernel
theorem dX5_setMagazine_44 : decode cX5_setMagazine 44 = .ok (.athrow, 1) := by decide +kernel
theorem dX5_setMagazine_45 : decode cX5_setMagazine 45 = .ok (.aload_n 3, 1) := by decide +kernel
theorem dX5_setMagazine_46 : decode cX5_setMagazine 46 = .ok (.getfield 55, 3) := by decide +kernel
theorem dX5_setMagazine_49 : decode cX5_setMagazine 49 = .ok (.istore 4, 2) := by decide +kernel
theorem dX5_setMagazine_51 : decode cX5_setMagazine 51 = .ok (.aload_n 3, 1) := by decide +kernel
theorem dX5_setMagazine_52 : decode cX5_setMagazine 52 = .ok (.iload_n 2, 1) := by decide +kernel
theorem dX5_setMagazine_53 : decode cX5_setMagazine 53 = .ok (.putfield 55, 3) := by decide +kernel
theorem dX5_setMagazine_56 : decode cX5_setMagazine 56 = .ok (.iload 4, 2) := by decide +kernel
theorem dX5_setMagazine_58 : decode cX5_setMagazine 58 = .ok (.ireturn, 1) := by decide +kernel
theorem dX5_breakdown_0 : decode cX5_breakdown 0 = .ok (.aload_n 0, 1) := by decide +kernel
theorem dX5_breakdown_1 : decode cX5_breakdown 1 = .ok (.iload_n 1, 1) := by decide +kernel
theorem dX5_breakdown_2 : decode cX5_breakdown 2 = .ok (.invokevirtual 40, 3) := by decide +kernel
theorem dX5_breakdown_5 : decode cX5_breakdown 5 = .ok (.astore 4, 2) := by decide +kernel
theorem dX5_breakdown_7 : decode cX5_breakdown 7 = .ok (.iload_n 2, 1) := by decide +kernel
theorem dX5_breakdown_8 : decode cX5_breakdown 8 = .ok (.ifCond .lt 10, 3) := by decide +kernel
theorem dX5_breakdown_11 : decode cX5_breakdown 11 = .ok (.iload_n 2, 1) := by decide +kernel
theorem dX5_breakdown_12 : decode cX5_breakdown 12 = .ok (.sipush 10000, 3) := by decide +kernel
theorem dX5_breakdown_15 : decode cX5_breakdown 15 = .ok (.if_icmp .lt 13, 3) := by decide +kernel
theorem dX5_breakdown_18 : decode cX5_breakdown 18 = .ok (.new 44, 3) := by decide +kernel
theorem dX5_breakdown_21 : decode cX5_breakdown 21 = .ok (.dup, 1) := by decide +kernel
theorem dX5_breakdown_22 : decode cX5_breakdown 22 = .ok (.ldc 58, 2) := by decide +kernel
theorem dX5_breakdown_24 : decode cX5_breakdown 24 = .ok (.invokespecial 48, 3) := by decide +kernel
theorem dX5_breakdown_27 : decode cX5_breakdown 27 = .ok (.athrow, 1) := by decide +kernel
theorem dX5_breakdown_28 : decode cX5_breakdown 28 = .ok (.iload_n 3, 1) := by decide +kernel
theorem dX5_breakdown_29 : decode cX5_breakdown 29 = .ok (.iload_n 2, 1) := by decide +kernel
theorem dX5_breakdown_30 : decode cX5_breakdown 30 = .ok (.if_icmp .le 10, 3) := by decide +kernel
theorem dX5_breakdown_33 : decode cX5_breakdown 33 = .ok (.iload_n 3, 1) := by decide +kernel
theorem dX5_breakdown_34 : decode cX5_breakdown 34 = .ok (.sipush 10000, 3) := by decide +kernel
theorem dX5_breakdown_37 : decode cX5_breakdown 37 = .ok (.if_icmp .le 13, 3) := by decide +kernel
theorem dX5_breakdown_40 : decode cX5_breakdown 40 = .ok (.new 44, 3) := by decide +kernel
theorem dX5_breakdown_43 : decode cX5_breakdown 43 = .ok (.dup, 1) := by decide +kernel
theorem dX5_breakdown_44 : decode cX5_breakdown 44 = .ok (.ldc 60, 2) := by decide +kernel
theorem dX5_breakdown_46 : decode cX5_breakdown 46 = .ok (.invokespecial 48, 3) := by decide +kernel
theorem dX5_breakdown_49 : decode cX5_breakdown 49 = .ok (.athrow, 1) := by decide +kernel
theorem dX5_breakdown_50 : decode cX5_breakdown 50 = .ok (.aload 4, 2) := by decide +kernel
theorem dX5_breakdown_52 : decode cX5_breakdown 52 = .ok (.iconst 1, 1) := by decide +kernel
theorem dX5_breakdown_53 : decode cX5_breakdown 53 = .ok (.putfield 62, 3) := by decide +kernel
theorem dX5_breakdown_56 : decode cX5_breakdown 56 = .ok (.aload 4, 2) := by decide +kernel
theorem dX5_breakdown_58 : decode cX5_breakdown 58 = .ok (.iload_n 2, 1) := by decide +kernel
theorem dX5_breakdown_59 : decode cX5_breakdown 59 = .ok (.putfield 66, 3) := by decide +kernel
theorem dX5_breakdown_62 : decode cX5_breakdown 62 = .ok (.aload 4, 2) := by decide +kernel
theorem dX5_breakdown_64 : decode cX5_breakdown 64 = .ok (.iload_n 3, 1) := by decide +kernel
theorem dX5_breakdown_65 : decode cX5_breakdown 65 = .ok (.putfield 69, 3) := by decide +kernel
theorem dX5_breakdown_68 : decode cX5_breakdown 68 = .ok (.aload_n 0, 1) := by decide +kernel
theorem dX5_breakdown_69 : decode cX5_breakdown 69 = .ok (.getfield 12, 3) := by decide +kernel
theorem dX5_breakdown_72 : decode cX5_breakdown 72 = .ok (.invokevirtual 72, 3) := by decide +kernel
theorem dX5_breakdown_75 : decode cX5_breakdown 75 = .ok (.pop, 1) := by decide +kernel
theorem dX5_breakdown_76 : decode cX5_breakdown 76 = .ok (.aload_n 0, 1) := by decide +kernel
theorem dX5_breakdown_77 : decode cX5_breakdown 77 = .ok (.getfield 12, 3) := by decide +kernel
theorem dX5_breakdown_80 : decode cX5_breakdown 80 = .ok (.getfield 76, 3) := by decide +kernel
theorem dX5_breakdown_83 : decode cX5_breakdown 83 = .ok (.ireturn, 1) := by decide +kernel
theorem dX5_repair_0 : decode cX5_repair 0 = .ok (.aload_n 0, 1) := by decide +kernel
theorem dX5_repair_1 : decode cX5_repair 1 = .ok (.iload_n 1, 1) := by decide +kernel
theorem dX5_repair_2 : decode cX5_repair 2 = .ok (.invokevirtual 40, 3) := by decide +kernel
theorem dX5_repair_5 : decode cX5_repair 5 = .ok (.astore_n 2, 1) := by decide +kernel
theorem dX5_repair_6 : decode cX5_repair 6 = .ok (.aload_n 2, 1) := by decide +kernel
theorem dX5_repair_7 : decode cX5_repair 7 = .ok (.getfield 62, 3) := by decide +kernel
theorem dX5_repair_10 : decode cX5_repair 10 = .ok (.istore_n 3, 1) := by decide +kernel
theorem dX5_repair_11 : decode cX5_repair 11 = .ok (.aload_n 2, 1) := by decide +kernel
theorem dX5_repair_12 : decode cX5_repair 12 = .ok (.iconst 0, 1) := by decide +kernel
theorem dX5_repair_13 : decode cX5_repair 13 = .ok (.putfield 62, 3) := by decide +kernel
theorem dX5_repair_16 : decode cX5_repair 16 = .ok (.aload_n 0, 1) := by decide +kernel
theorem dX5_repair_17 : decode cX5_repair 17 = .ok (.getfield 12, 3) := by decide +kernel
theorem dX5_repair_20 : decode cX5_repair 20 = .ok (.invokevirtual 72, 3) := by decide +kernel
theorem dX5_repair_23 : decode cX5_repair 23 = .ok (.pop, 1) := by decide +kernel
theorem dX5_repair_24 : decode cX5_repair 24 = .ok (.iload_n 3, 1) := by decide +kernel
theorem dX5_repair_25 : decode cX5_repair 25 = .ok (.ireturn, 1) := by decide +kernel
theorem dX5_addJob_0 : decode cX5_addJob 0 = .ok (.iload_n 1, 1) := by decide +kernel
theorem dX5_addJob_1 : decode cX5_addJob 1 = .ok (.ifCond .lt 10, 3) := by decide +kernel
theorem dX5_addJob_4 : decode cX5_addJob 4 = .ok (.iload_n 1, 1) := by decide +kernel
theorem dX5_addJob_5 : decode cX5_addJob 5 = .ok (.sipush 10000, 3) := by decide +kernel
theorem dX5_addJob_8 : decode cX5_addJob 8 = .ok (.if_icmp .le 13, 3) := by decide +kernel
theorem dX5_addJob_11 : decode cX5_addJob 11 = .ok (.new 44, 3) := by decide +kernel
theorem dX5_addJob_14 : decode cX5_addJob 14 = .ok (.dup, 1) := by decide +kernel
theorem dX5_addJob_15 : decode cX5_addJob 15 = .ok (.ldc 79, 2) := by decide +kernel
theorem dX5_addJob_17 : decode cX5_addJob 17 = .ok (.invokespecial 48, 3) := by decide +kernel
theorem dX5_addJob_20 : decode cX5_addJob 20 = .ok (.athrow, 1) := by decide +kernel
theorem dX5_addJob_21 : decode cX5_addJob 21 = .ok (.aload_n 0, 1) := by decide +kernel
theorem dX5_addJob_22 : decode cX5_addJob 22 = .ok (.getfield 12, 3) := by decide +kernel
theorem dX5_addJob_25 : decode cX5_addJob 25 = .ok (.getfield 81, 3) := by decide +kernel
theorem dX5_addJob_28 : decode cX5_addJob 28 = .ok (.invokevirtual 20, 3) := by decide +kernel
theorem dX5_addJob_31 : decode cX5_addJob 31 = .ok (.bipush 8, 2) := by decide +kernel
theorem dX5_addJob_33 : decode cX5_addJob 33 = .ok (.if_icmp .lt 13, 3) := by decide +kernel
theorem dX5_addJob_36 : decode cX5_addJob 36 = .ok (.new 26, 3) := by decide +kernel
theorem dX5_addJob_39 : decode cX5_addJob 39 = .ok (.dup, 1) := by decide +kernel
theorem dX5_addJob_40 : decode cX5_addJob 40 = .ok (.ldc 84, 2) := by decide +kernel
theorem dX5_addJob_42 : decode cX5_addJob 42 = .ok (.invokespecial 30, 3) := by decide +kernel
theorem dX5_addJob_45 : decode cX5_addJob 45 = .ok (.athrow, 1) := by decide +kernel
theorem dX5_addJob_46 : decode cX5_addJob 46 = .ok (.aload_n 0, 1) := by decide +kernel
theorem dX5_addJob_47 : decode cX5_addJob 47 = .ok (.getfield 12, 3) := by decide +kernel
theorem dX5_addJob_50 : decode cX5_addJob 50 = .ok (.getfield 81, 3) := by decide +kernel
theorem dX5_addJob_53 : decode cX5_addJob 53 = .ok (.new 86, 3) := by decide +kernel
theorem dX5_addJob_56 : decode cX5_addJob 56 = .ok (.dup, 1) := by decide +kernel
theorem dX5_addJob_57 : decode cX5_addJob 57 = .ok (.aload_n 0, 1) := by decide +kernel
theorem dX5_addJob_58 : decode cX5_addJob 58 = .ok (.getfield 12, 3) := by decide +kernel
theorem dX5_addJob_61 : decode cX5_addJob 61 = .ok (.getfield 81, 3) := by decide +kernel
theorem dX5_addJob_64 : decode cX5_addJob 64 = .ok (.invokevirtual 20, 3) := by decide +kernel
theorem dX5_addJob_67 : decode cX5_addJob 67 = .ok (.iload_n 1, 1) := by decide +kernel
theorem dX5_addJob_68 : decode cX5_addJob 68 = .ok (.invokespecial 88, 3) := by decide +kernel
theorem dX5_addJob_71 : decode cX5_addJob 71 = .ok (.invokevirtual 36, 3) := by decide +kernel
theorem dX5_addJob_74 : decode cX5_addJob 74 = .ok (.pop, 1) := by decide +kernel
theorem dX5_addJob_75 : decode cX5_addJob 75 = .ok (.aload_n 0, 1) := by decide +kernel
theorem dX5_addJob_76 : decode cX5_addJob 76 = .ok (.getfield 12, 3) := by decide +kernel
theorem dX5_addJob_79 : decode cX5_addJob 79 = .ok (.getfield 81, 3) := by decide +kernel
theorem dX5_addJob_82 : decode cX5_addJob 82 = .ok (.invokevirtual 20, 3) := by decide +kernel
theorem dX5_addJob_85 : decode cX5_addJob 85 = .ok (.iconst 1, 1) := by decide +kernel
theorem dX5_addJob_86 : decode cX5_addJob 86 = .ok (.isub, 1) := by decide +kernel
theorem dX5_addJob_87 : decode cX5_addJob 87 = .ok (.ireturn, 1) := by decide +kernel
theorem dX5_addOperation_0 : decode cX5_addOperation 0 = .ok (.aload_n 0, 1) := by decide +kernel
theorem dX5_addOperation_1 : decode cX5_addOperation 1 = .ok (.iload_n 1, 1) := by decide +kernel
theorem dX5_addOperation_2 : decode cX5_addOperation 2 = .ok (.invokevirtual 91, 3) := by decide +kernel
theorem dX5_addOperation_5 : decode cX5_addOperation 5 = .ok (.astore 6, 2) := by decide +kernel
theorem dX5_addOperation_7 : decode cX5_addOperation 7 = .ok (.aload_n 0, 1) := by decide +kernel
theorem dX5_addOperation_8 : decode cX5_addOperation 8 = .ok (.iload_n 2, 1) := by decide +kernel
theorem dX5_addOperation_9 : decode cX5_addOperation 9 = .ok (.invokevirtual 40, 3) := by decide +kernel
theorem dX5_addOperation_12 : decode cX5_addOperation 12 = .ok (.astore 7, 2) := by decide +kernel
theorem dX5_addOperation_14 : decode cX5_addOperation 14 = .ok (.iload_n 3, 1) := by decide +kernel
theorem dX5_addOperation_15 : decode cX5_addOperation 15 = .ok (.iconst 1, 1) := by decide +kernel
theorem dX5_addOperation_16 : decode cX5_addOperation 16 = .ok (.if_icmp .lt 10, 3) := by decide +kernel
theorem dX5_addOperation_19 : decode cX5_addOperation 19 = .ok (.iload_n 3, 1) := by decide +kernel
theorem dX5_addOperation_20 : decode cX5_addOperation 20 = .ok (.sipush 200, 3) := by decide +kernel
theorem dX5_addOperation_23 : decode cX5_addOperation 23 = .ok (.if_icmp .le 13, 3) := by decide +kernel
theorem dX5_addOperation_26 : decode cX5_addOperation 26 = .ok (.new 44, 3) := by decide +kernel
theorem dX5_addOperation_29 : decode cX5_addOperation 29 = .ok (.dup, 1) := by decide +kernel
theorem dX5_addOperation_30 : decode cX5_addOperation 30 = .ok (.ldc 95, 2) := by decide +kernel
theorem dX5_addOperation_32 : decode cX5_addOperation 32 = .ok (.invokespecial 48, 3) := by decide +kernel
theorem dX5_addOperation_35 : decode cX5_addOperation 35 = .ok (.athrow, 1) := by decide +kernel
theorem dX5_addOperation_36 : decode cX5_addOperation 36 = .ok (.iload 4, 2) := by decide +kernel
theorem dX5_addOperation_38 : decode cX5_addOperation 38 = .ok (.ifCond .lt 9, 3) := by decide +kernel
theorem dX5_addOperation_41 : decode cX5_addOperation 41 = .ok (.iload 4, 2) := by decide +kernel
theorem dX5_addOperation_43 : decode cX5_addOperation 43 = .ok (.iconst 4, 1) := by decide +kernel
theorem dX5_addOperation_44 : decode cX5_addOperation 44 = .ok (.if_icmp .lt 13, 3) := by decide +kernel
theorem dX5_addOperation_47 : decode cX5_addOperation 47 = .ok (.new 44, 3) := by decide +kernel
theorem dX5_addOperation_50 : decode cX5_addOperation 50 = .ok (.dup, 1) := by decide +kernel
theorem dX5_addOperation_51 : decode cX5_addOperation 51 = .ok (.ldc 97, 2) := by decide +kernel
theorem dX5_addOperation_53 : decode cX5_addOperation 53 = .ok (.invokespecial 48, 3) := by decide +kernel
theorem dX5_addOperation_56 : decode cX5_addOperation 56 = .ok (.athrow, 1) := by decide +kernel
theorem dX5_addOperation_57 : decode cX5_addOperation 57 = .ok (.iload 5, 2) := by decide +kernel
theorem dX5_addOperation_59 : decode cX5_addOperation 59 = .ok (.ifCond .lt 11, 3) := by decide +kernel
theorem dX5_addOperation_62 : decode cX5_addOperation 62 = .ok (.iload 5, 2) := by decide +kernel
theorem dX5_addOperation_64 : decode cX5_addOperation 64 = .ok (.sipush 255, 3) := by decide +kernel
theorem dX5_addOperation_67 : decode cX5_addOperation 67 = .ok (.if_icmp .le 13, 3) := by decide +kernel
theorem dX5_addOperation_70 : decode cX5_addOperation 70 = .ok (.new 44, 3) := by decide +kernel
theorem dX5_addOperation_73 : decode cX5_addOperation 73 = .ok (.dup, 1) := by decide +kernel
theorem dX5_addOperation_74 : decode cX5_addOperation 74 = .ok (.ldc 99, 2) := by decide +kernel
theorem dX5_addOperation_76 : decode cX5_addOperation 76 = .ok (.invokespecial 48, 3) := by decide +kernel
theorem dX5_addOperation_79 : decode cX5_addOperation 79 = .ok (.athrow, 1) := by decide +kernel
theorem dX5_addOperation_80 : decode cX5_addOperation 80 = .ok (.aload 6, 2) := by decide +kernel
theorem dX5_addOperation_82 : decode cX5_addOperation 82 = .ok (.getfield 101, 3) := by decide +kernel
theorem dX5_addOperation_85 : decode cX5_addOperation 85 = .ok (.invokevirtual 20, 3) := by decide +kernel
theorem dX5_addOperation_88 : decode cX5_addOperation 88 = .ok (.iconst 4, 1) := by decide +kernel
theorem dX5_addOperation_89 : decode cX5_addOperation 89 = .ok (.if_icmp .lt 13, 3) := by decide +kernel
theorem dX5_addOperation_92 : decode cX5_addOperation 92 = .ok (.new 26, 3) := by decide +kernel
theorem dX5_addOperation_95 : decode cX5_addOperation 95 = .ok (.dup, 1) := by decide +kernel
theorem dX5_addOperation_96 : decode cX5_addOperation 96 = .ok (.ldc 104, 2) := by decide +kernel
theorem dX5_addOperation_98 : decode cX5_addOperation 98 = .ok (.invokespecial 30, 3) := by decide +kernel
theorem dX5_addOperation_101 : decode cX5_addOperation 101 = .ok (.athrow, 1) := by decide +kernel
theorem dX5_addOperation_102 : decode cX5_addOperation 102 = .ok (.aload 6, 2) := by decide +kernel
theorem dX5_addOperation_104 : decode cX5_addOperation 104 = .ok (.getfield 106, 3) := by decide +kernel
theorem dX5_addOperation_107 : decode cX5_addOperation 107 = .ok (.ifCond .eq 13, 3) := by decide +kernel
theorem dX5_addOperation_110 : decode cX5_addOperation 110 = .ok (.new 26, 3) := by decide +kernel
theorem dX5_addOperation_113 : decode cX5_addOperation 113 = .ok (.dup, 1) := by decide +kernel
theorem dX5_addOperation_114 : decode cX5_addOperation 114 = .ok (.ldc 109, 2) := by decide +kernel
theorem dX5_addOperation_116 : decode cX5_addOperation 116 = .ok (.invokespecial 30, 3) := by decide +kernel
theorem dX5_addOperation_119 : decode cX5_addOperation 119 = .ok (.athrow, 1) := by decide +kernel
theorem dX5_addOperation_120 : decode cX5_addOperation 120 = .ok (.iload 5, 2) := by decide +kernel
theorem dX5_addOperation_122 : decode cX5_addOperation 122 = .ok (.invokestatic 111, 3) := by decide +kernel
theorem dX5_addOperation_125 : decode cX5_addOperation 125 = .ok (.aload 7, 2) := by decide +kernel
theorem dX5_addOperation_127 : decode cX5_addOperation 127 = .ok (.getfield 55, 3) := by decide +kernel
theorem dX5_addOperation_130 : decode cX5_addOperation 130 = .ok (.if_icmp .le 13, 3) := by decide +kernel
theorem dX5_addOperation_133 : decode cX5_addOperation 133 = .ok (.new 26, 3) := by decide +kernel
theorem dX5_addOperation_136 : decode cX5_addOperation 136 = .ok (.dup, 1) := by decide +kernel
theorem dX5_addOperation_137 : decode cX5_addOperation 137 = .ok (.ldc 117, 2) := by decide +kernel
theorem dX5_addOperation_139 : decode cX5_addOperation 139 = .ok (.invokespecial 30, 3) := by decide +kernel
theorem dX5_addOperation_142 : decode cX5_addOperation 142 = .ok (.athrow, 1) := by decide +kernel
theorem dX5_addOperation_143 : decode cX5_addOperation 143 = .ok (.aload 6, 2) := by decide +kernel
theorem dX5_addOperation_145 : decode cX5_addOperation 145 = .ok (.aload 7, 2) := by decide +kernel
theorem dX5_addOperation_147 : decode cX5_addOperation 147 = .ok (.iload_n 3, 1) := by decide +kernel
theorem dX5_addOperation_148 : decode cX5_addOperation 148 = .ok (.iload 4, 2) := by decide +kernel
theorem dX5_addOperation_150 : decode cX5_addOperation 150 = .ok (.iload 5, 2) := by decide +kernel
theorem dX5_addOperation_152 : decode cX5_addOperation 152 = .ok (.invokevirtual 119, 3) := by decide +kernel
theorem dX5_addOperation_155 : decode cX5_addOperation 155 = .ok (.ireturn, 1) := by decide +kernel
theorem dX5_setSetup_0 : decode cX5_setSetup 0 = .ok (.iload_n 1, 1) := by decide +kernel
theorem dX5_setSetup_1 : decode cX5_setSetup 1 = .ok (.ifCond .lt 17, 3) := by decide +kernel
theorem dX5_setSetup_4 : decode cX5_setSetup 4 = .ok (.iload_n 1, 1) := by decide +kernel
theorem dX5_setSetup_5 : decode cX5_setSetup 5 = .ok (.iconst 4, 1) := by decide +kernel
theorem dX5_setSetup_6 : decode cX5_setSetup 6 = .ok (.if_icmp .ge 12, 3) := by decide +kernel
theorem dX5_setSetup_9 : decode cX5_setSetup 9 = .ok (.iload_n 2, 1) := by decide +kernel
theorem dX5_setSetup_10 : decode cX5_setSetup 10 = .ok (.ifCond .lt 8, 3) := by decide +kernel
theorem dX5_setSetup_13 : decode cX5_setSetup 13 = .ok (.iload_n 2, 1) := by decide +kernel
theorem dX5_setSetup_14 : decode cX5_setSetup 14 = .ok (.iconst 4, 1) := by decide +kernel
theorem dX5_setSetup_15 : decode cX5_setSetup 15 = .ok (.if_icmp .lt 13, 3) := by decide +kernel
theorem dX5_setSetup_18 : decode cX5_setSetup 18 = .ok (.new 123, 3) := by decide +kernel
theorem dX5_setSetup_21 : decode cX5_setSetup 21 = .ok (.dup, 1) := by decide +kernel
theorem dX5_setSetup_22 : decode cX5_setSetup 22 = .ok (.ldc 125, 2) := by decide +kernel
theorem dX5_setSetup_24 : decode cX5_setSetup 24 = .ok (.invokespecial 127, 3) := by decide +kernel
theorem dX5_setSetup_27 : decode cX5_setSetup 27 = .ok (.athrow, 1) := by decide +kernel
theorem dX5_setSetup_28 : decode cX5_setSetup 28 = .ok (.iload_n 3, 1) := by decide +kernel
theorem dX5_setSetup_29 : decode cX5_setSetup 29 = .ok (.ifCond .lt 9, 3) := by decide +kernel
theorem dX5_setSetup_32 : decode cX5_setSetup 32 = .ok (.iload_n 3, 1) := by decide +kernel
theorem dX5_setSetup_33 : decode cX5_setSetup 33 = .ok (.bipush 60, 2) := by decide +kernel
theorem dX5_setSetup_35 : decode cX5_setSetup 35 = .ok (.if_icmp .le 13, 3) := by decide +kernel
theorem dX5_setSetup_38 : decode cX5_setSetup 38 = .ok (.new 44, 3) := by decide +kernel
theorem dX5_setSetup_41 : decode cX5_setSetup 41 = .ok (.dup, 1) := by decide +kernel
theorem dX5_setSetup_42 : decode cX5_setSetup 42 = .ok (.ldc 128, 2) := by decide +kernel
theorem dX5_setSetup_44 : decode cX5_setSetup 44 = .ok (.invokespecial 48, 3) := by decide +kernel
theorem dX5_setSetup_47 : decode cX5_setSetup 47 = .ok (.athrow, 1) := by decide +kernel
theorem dX5_setSetup_48 : decode cX5_setSetup 48 = .ok (.aload_n 0, 1) := by decide +kernel
theorem dX5_setSetup_49 : decode cX5_setSetup 49 = .ok (.getfield 12, 3) := by decide +kernel
theorem dX5_setSetup_52 : decode cX5_setSetup 52 = .ok (.getfield 130, 3) := by decide +kernel
theorem dX5_setSetup_55 : decode cX5_setSetup 55 = .ok (.getfield 134, 3) := by decide +kernel
theorem dX5_setSetup_58 : decode cX5_setSetup 58 = .ok (.iload_n 1, 1) := by decide +kernel
theorem dX5_setSetup_59 : decode cX5_setSetup 59 = .ok (.aaload, 1) := by decide +kernel
theorem dX5_setSetup_60 : decode cX5_setSetup 60 = .ok (.iload_n 2, 1) := by decide +kernel
theorem dX5_setSetup_61 : decode cX5_setSetup 61 = .ok (.iaload, 1) := by decide +kernel
theorem dX5_setSetup_62 : decode cX5_setSetup 62 = .ok (.istore 4, 2) := by decide +kernel
theorem dX5_setSetup_64 : decode cX5_setSetup 64 = .ok (.aload_n 0, 1) := by decide +kernel
theorem dX5_setSetup_65 : decode cX5_setSetup 65 = .ok (.getfield 12, 3) := by decide +kernel
theorem dX5_setSetup_68 : decode cX5_setSetup 68 = .ok (.getfield 130, 3) := by decide +kernel
theorem dX5_setSetup_71 : decode cX5_setSetup 71 = .ok (.getfield 134, 3) := by decide +kernel
theorem dX5_setSetup_74 : decode cX5_setSetup 74 = .ok (.iload_n 1, 1) := by decide +kernel
theorem dX5_setSetup_75 : decode cX5_setSetup 75 = .ok (.aaload, 1) := by decide +kernel
theorem dX5_setSetup_76 : decode cX5_setSetup 76 = .ok (.iload_n 2, 1) := by decide +kernel
theorem dX5_setSetup_77 : decode cX5_setSetup 77 = .ok (.iload_n 3, 1) := by decide +kernel
theorem dX5_setSetup_78 : decode cX5_setSetup 78 = .ok (.iastore, 1) := by decide +kernel
theorem dX5_setSetup_79 : decode cX5_setSetup 79 = .ok (.aload_n 0, 1) := by decide +kernel
theorem dX5_setSetup_80 : decode cX5_setSetup 80 = .ok (.getfield 12, 3) := by decide +kernel
theorem dX5_setSetup_83 : decode cX5_setSetup 83 = .ok (.invokevirtual 72, 3) := by decide +kernel
theorem dX5_setSetup_86 : decode cX5_setSetup 86 = .ok (.pop, 1) := by decide +kernel
theorem dX5_setSetup_87 : decode cX5_setSetup 87 = .ok (.iload 4, 2) := by decide +kernel
theorem dX5_setSetup_89 : decode cX5_setSetup 89 = .ok (.ireturn, 1) := by decide +kernel
theorem dX5_place_0 : decode cX5_place 0 = .ok (.aload_n 0, 1) := by decide +kernel
theorem dX5_place_1 : decode cX5_place 1 = .ok (.iload_n 1, 1) := by decide +kernel
theorem dX5_place_2 : decode cX5_place 2 = .ok (.invokevirtual 140, 3) := by decide +kernel
theorem dX5_place_5 : decode cX5_place 5 = .ok (.astore_n 2, 1) := by decide +kernel
theorem dX5_place_6 : decode cX5_place 6 = .ok (.iconst 0, 1) := by decide +kernel
theorem dX5_place_7 : decode cX5_place 7 = .ok (.istore_n 3, 1) := by decide +kernel
theorem dX5_place_8 : decode cX5_place 8 = .ok (.iload_n 3, 1) := by decide +kernel
theorem dX5_place_9 : decode cX5_place 9 = .ok (.aload_n 2, 1) := by decide +kernel
theorem dX5_place_10 : decode cX5_place 10 = .ok (.getfield 101, 3) := by decide +kernel
theorem dX5_place_13 : decode cX5_place 13 = .ok (.invokevirtual 20, 3) := by decide +kernel
theorem dX5_place_16 : decode cX5_place 16 = .ok (.if_icmp .ge 43, 3) := by decide +kernel
theorem dX5_place_19 : decode cX5_place 19 = .ok (.aload_n 2, 1) := by decide +kernel
theorem dX5_place_20 : decode cX5_place 20 = .ok (.getfield 101, 3) := by decide +kernel
theorem dX5_place_23 : decode cX5_place 23 = .ok (.iload_n 3, 1) := by decide +kernel
theorem dX5_place_24 : decode cX5_place 24 = .ok (.invokevirtual 143, 3) := by decide +kernel
theorem dX5_place_27 : decode cX5_place 27 = .ok (.checkcast 147, 3) := by decide +kernel
theorem dX5_place_30 : decode cX5_place 30 = .ok (.astore 4, 2) := by decide +kernel
theorem dX5_place_32 : decode cX5_place 32 = .ok (.aload 4, 2) := by decide +kernel
theorem dX5_place_34 : decode cX5_place 34 = .ok (.getfield 149, 3) := by decide +kernel
theorem dX5_place_37 : decode cX5_place 37 = .ok (.aload 4, 2) := by decide +kernel
theorem dX5_place_39 : decode cX5_place 39 = .ok (.aload 4, 2) := by decide +kernel
theorem dX5_place_41 : decode cX5_place 41 = .ok (.getfield 149, 3) := by decide +kernel
theorem dX5_place_44 : decode cX5_place 44 = .ok (.getfield 153, 3) := by decide +kernel
theorem dX5_place_47 : decode cX5_place 47 = .ok (.invokevirtual 20, 3) := by decide +kernel
theorem dX5_place_50 : decode cX5_place 50 = .ok (.invokevirtual 156, 3) := by decide +kernel
theorem dX5_place_53 : decode cX5_place 53 = .ok (.iinc 3 1, 3) := by decide +kernel
theorem dX5_place_56 : decode cX5_place 56 = .ok (.goto (-48), 3) := by decide +kernel
theorem dX5_place_59 : decode cX5_place 59 = .ok (.aload_n 2, 1) := by decide +kernel
theorem dX5_place_60 : decode cX5_place 60 = .ok (.iconst 1, 1) := by decide +kernel
theorem dX5_place_61 : decode cX5_place 61 = .ok (.putfield 106, 3) := by decide +kernel
theorem dX5_place_64 : decode cX5_place 64 = .ok (.aload_n 0, 1) := by decide +kernel
theorem dX5_place_65 : decode cX5_place 65 = .ok (.getfield 12, 3) := by decide +kernel
theorem dX5_place_68 : decode cX5_place 68 = .ok (.invokevirtual 72, 3) := by decide +kernel
theorem dX5_place_71 : decode cX5_place 71 = .ok (.pop, 1) := by decide +kernel
theorem dX5_place_72 : decode cX5_place 72 = .ok (.aload_n 0, 1) := by decide +kernel
theorem dX5_place_73 : decode cX5_place 73 = .ok (.getfield 12, 3) := by decide +kernel
theorem dX5_place_76 : decode cX5_place 76 = .ok (.getfield 76, 3) := by decide +kernel
theorem dX5_place_79 : decode cX5_place 79 = .ok (.ireturn, 1) := by decide +kernel
theorem dX5_rush_0 : decode cX5_rush 0 = .ok (.aload_n 0, 1) := by decide +kernel
theorem dX5_rush_1 : decode cX5_rush 1 = .ok (.iload_n 1, 1) := by decide +kernel
theorem dX5_rush_2 : decode cX5_rush 2 = .ok (.invokevirtual 140, 3) := by decide +kernel
theorem dX5_rush_5 : decode cX5_rush 5 = .ok (.astore_n 2, 1) := by decide +kernel
theorem dX5_rush_6 : decode cX5_rush 6 = .ok (.iconst 0, 1) := by decide +kernel
theorem dX5_rush_7 : decode cX5_rush 7 = .ok (.istore_n 3, 1) := by decide +kernel
theorem dX5_rush_8 : decode cX5_rush 8 = .ok (.iload_n 3, 1) := by decide +kernel
theorem dX5_rush_9 : decode cX5_rush 9 = .ok (.aload_n 2, 1) := by decide +kernel
theorem dX5_rush_10 : decode cX5_rush 10 = .ok (.getfield 101, 3) := by decide +kernel
theorem dX5_rush_13 : decode cX5_rush 13 = .ok (.invokevirtual 20, 3) := by decide +kernel
theorem dX5_rush_16 : decode cX5_rush 16 = .ok (.if_icmp .ge 27, 3) := by decide +kernel
theorem dX5_rush_19 : decode cX5_rush 19 = .ok (.aload_n 0, 1) := by decide +kernel
theorem dX5_rush_20 : decode cX5_rush 20 = .ok (.getfield 12, 3) := by decide +kernel
theorem dX5_rush_23 : decode cX5_rush 23 = .ok (.aload_n 2, 1) := by decide +kernel
theorem dX5_rush_24 : decode cX5_rush 24 = .ok (.getfield 101, 3) := by decide +kernel
theorem dX5_rush_27 : decode cX5_rush 27 = .ok (.iload_n 3, 1) := by decide +kernel
theorem dX5_rush_28 : decode cX5_rush 28 = .ok (.invokevirtual 143, 3) := by decide +kernel
theorem dX5_rush_31 : decode cX5_rush 31 = .ok (.checkcast 147, 3) := by decide +kernel
theorem dX5_rush_34 : decode cX5_rush 34 = .ok (.invokevirtual 160, 3) := by decide +kernel
theorem dX5_rush_37 : decode cX5_rush 37 = .ok (.iinc 3 1, 3) := by decide +kernel
theorem dX5_rush_40 : decode cX5_rush 40 = .ok (.goto (-32), 3) := by decide +kernel
theorem dX5_rush_43 : decode cX5_rush 43 = .ok (.aload_n 2, 1) := by decide +kernel
theorem dX5_rush_44 : decode cX5_rush 44 = .ok (.iconst 1, 1) := by decide +kernel
theorem dX5_rush_45 : decode cX5_rush 45 = .ok (.putfield 106, 3) := by decide +kernel
theorem dX5_rush_48 : decode cX5_rush 48 = .ok (.aload_n 0, 1) := by decide +kernel
theorem dX5_rush_49 : decode cX5_rush 49 = .ok (.getfield 12, 3) := by decide +kernel
theorem dX5_rush_52 : decode cX5_rush 52 = .ok (.invokevirtual 72, 3) := by decide +kernel
theorem dX5_rush_55 : decode cX5_rush 55 = .ok (.pop, 1) := by decide +kernel
theorem dX5_rush_56 : decode cX5_rush 56 = .ok (.aload_n 0, 1) := by decide +kernel
theorem dX5_rush_57 : decode cX5_rush 57 = .ok (.getfield 12, 3) := by decide +kernel
theorem dX5_rush_60 : decode cX5_rush 60 = .ok (.getfield 76, 3) := by decide +kernel
theorem dX5_rush_63 : decode cX5_rush 63 = .ok (.ireturn, 1) := by decide +kernel
theorem dX5_remove_0 : decode cX5_remove 0 = .ok (.aload_n 0, 1) := by decide +kernel
theorem dX5_remove_1 : decode cX5_remove 1 = .ok (.iload_n 1, 1) := by decide +kernel
theorem dX5_remove_2 : decode cX5_remove 2 = .ok (.invokevirtual 164, 3) := by decide +kernel
theorem dX5_remove_5 : decode cX5_remove 5 = .ok (.astore_n 2, 1) := by decide +kernel
theorem dX5_remove_6 : decode cX5_remove 6 = .ok (.iconst 0, 1) := by decide +kernel
theorem dX5_remove_7 : decode cX5_remove 7 = .ok (.istore_n 3, 1) := by decide +kernel
theorem dX5_remove_8 : decode cX5_remove 8 = .ok (.iload_n 3, 1) := by decide +kernel
theorem dX5_remove_9 : decode cX5_remove 9 = .ok (.aload_n 0, 1) := by decide +kernel
theorem dX5_remove_10 : decode cX5_remove 10 = .ok (.getfield 12, 3) := by decide +kernel
theorem dX5_remove_13 : decode cX5_remove 13 = .ok (.getfield 16, 3) := by decide +kernel
theorem dX5_remove_16 : decode cX5_remove 16 = .ok (.invokevirtual 20, 3) := by decide +kernel
theorem dX5_remove_19 : decode cX5_remove 19 = .ok (.if_icmp .ge 27, 3) := by decide +kernel
theorem dX5_remove_22 : decode cX5_remove 22 = .ok (.aload_n 0, 1) := by decide +kernel
theorem dX5_remove_23 : decode cX5_remove 23 = .ok (.getfield 12, 3) := by decide +kernel
theorem dX5_remove_26 : decode cX5_remove 26 = .ok (.getfield 16, 3) := by decide +kernel
theorem dX5_remove_29 : decode cX5_remove 29 = .ok (.iload_n 3, 1) := by decide +kernel
theorem dX5_remove_30 : decode cX5_remove 30 = .ok (.invokevirtual 143, 3) := by decide +kernel
theorem dX5_remove_33 : decode cX5_remove 33 = .ok (.checkcast 33, 3) := by decide +kernel
theorem dX5_remove_36 : decode cX5_remove 36 = .ok (.aload_n 2, 1) := by decide +kernel
theorem dX5_remove_37 : decode cX5_remove 37 = .ok (.invokevirtual 167, 3) := by decide +kernel
theorem dX5_remove_40 : decode cX5_remove 40 = .ok (.iinc 3 1, 3) := by decide +kernel
theorem dX5_remove_43 : decode cX5_remove 43 = .ok (.goto (-35), 3) := by decide +kernel
theorem dX5_remove_46 : decode cX5_remove 46 = .ok (.aload_n 2, 1) := by decide +kernel
theorem dX5_remove_47 : decode cX5_remove 47 = .ok (.iconst 0, 1) := by decide +kernel
theorem dX5_remove_48 : decode cX5_remove 48 = .ok (.putfield 106, 3) := by decide +kernel
theorem dX5_remove_51 : decode cX5_remove 51 = .ok (.aload_n 0, 1) := by decide +kernel
theorem dX5_remove_52 : decode cX5_remove 52 = .ok (.getfield 12, 3) := by decide +kernel
theorem dX5_remove_55 : decode cX5_remove 55 = .ok (.invokevirtual 72, 3) := by decide +kernel
theorem dX5_remove_58 : decode cX5_remove 58 = .ok (.pop, 1) := by decide +kernel
theorem dX5_remove_59 : decode cX5_remove 59 = .ok (.aload_n 0, 1) := by decide +kernel
theorem dX5_remove_60 : decode cX5_remove 60 = .ok (.getfield 12, 3) := by decide +kernel
theorem dX5_remove_63 : decode cX5_remove 63 = .ok (.getfield 76, 3) := by decide +kernel
theorem dX5_remove_66 : decode cX5_remove 66 = .ok (.ireturn, 1) := by decide +kernel
theorem dX5_placed_0 : decode cX5_placed 0 = .ok (.aload_n 0, 1) := by decide +kernel
theorem dX5_placed_1 : decode cX5_placed 1 = .ok (.iload_n 1, 1) := by decide +kernel
theorem dX5_placed_2 : decode cX5_placed 2 = .ok (.invokevirtual 40, 3) := by decide +kernel
theorem dX5_placed_5 : decode cX5_placed 5 = .ok (.getfield 153, 3) := by decide +kernel
theorem dX5_placed_8 : decode cX5_placed 8 = .ok (.invokevirtual 20, 3) := by decide +kernel
theorem dX5_placed_11 : decode cX5_placed 11 = .ok (.ireturn, 1) := by decide +kernel
theorem dX5_placedAt_0 : decode cX5_placedAt 0 = .ok (.aload_n 0, 1) := by decide +kernel
theorem dX5_placedAt_1 : decode cX5_placedAt 1 = .ok (.iload_n 1, 1) := by decide +kernel
theorem dX5_placedAt_2 : decode cX5_placedAt 2 = .ok (.invokevirtual 40, 3) := by decide +kernel
theorem dX5_placedAt_5 : decode cX5_placedAt 5 = .ok (.astore_n 3, 1) := by decide +kernel
theorem dX5_placedAt_6 : decode cX5_placedAt 6 = .ok (.iload_n 2, 1) := by decide +kernel
theorem dX5_placedAt_7 : decode cX5_placedAt 7 = .ok (.ifCond .lt 14, 3) := by decide +kernel
theorem dX5_placedAt_10 : decode cX5_placedAt 10 = .ok (.iload_n 2, 1) := by decide +kernel
theorem dX5_placedAt_11 : decode cX5_placedAt 11 = .ok (.aload_n 3, 1) := by decide +kernel
theorem dX5_placedAt_12 : decode cX5_placedAt 12 = .ok (.getfield 153, 3) := by decide +kernel
theorem dX5_placedAt_15 : decode cX5_placedAt 15 = .ok (.invokevirtual 20, 3) := by decide +kernel
theorem dX5_placedAt_18 : decode cX5_placedAt 18 = .ok (.if_icmp .lt 13, 3) := by decide +kernel
theorem dX5_placedAt_21 : decode cX5_placedAt 21 = .ok (.new 123, 3) := by decide +kernel
theorem dX5_placedAt_24 : decode cX5_placedAt 24 = .ok (.dup, 1) := by decide +kernel
theorem dX5_placedAt_25 : decode cX5_placedAt 25 = .ok (.ldc 179, 2) := by decide +kernel
theorem dX5_placedAt_27 : decode cX5_placedAt 27 = .ok (.invokespecial 127, 3) := by decide +kernel
theorem dX5_placedAt_30 : decode cX5_placedAt 30 = .ok (.athrow, 1) := by decide +kernel
theorem dX5_placedAt_31 : decode cX5_placedAt 31 = .ok (.aload_n 3, 1) := by decide +kernel
theorem dX5_placedAt_32 : decode cX5_placedAt 32 = .ok (.getfield 153, 3) := by decide +kernel
theorem dX5_placedAt_35 : decode cX5_placedAt 35 = .ok (.iload_n 2, 1) := by decide +kernel
theorem dX5_placedAt_36 : decode cX5_placedAt 36 = .ok (.invokevirtual 143, 3) := by decide +kernel
theorem dX5_placedAt_39 : decode cX5_placedAt 39 = .ok (.checkcast 147, 3) := by decide +kernel
theorem dX5_placedAt_42 : decode cX5_placedAt 42 = .ok (.invokevirtual 181, 3) := by decide +kernel
theorem dX5_placedAt_45 : decode cX5_placedAt 45 = .ok (.ireturn, 1) := by decide +kernel
theorem dX5_startOf_0 : decode cX5_startOf 0 = .ok (.aload_n 0, 1) := by decide +kernel
theorem dX5_startOf_1 : decode cX5_startOf 1 = .ok (.iload_n 1, 1) := by decide +kernel
theorem dX5_startOf_2 : decode cX5_startOf 2 = .ok (.iload_n 2, 1) := by decide +kernel
theorem dX5_startOf_3 : decode cX5_startOf 3 = .ok (.invokevirtual 184, 3) := by decide +kernel
theorem dX5_startOf_6 : decode cX5_startOf 6 = .ok (.getfield 188, 3) := by decide +kernel
theorem dX5_startOf_9 : decode cX5_startOf 9 = .ok (.ireturn, 1) := by decide +kernel
theorem dX5_startByRounds_0 : decode cX5_startByRounds 0 = .ok (.aload_n 0, 1) := by decide +kernel
theorem dX5_startByRounds_1 : decode cX5_startByRounds 1 = .ok (.iload_n 1, 1) := by decide +kernel
theorem dX5_startByRounds_2 : decode cX5_startByRounds 2 = .ok (.iload_n 2, 1) := by decide +kernel
theorem dX5_startByRounds_3 : decode cX5_startByRounds 3 = .ok (.invokevirtual 184, 3) := by decide +kernel
theorem dX5_startByRounds_6 : decode cX5_startByRounds 6 = .ok (.astore_n 3, 1) := by decide +kernel
theorem dX5_startByRounds_7 : decode cX5_startByRounds 7 = .ok (.aload_n 0, 1) := by decide +kernel
theorem dX5_startByRounds_8 : decode cX5_startByRounds 8 = .ok (.getfield 12, 3) := by decide +kernel
theorem dX5_startByRounds_11 : decode cX5_startByRounds 11 = .ok (.invokevirtual 191, 3) := by decide +kernel
theorem dX5_startByRounds_14 : decode cX5_startByRounds 14 = .ok (.aload_n 3, 1) := by decide +kernel
theorem dX5_startByRounds_15 : decode cX5_startByRounds 15 = .ok (.getfield 194, 3) := by decide +kernel
theorem dX5_startByRounds_18 : decode cX5_startByRounds 18 = .ok (.ireturn, 1) := by decide +kernel
theorem dX5_lateness_0 : decode cX5_lateness 0 = .ok (.aload_n 0, 1) := by decide +kernel
theorem dX5_lateness_1 : decode cX5_lateness 1 = .ok (.iload_n 1, 1) := by decide +kernel
theorem dX5_lateness_2 : decode cX5_lateness 2 = .ok (.invokevirtual 164, 3) := by decide +kernel
theorem dX5_lateness_5 : decode cX5_lateness 5 = .ok (.astore_n 2, 1) := by decide +kernel
theorem dX5_lateness_6 : decode cX5_lateness 6 = .ok (.iconst 0, 1) := by decide +kernel
theorem dX5_lateness_7 : decode cX5_lateness 7 = .ok (.istore_n 3, 1) := by decide +kernel
theorem dX5_lateness_8 : decode cX5_lateness 8 = .ok (.iconst 0, 1) := by decide +kernel
theorem dX5_lateness_9 : decode cX5_lateness 9 = .ok (.istore 4, 2) := by decide +kernel
theorem dX5_lateness_11 : decode cX5_lateness 11 = .ok (.iload 4, 2) := by decide +kernel
theorem dX5_lateness_13 : decode cX5_lateness 13 = .ok (.aload_n 2, 1) := by decide +kernel
theorem dX5_lateness_14 : decode cX5_lateness 14 = .ok (.getfield 101, 3) := by decide +kernel
theorem dX5_lateness_17 : decode cX5_lateness 17 = .ok (.invokevirtual 20, 3) := by decide +kernel
theorem dX5_lateness_20 : decode cX5_lateness 20 = .ok (.if_icmp .ge 34, 3) := by decide +kernel
theorem dX5_lateness_23 : decode cX5_lateness 23 = .ok (.iload_n 3, 1) := by decide +kernel
theorem dX5_lateness_24 : decode cX5_lateness 24 = .ok (.aload_n 2, 1) := by decide +kernel
theorem dX5_lateness_25 : decode cX5_lateness 25 = .ok (.getfield 101, 3) := by decide +kernel
theorem dX5_lateness_28 : decode cX5_lateness 28 = .ok (.iload 4, 2) := by decide +kernel
theorem dX5_lateness_30 : decode cX5_lateness 30 = .ok (.invokevirtual 143, 3) := by decide +kernel
theorem dX5_lateness_33 : decode cX5_lateness 33 = .ok (.checkcast 147, 3) := by decide +kernel
theorem dX5_lateness_36 : decode cX5_lateness 36 = .ok (.getfield 197, 3) := by decide +kernel
theorem dX5_lateness_39 : decode cX5_lateness 39 = .ok (.aload_n 2, 1) := by decide +kernel
theorem dX5_lateness_40 : decode cX5_lateness 40 = .ok (.getfield 200, 3) := by decide +kernel
theorem dX5_lateness_43 : decode cX5_lateness 43 = .ok (.isub, 1) := by decide +kernel
theorem dX5_lateness_44 : decode cX5_lateness 44 = .ok (.invokestatic 203, 3) := by decide +kernel
theorem dX5_lateness_47 : decode cX5_lateness 47 = .ok (.istore_n 3, 1) := by decide +kernel
theorem dX5_lateness_48 : decode cX5_lateness 48 = .ok (.iinc 4 1, 3) := by decide +kernel
theorem dX5_lateness_51 : decode cX5_lateness 51 = .ok (.goto (-40), 3) := by decide +kernel
theorem dX5_lateness_54 : decode cX5_lateness 54 = .ok (.iload_n 3, 1) := by decide +kernel
theorem dX5_lateness_55 : decode cX5_lateness 55 = .ok (.ireturn, 1) := by decide +kernel
theorem dX5_span_0 : decode cX5_span 0 = .ok (.aload_n 0, 1) := by decide +kernel
theorem dX5_span_1 : decode cX5_span 1 = .ok (.getfield 12, 3) := by decide +kernel
theorem dX5_span_4 : decode cX5_span 4 = .ok (.getfield 76, 3) := by decide +kernel
theorem dX5_span_7 : decode cX5_span 7 = .ok (.ireturn, 1) := by decide +kernel
theorem dX5_slack_0 : decode cX5_slack 0 = .ok (.aload_n 0, 1) := by decide +kernel
theorem dX5_slack_1 : decode cX5_slack 1 = .ok (.iload_n 1, 1) := by decide +kernel
theorem dX5_slack_2 : decode cX5_slack 2 = .ok (.iload_n 2, 1) := by decide +kernel
theorem dX5_slack_3 : decode cX5_slack 3 = .ok (.invokevirtual 184, 3) := by decide +kernel
theorem dX5_slack_6 : decode cX5_slack 6 = .ok (.astore_n 3, 1) := by decide +kernel
theorem dX5_slack_7 : decode cX5_slack 7 = .ok (.aload_n 0, 1) := by decide +kernel
theorem dX5_slack_8 : decode cX5_slack 8 = .ok (.getfield 12, 3) := by decide +kernel
theorem dX5_slack_11 : decode cX5_slack 11 = .ok (.invokevirtual 209, 3) := by decide +kernel
theorem dX5_slack_14 : decode cX5_slack 14 = .ok (.aload_n 3, 1) := by decide +kernel
theorem dX5_slack_15 : decode cX5_slack 15 = .ok (.getfield 212, 3) := by decide +kernel
theorem dX5_slack_18 : decode cX5_slack 18 = .ok (.aload_n 3, 1) := by decide +kernel
theorem dX5_slack_19 : decode cX5_slack 19 = .ok (.getfield 188, 3) := by decide +kernel
theorem dX5_slack_22 : decode cX5_slack 22 = .ok (.isub, 1) := by decide +kernel
theorem dX5_slack_23 : decode cX5_slack 23 = .ok (.ireturn, 1) := by decide +kernel
theorem dX5_criticals_0 : decode cX5_criticals 0 = .ok (.aload_n 0, 1) := by decide +kernel
theorem dX5_criticals_1 : decode cX5_criticals 1 = .ok (.getfield 12, 3) := by decide +kernel
theorem dX5_criticals_4 : decode cX5_criticals 4 = .ok (.invokevirtual 215, 3) := by decide +kernel
theorem dX5_criticals_7 : decode cX5_criticals 7 = .ok (.aload_n 0, 1) := by decide +kernel
theorem dX5_criticals_8 : decode cX5_criticals 8 = .ok (.getfield 12, 3) := by decide +kernel
theorem dX5_criticals_11 : decode cX5_criticals 11 = .ok (.getfield 218, 3) := by decide +kernel
theorem dX5_criticals_14 : decode cX5_criticals 14 = .ok (.invokevirtual 20, 3) := by decide +kernel
theorem dX5_criticals_17 : decode cX5_criticals 17 = .ok (.ireturn, 1) := by decide +kernel
theorem dX5_criticalAt_0 : decode cX5_criticalAt 0 = .ok (.aload_n 0, 1) := by decide +kernel
theorem dX5_criticalAt_1 : decode cX5_criticalAt 1 = .ok (.getfield 12, 3) := by decide +kernel
theorem dX5_criticalAt_4 : decode cX5_criticalAt 4 = .ok (.invokevirtual 215, 3) := by decide +kernel
theorem dX5_criticalAt_7 : decode cX5_criticalAt 7 = .ok (.iload_n 1, 1) := by decide +kernel
theorem dX5_criticalAt_8 : decode cX5_criticalAt 8 = .ok (.ifCond .lt 17, 3) := by decide +kernel
theorem dX5_criticalAt_11 : decode cX5_criticalAt 11 = .ok (.iload_n 1, 1) := by decide +kernel
theorem dX5_criticalAt_12 : decode cX5_criticalAt 12 = .ok (.aload_n 0, 1) := by decide +kernel
theorem dX5_criticalAt_13 : decode cX5_criticalAt 13 = .ok (.getfield 12, 3) := by decide +kernel
theorem dX5_criticalAt_16 : decode cX5_criticalAt 16 = .ok (.getfield 218, 3) := by decide +kernel
theorem dX5_criticalAt_19 : decode cX5_criticalAt 19 = .ok (.invokevirtual 20, 3) := by decide +kernel
theorem dX5_criticalAt_22 : decode cX5_criticalAt 22 = .ok (.if_icmp .lt 13, 3) := by decide +kernel
theorem dX5_criticalAt_25 : decode cX5_criticalAt 25 = .ok (.new 123, 3) := by decide +kernel
theorem dX5_criticalAt_28 : decode cX5_criticalAt 28 = .ok (.dup, 1) := by decide +kernel
theorem dX5_criticalAt_29 : decode cX5_criticalAt 29 = .ok (.ldc 179, 2) := by decide +kernel
theorem dX5_criticalAt_31 : decode cX5_criticalAt 31 = .ok (.invokespecial 127, 3) := by decide +kernel
theorem dX5_criticalAt_34 : decode cX5_criticalAt 34 = .ok (.athrow, 1) := by decide +kernel
theorem dX5_criticalAt_35 : decode cX5_criticalAt 35 = .ok (.aload_n 0, 1) := by decide +kernel
theorem dX5_criticalAt_36 : decode cX5_criticalAt 36 = .ok (.getfield 12, 3) := by decide +kernel
theorem dX5_criticalAt_39 : decode cX5_criticalAt 39 = .ok (.getfield 218, 3) := by decide +kernel
theorem dX5_criticalAt_42 : decode cX5_criticalAt 42 = .ok (.aload_n 0, 1) := by decide +kernel
theorem dX5_criticalAt_43 : decode cX5_criticalAt 43 = .ok (.getfield 12, 3) := by decide +kernel
theorem dX5_criticalAt_46 : decode cX5_criticalAt 46 = .ok (.getfield 218, 3) := by decide +kernel
theorem dX5_criticalAt_49 : decode cX5_criticalAt 49 = .ok (.invokevirtual 20, 3) := by decide +kernel
theorem dX5_criticalAt_52 : decode cX5_criticalAt 52 = .ok (.iconst 1, 1) := by decide +kernel
theorem dX5_criticalAt_53 : decode cX5_criticalAt 53 = .ok (.isub, 1) := by decide +kernel
theorem dX5_criticalAt_54 : decode cX5_criticalAt 54 = .ok (.iload_n 1, 1) := by decide +kernel
theorem dX5_criticalAt_55 : decode cX5_criticalAt 55 = .ok (.isub, 1) := by decide +kernel
theorem dX5_criticalAt_56 : decode cX5_criticalAt 56 = .ok (.invokevirtual 143, 3) := by decide +kernel
theorem dX5_criticalAt_59 : decode cX5_criticalAt 59 = .ok (.checkcast 147, 3) := by decide +kernel
theorem dX5_criticalAt_62 : decode cX5_criticalAt 62 = .ok (.invokevirtual 181, 3) := by decide +kernel
theorem dX5_criticalAt_65 : decode cX5_criticalAt 65 = .ok (.ireturn, 1) := by decide +kernel
theorem dX5_setups_0 : decode cX5_setups 0 = .ok (.aload_n 0, 1) := by decide +kernel
theorem dX5_setups_1 : decode cX5_setups 1 = .ok (.getfield 12, 3) := by decide +kernel
theorem dX5_setups_4 : decode cX5_setups 4 = .ok (.getfield 130, 3) := by decide +kernel
theorem dX5_setups_7 : decode cX5_setups 7 = .ok (.aload_n 0, 1) := by decide +kernel
theorem dX5_setups_8 : decode cX5_setups 8 = .ok (.iload_n 1, 1) := by decide +kernel
theorem dX5_setups_9 : decode cX5_setups 9 = .ok (.invokevirtual 40, 3) := by decide +kernel
theorem dX5_setups_12 : decode cX5_setups 12 = .ok (.invokevirtual 221, 3) := by decide +kernel
theorem dX5_setups_15 : decode cX5_setups 15 = .ok (.ireturn, 1) := by decide +kernel
theorem dX5_loads_0 : decode cX5_loads 0 = .ok (.aload_n 0, 1) := by decide +kernel
theorem dX5_loads_1 : decode cX5_loads 1 = .ok (.iload_n 1, 1) := by decide +kernel
theorem dX5_loads_2 : decode cX5_loads 2 = .ok (.invokevirtual 40, 3) := by decide +kernel
theorem dX5_loads_5 : decode cX5_loads 5 = .ok (.invokevirtual 225, 3) := by decide +kernel
theorem dX5_loads_8 : decode cX5_loads 8 = .ok (.ireturn, 1) := by decide +kernel
theorem dX5_knownMachine_0 : decode cX5_knownMachine 0 = .ok (.iload_n 1, 1) := by decide +kernel
theorem dX5_knownMachine_1 : decode cX5_knownMachine 1 = .ok (.ifCond .lt 17, 3) := by decide +kernel
theorem dX5_knownMachine_4 : decode cX5_knownMachine 4 = .ok (.iload_n 1, 1) := by decide +kernel
theorem dX5_knownMachine_5 : decode cX5_knownMachine 5 = .ok (.aload_n 0, 1) := by decide +kernel
theorem dX5_knownMachine_6 : decode cX5_knownMachine 6 = .ok (.getfield 12, 3) := by decide +kernel
theorem dX5_knownMachine_9 : decode cX5_knownMachine 9 = .ok (.getfield 16, 3) := by decide +kernel
theorem dX5_knownMachine_12 : decode cX5_knownMachine 12 = .ok (.invokevirtual 20, 3) := by decide +kernel
theorem dX5_knownMachine_15 : decode cX5_knownMachine 15 = .ok (.if_icmp .lt 13, 3) := by decide +kernel
theorem dX5_knownMachine_18 : decode cX5_knownMachine 18 = .ok (.new 123, 3) := by decide +kernel
theorem dX5_knownMachine_21 : decode cX5_knownMachine 21 = .ok (.dup, 1) := by decide +kernel
theorem dX5_knownMachine_22 : decode cX5_knownMachine 22 = .ok (.ldc 228, 2) := by decide +kernel
theorem dX5_knownMachine_24 : decode cX5_knownMachine 24 = .ok (.invokespecial 127, 3) := by decide +kernel
theorem dX5_knownMachine_27 : decode cX5_knownMachine 27 = .ok (.athrow, 1) := by decide +kernel
theorem dX5_knownMachine_28 : decode cX5_knownMachine 28 = .ok (.aload_n 0, 1) := by decide +kernel
theorem dX5_knownMachine_29 : decode cX5_knownMachine 29 = .ok (.getfield 12, 3) := by decide +kernel
theorem dX5_knownMachine_32 : decode cX5_knownMachine 32 = .ok (.getfield 16, 3) := by decide +kernel
theorem dX5_knownMachine_35 : decode cX5_knownMachine 35 = .ok (.iload_n 1, 1) := by decide +kernel
theorem dX5_knownMachine_36 : decode cX5_knownMachine 36 = .ok (.invokevirtual 143, 3) := by decide +kernel
theorem dX5_knownMachine_39 : decode cX5_knownMachine 39 = .ok (.checkcast 33, 3) := by decide +kernel
theorem dX5_knownMachine_42 : decode cX5_knownMachine 42 = .ok (.areturn, 1) := by decide +kernel
theorem dX5_knownJob_0 : decode cX5_knownJob 0 = .ok (.iload_n 1, 1) := by decide +kernel
theorem dX5_knownJob_1 : decode cX5_knownJob 1 = .ok (.ifCond .lt 17, 3) := by decide +kernel
theorem dX5_knownJob_4 : decode cX5_knownJob 4 = .ok (.iload_n 1, 1) := by decide +kernel
theorem dX5_knownJob_5 : decode cX5_knownJob 5 = .ok (.aload_n 0, 1) := by decide +kernel
theorem dX5_knownJob_6 : decode cX5_knownJob 6 = .ok (.getfield 12, 3) := by decide +kernel
theorem dX5_knownJob_9 : decode cX5_knownJob 9 = .ok (.getfield 81, 3) := by decide +kernel
theorem dX5_knownJob_12 : decode cX5_knownJob 12 = .ok (.invokevirtual 20, 3) := by decide +kernel
theorem dX5_knownJob_15 : decode cX5_knownJob 15 = .ok (.if_icmp .lt 13, 3) := by decide +kernel
theorem dX5_knownJob_18 : decode cX5_knownJob 18 = .ok (.new 123, 3) := by decide +kernel
theorem dX5_knownJob_21 : decode cX5_knownJob 21 = .ok (.dup, 1) := by decide +kernel
theorem dX5_knownJob_22 : decode cX5_knownJob 22 = .ok (.ldc 230, 2) := by decide +kernel
theorem dX5_knownJob_24 : decode cX5_knownJob 24 = .ok (.invokespecial 127, 3) := by decide +kernel
theorem dX5_knownJob_27 : decode cX5_knownJob 27 = .ok (.athrow, 1) := by decide +kernel
theorem dX5_knownJob_28 : decode cX5_knownJob 28 = .ok (.aload_n 0, 1) := by decide +kernel
theorem dX5_knownJob_29 : decode cX5_knownJob 29 = .ok (.getfield 12, 3) := by decide +kernel
theorem dX5_knownJob_32 : decode cX5_knownJob 32 = .ok (.getfield 81, 3) := by decide +kernel
theorem dX5_knownJob_35 : decode cX5_knownJob 35 = .ok (.iload_n 1, 1) := by decide +kernel
theorem dX5_knownJob_36 : decode cX5_knownJob 36 = .ok (.invokevirtual 143, 3) := by decide +kernel
theorem dX5_knownJob_39 : decode cX5_knownJob 39 = .ok (.checkcast 86, 3) := by decide +kernel
theorem dX5_knownJob_42 : decode cX5_knownJob 42 = .ok (.areturn, 1) := by decide +kernel
theorem dX5_placedJob_0 : decode cX5_placedJob 0 = .ok (.aload_n 0, 1) := by decide +kernel
theorem dX5_placedJob_1 : decode cX5_placedJob 1 = .ok (.iload_n 1, 1) := by decide +kernel
theorem dX5_placedJob_2 : decode cX5_placedJob 2 = .ok (.invokevirtual 91, 3) := by decide +kernel
theorem dX5_placedJob_5 : decode cX5_placedJob 5 = .ok (.astore_n 2, 1) := by decide +kernel
theorem dX5_placedJob_6 : decode cX5_placedJob 6 = .ok (.aload_n 2, 1) := by decide +kernel
theorem dX5_placedJob_7 : decode cX5_placedJob 7 = .ok (.getfield 106, 3) := by decide +kernel
theorem dX5_placedJob_10 : decode cX5_placedJob 10 = .ok (.ifCond .ne 13, 3) := by decide +kernel
theorem dX5_placedJob_13 : decode cX5_placedJob 13 = .ok (.new 26, 3) := by decide +kernel
theorem dX5_placedJob_16 : decode cX5_placedJob 16 = .ok (.dup, 1) := by decide +kernel
theorem dX5_placedJob_17 : decode cX5_placedJob 17 = .ok (.ldc 232, 2) := by decide +kernel
theorem dX5_placedJob_19 : decode cX5_placedJob 19 = .ok (.invokespecial 30, 3) := by decide +kernel
theorem dX5_placedJob_22 : decode cX5_placedJob 22 = .ok (.athrow, 1) := by decide +kernel
theorem dX5_placedJob_23 : decode cX5_placedJob 23 = .ok (.aload_n 2, 1) := by decide +kernel
theorem dX5_placedJob_24 : decode cX5_placedJob 24 = .ok (.areturn, 1) := by decide +kernel
theorem dX5_waitingJob_0 : decode cX5_waitingJob 0 = .ok (.aload_n 0, 1) := by decide +kernel
theorem dX5_waitingJob_1 : decode cX5_waitingJob 1 = .ok (.iload_n 1, 1) := by decide +kernel
theorem dX5_waitingJob_2 : decode cX5_waitingJob 2 = .ok (.invokevirtual 91, 3) := by decide +kernel
theorem dX5_waitingJob_5 : decode cX5_waitingJob 5 = .ok (.astore_n 2, 1) := by decide +kernel
theorem dX5_waitingJob_6 : decode cX5_waitingJob 6 = .ok (.aload_n 2, 1) := by decide +kernel
theorem dX5_waitingJob_7 : decode cX5_waitingJob 7 = .ok (.getfield 106, 3) := by decide +kernel
theorem dX5_waitingJob_10 : decode cX5_waitingJob 10 = .ok (.ifCond .eq 13, 3) := by decide +kernel
theorem dX5_waitingJob_13 : decode cX5_waitingJob 13 = .ok (.new 26, 3) := by decide +kernel
theorem dX5_waitingJob_16 : decode cX5_waitingJob 16 = .ok (.dup, 1) := by decide +kernel
theorem dX5_waitingJob_17 : decode cX5_waitingJob 17 = .ok (.ldc 109, 2) := by decide +kernel
theorem dX5_waitingJob_19 : decode cX5_waitingJob 19 = .ok (.invokespecial 30, 3) := by decide +kernel
theorem dX5_waitingJob_22 : decode cX5_waitingJob 22 = .ok (.athrow, 1) := by decide +kernel
theorem dX5_waitingJob_23 : decode cX5_waitingJob 23 = .ok (.aload_n 2, 1) := by decide +kernel
theorem dX5_waitingJob_24 : decode cX5_waitingJob 24 = .ok (.getfield 101, 3) := by decide +kernel
theorem dX5_waitingJob_27 : decode cX5_waitingJob 27 = .ok (.invokevirtual 234, 3) := by decide +kernel
theorem dX5_waitingJob_30 : decode cX5_waitingJob 30 = .ok (.ifCond .eq 13, 3) := by decide +kernel
theorem dX5_waitingJob_33 : decode cX5_waitingJob 33 = .ok (.new 26, 3) := by decide +kernel
theorem dX5_waitingJob_36 : decode cX5_waitingJob 36 = .ok (.dup, 1) := by decide +kernel
theorem dX5_waitingJob_37 : decode cX5_waitingJob 37 = .ok (.ldc 237, 2) := by decide +kernel
theorem dX5_waitingJob_39 : decode cX5_waitingJob 39 = .ok (.invokespecial 30, 3) := by decide +kernel
theorem dX5_waitingJob_42 : decode cX5_waitingJob 42 = .ok (.athrow, 1) := by decide +kernel
theorem dX5_waitingJob_43 : decode cX5_waitingJob 43 = .ok (.aload_n 2, 1) := by decide +kernel
theorem dX5_waitingJob_44 : decode cX5_waitingJob 44 = .ok (.areturn, 1) := by decide +kernel
theorem dX5_placedOperation_0 : decode cX5_placedOperation 0 = .ok (.aload_n 0, 1) := by decide +kernel
theorem dX5_placedOperation_1 : decode cX5_placedOperation 1 = .ok (.iload_n 1, 1) := by decide +kernel
theorem dX5_placedOperation_2 : decode cX5_placedOperation 2 = .ok (.invokevirtual 91, 3) := by decide +kernel
theorem dX5_placedOperation_5 : decode cX5_placedOperation 5 = .ok (.astore_n 3, 1) := by decide +kernel
theorem dX5_placedOperation_6 : decode cX5_placedOperation 6 = .ok (.iload_n 2, 1) := by decide +kernel
theorem dX5_placedOperation_7 : decode cX5_placedOperation 7 = .ok (.ifCond .lt 14, 3) := by decide +kernel
theorem dX5_placedOperation_10 : decode cX5_placedOperation 10 = .ok (.iload_n 2, 1) := by decide +kernel
theorem dX5_placedOperation_11 : decode cX5_placedOperation 11 = .ok (.aload_n 3, 1) := by decide +kernel
theorem dX5_placedOperation_12 : decode cX5_placedOperation 12 = .ok (.getfield 101, 3) := by decide +kernel
theorem dX5_placedOperation_15 : decode cX5_placedOperation 15 = .ok (.invokevirtual 20, 3) := by decide +kernel
theorem dX5_placedOperation_18 : decode cX5_placedOperation 18 = .ok (.if_icmp .lt 13, 3) := by decide +kernel
theorem dX5_placedOperation_21 : decode cX5_placedOperation 21 = .ok (.new 123, 3) := by decide +kernel
theorem dX5_placedOperation_24 : decode cX5_placedOperation 24 = .ok (.dup, 1) := by decide +kernel
theorem dX5_placedOperation_25 : decode cX5_placedOperation 25 = .ok (.ldc 239, 2) := by decide +kernel
theorem dX5_placedOperation_27 : decode cX5_placedOperation 27 = .ok (.invokespecial 127, 3) := by decide +kernel
theorem dX5_placedOperation_30 : decode cX5_placedOperation 30 = .ok (.athrow, 1) := by decide +kernel
theorem dX5_placedOperation_31 : decode cX5_placedOperation 31 = .ok (.aload_n 3, 1) := by decide +kernel
theorem dX5_placedOperation_32 : decode cX5_placedOperation 32 = .ok (.getfield 106, 3) := by decide +kernel
theorem dX5_placedOperation_35 : decode cX5_placedOperation 35 = .ok (.ifCond .ne 13, 3) := by decide +kernel
theorem dX5_placedOperation_38 : decode cX5_placedOperation 38 = .ok (.new 26, 3) := by decide +kernel
theorem dX5_placedOperation_41 : decode cX5_placedOperation 41 = .ok (.dup, 1) := by decide +kernel
theorem dX5_placedOperation_42 : decode cX5_placedOperation 42 = .ok (.ldc 232, 2) := by decide +kernel
theorem dX5_placedOperation_44 : decode cX5_placedOperation 44 = .ok (.invokespecial 30, 3) := by decide +kernel
theorem dX5_placedOperation_47 : decode cX5_placedOperation 47 = .ok (.athrow, 1) := by decide +kernel
theorem dX5_placedOperation_48 : decode cX5_placedOperation 48 = .ok (.aload_n 3, 1) := by decide +kernel
theorem dX5_placedOperation_49 : decode cX5_placedOperation 49 = .ok (.getfield 101, 3) := by decide +kernel
theorem dX5_placedOperation_52 : decode cX5_placedOperation 52 = .ok (.iload_n 2, 1) := by decide +kernel
theorem dX5_placedOperation_53 : decode cX5_placedOperation 53 = .ok (.invokevirtual 143, 3) := by decide +kernel
theorem dX5_placedOperation_56 : decode cX5_placedOperation 56 = .ok (.checkcast 147, 3) := by decide +kernel
theorem dX5_placedOperation_59 : decode cX5_placedOperation 59 = .ok (.areturn, 1) := by decide +kernel
theorem dJ6_bitCount_0f7a4_0 : decode cJ6_bitCount_0f7a4 0 = .ok (.iload_n 0, 1) := by decide +kernel
theorem dJ6_bitCount_0f7a4_1 : decode cJ6_bitCount_0f7a4 1 = .ok (.iload_n 0, 1) := by decide +kernel
theorem dJ6_bitCount_0f7a4_2 : decode cJ6_bitCount_0f7a4 2 = .ok (.iconst 1, 1) := by decide +kernel
theorem dJ6_bitCount_0f7a4_3 : decode cJ6_bitCount_0f7a4 3 = .ok (.iushr, 1) := by decide +kernel
theorem dJ6_bitCount_0f7a4_4 : decode cJ6_bitCount_0f7a4 4 = .ok (.ldc_w 265, 3) := by decide +kernel
theorem dJ6_bitCount_0f7a4_7 : decode cJ6_bitCount_0f7a4 7 = .ok (.iand, 1) := by decide +kernel
theorem dJ6_bitCount_0f7a4_8 : decode cJ6_bitCount_0f7a4 8 = .ok (.isub, 1) := by decide +kernel
theorem dJ6_bitCount_0f7a4_9 : decode cJ6_bitCount_0f7a4 9 = .ok (.istore_n 0, 1) := by decide +kernel
theorem dJ6_bitCount_0f7a4_10 : decode cJ6_bitCount_0f7a4 10 = .ok (.iload_n 0, 1) := by decide +kernel
theorem dJ6_bitCount_0f7a4_11 : decode cJ6_bitCount_0f7a4 11 = .ok (.ldc_w 266, 3) := by decide +kernel
theorem dJ6_bitCount_0f7a4_14 : decode cJ6_bitCount_0f7a4 14 = .ok (.iand, 1) := by decide +kernel
theorem dJ6_bitCount_0f7a4_15 : decode cJ6_bitCount_0f7a4 15 = .ok (.iload_n 0, 1) := by decide +kernel
theorem dJ6_bitCount_0f7a4_16 : decode cJ6_bitCount_0f7a4 16 = .ok (.iconst 2, 1) := by decide +kernel
theorem dJ6_bitCount_0f7a4_17 : decode cJ6_bitCount_0f7a4 17 = .ok (.iushr, 1) := by decide +kernel
theorem dJ6_bitCount_0f7a4_18 : decode cJ6_bitCount_0f7a4 18 = .ok (.ldc_w 266, 3) := by decide +kernel
theorem dJ6_bitCount_0f7a4_21 : decode cJ6_bitCount_0f7a4 21 = .ok (.iand, 1) := by decide +kernel
theorem dJ6_bitCount_0f7a4_22 : decode cJ6_bitCount_0f7a4 22 = .ok (.iadd, 1) := by decide +kernel
theorem dJ6_bitCount_0f7a4_23 : decode cJ6_bitCount_0f7a4 23 = .ok (.istore_n 0, 1) := by decide +kernel
theorem dJ6_bitCount_0f7a4_24 : decode cJ6_bitCount_0f7a4 24 = .ok (.iload_n 0, 1) := by decide +kernel
theorem dJ6_bitCount_0f7a4_25 : decode cJ6_bitCount_0f7a4 25 = .ok (.iload_n 0, 1) := by decide +kernel
theorem dJ6_bitCount_0f7a4_26 : decode cJ6_bitCount_0f7a4 26 = .ok (.iconst 4, 1) := by decide +kernel
theorem dJ6_bitCount_0f7a4_27 : decode cJ6_bitCount_0f7a4 27 = .ok (.iushr, 1) := by decide +kernel
theorem dJ6_bitCount_0f7a4_28 : decode cJ6_bitCount_0f7a4 28 = .ok (.iadd, 1) := by decide +kernel
theorem dJ6_bitCount_0f7a4_29 : decode cJ6_bitCount_0f7a4 29 = .ok (.ldc_w 267, 3) := by decide +kernel
theorem dJ6_bitCount_0f7a4_32 : decode cJ6_bitCount_0f7a4 32 = .ok (.iand, 1) := by decide +kernel
theorem dJ6_bitCount_0f7a4_33 : decode cJ6_bitCount_0f7a4 33 = .ok (.istore_n 0, 1) := by decide +kernel
theorem dJ6_bitCount_0f7a4_34 : decode cJ6_bitCount_0f7a4 34 = .ok (.iload_n 0, 1) := by decide +kernel
theorem dJ6_bitCount_0f7a4_35 : decode cJ6_bitCount_0f7a4 35 = .ok (.iload_n 0, 1) := by decide +kernel
theorem dJ6_bitCount_0f7a4_36 : decode cJ6_bitCount_0f7a4 36 = .ok (.bipush 8, 2) := by decide +kernel
theorem dJ6_bitCount_0f7a4_38 : decode cJ6_bitCount_0f7a4 38 = .ok (.iushr, 1) := by decide +kernel
theorem dJ6_bitCount_0f7a4_39 : decode cJ6_bitCount_0f7a4 39 = .ok (.iadd, 1) := by decide +kernel
theorem dJ6_bitCount_0f7a4_40 : decode cJ6_bitCount_0f7a4 40 = .ok (.istore_n 0, 1) := by decide +kernel
theorem dJ6_bitCount_0f7a4_41 : decode cJ6_bitCount_0f7a4 41 = .ok (.iload_n 0, 1) := by decide +kernel
theorem dJ6_bitCount_0f7a4_42 : decode cJ6_bitCount_0f7a4 42 = .ok (.iload_n 0, 1) := by decide +kernel
theorem dJ6_bitCount_0f7a4_43 : decode cJ6_bitCount_0f7a4 43 = .ok (.bipush 16, 2) := by decide +kernel
theorem dJ6_bitCount_0f7a4_45 : decode cJ6_bitCount_0f7a4 45 = .ok (.iushr, 1) := by decide +kernel
theorem dJ6_bitCount_0f7a4_46 : decode cJ6_bitCount_0f7a4 46 = .ok (.iadd, 1) := by decide +kernel
theorem dJ6_bitCount_0f7a4_47 : decode cJ6_bitCount_0f7a4 47 = .ok (.istore_n 0, 1) := by decide +kernel
theorem dJ6_bitCount_0f7a4_48 : decode cJ6_bitCount_0f7a4 48 = .ok (.iload_n 0, 1) := by decide +kernel
theorem dJ6_bitCount_0f7a4_49 : decode cJ6_bitCount_0f7a4 49 = .ok (.bipush 63, 2) := by decide +kernel
theorem dJ6_bitCount_0f7a4_51 : decode cJ6_bitCount_0f7a4 51 = .ok (.iand, 1) := by decide +kernel
theorem dJ6_bitCount_0f7a4_52 : decode cJ6_bitCount_0f7a4 52 = .ok (.ireturn, 1) := by decide +kernel
theorem dJ9_max_7cf53_0 : decode cJ9_max_7cf53 0 = .ok (.iload_n 0, 1) := by decide +kernel
theorem dJ9_max_7cf53_1 : decode cJ9_max_7cf53 1 = .ok (.iload_n 1, 1) := by decide +kernel
theorem dJ9_max_7cf53_2 : decode cJ9_max_7cf53 2 = .ok (.if_icmp .lt 7, 3) := by decide +kernel
theorem dJ9_max_7cf53_5 : decode cJ9_max_7cf53 5 = .ok (.iload_n 0, 1) := by decide +kernel
theorem dJ9_max_7cf53_6 : decode cJ9_max_7cf53 6 = .ok (.goto 4, 3) := by decide +kernel
theorem dJ9_max_7cf53_9 : decode cJ9_max_7cf53 9 = .ok (.iload_n 1, 1) := by decide +kernel
theorem dJ9_max_7cf53_10 : decode cJ9_max_7cf53 10 = .ok (.ireturn, 1) := by decide +kernel
theorem dJ9_min_7cf53_0 : decode cJ9_min_7cf53 0 = .ok (.iload_n 0, 1) := by decide +kernel
theorem dJ9_min_7cf53_1 : decode cJ9_min_7cf53 1 = .ok (.iload_n 1, 1) := by decide +kernel
theorem dJ9_min_7cf53_2 : decode cJ9_min_7cf53 2 = .ok (.if_icmp .gt 7, 3) := by decide +kernel
theorem dJ9_min_7cf53_5 : decode cJ9_min_7cf53 5 = .ok (.iload_n 0, 1) := by decide +kernel
theorem dJ9_min_7cf53_6 : decode cJ9_min_7cf53 6 = .ok (.goto 4, 3) := by decide +kernel
theorem dJ9_min_7cf53_9 : decode cJ9_min_7cf53 9 = .ok (.iload_n 1, 1) := by decide +kernel
theorem dJ9_min_7cf53_10 : decode cJ9_min_7cf53 10 = .ok (.ireturn, 1) := by decide +kernel
theorem dJxa1e45_init_da8c8_0 : decode cJxa1e45_init_da8c8 0 = .ok (.aload_n 0, 1) := by decide +kernel
theorem dJxa1e45_init_da8c8_1 : decode cJxa1e45_init_da8c8 1 = .ok (.invokespecial 1, 3) := by decide +kernel
theorem dJxa1e45_init_da8c8_4 : decode cJxa1e45_init_da8c8 4 = .ok (.return_, 1) := by decide +kernel
theorem dJxc12de_init_da8c8_0 : decode cJxc12de_init_da8c8 0 = .ok (.aload_n 0, 1) := by decide +kernel
theorem dJxc12de_init_da8c8_1 : decode cJxc12de_init_da8c8 1 = .ok (.invokespecial 1, 3) := by decide +kernel
theorem dJxc12de_init_da8c8_4 : decode cJxc12de_init_da8c8 4 = .ok (.aload_n 0, 1) := by decide +kernel
theorem dJxc12de_init_da8c8_5 : decode cJxc12de_init_da8c8 5 = .ok (.iconst 0, 1) := by decide +kernel
theorem dJxc12de_init_da8c8_6 : decode cJxc12de_init_da8c8 6 = .ok (.putfield 7, 3) := by decide +kernel
theorem dJxc12de_init_da8c8_9 : decode cJxc12de_init_da8c8 9 = .ok (.return_, 1) := by decide +kernel
theorem dJx4a65c_init_da8c8_0 : decode cJx4a65c_init_da8c8 0 = .ok (.aload_n 0, 1) := by decide +kernel
theorem dJx4a65c_init_da8c8_1 : decode cJx4a65c_init_da8c8 1 = .ok (.invokespecial 1, 3) := by decide +kernel
theorem dJx4a65c_init_da8c8_4 : decode cJx4a65c_init_da8c8 4 = .ok (.aload_n 0, 1) := by decide +kernel
theorem dJx4a65c_init_da8c8_5 : decode cJx4a65c_init_da8c8 5 = .ok (.getstatic 39, 3) := by decide +kernel
theorem dJx4a65c_init_da8c8_8 : decode cJx4a65c_init_da8c8 8 = .ok (.putfield 9, 3) := by decide +kernel
theorem dJx4a65c_init_da8c8_11 : decode cJx4a65c_init_da8c8 11 = .ok (.return_, 1) := by decide +kernel
theorem dJx4a65c_grow_92f84_0 : decode cJx4a65c_grow_92f84 0 = .ok (.aload_n 0, 1) := by decide +kernel
theorem dJx4a65c_grow_92f84_1 : decode cJx4a65c_grow_92f84 1 = .ok (.getfield 9, 3) := by decide +kernel
theorem dJx4a65c_grow_92f84_4 : decode cJx4a65c_grow_92f84 4 = .ok (.arraylength, 1) := by decide +kernel
theorem dJx4a65c_grow_92f84_5 : decode cJx4a65c_grow_92f84 5 = .ok (.istore_n 2, 1) := by decide +kernel
theorem dJx4a65c_grow_92f84_6 : decode cJx4a65c_grow_92f84 6 = .ok (.iload_n 2, 1) := by decide +kernel
theorem dJx4a65c_grow_92f84_7 : decode cJx4a65c_grow_92f84 7 = .ok (.ifCond .gt 13, 3) := by decide +kernel
theorem dJx4a65c_grow_92f84_10 : decode cJx4a65c_grow_92f84 10 = .ok (.aload_n 0, 1) := by decide +kernel
theorem dJx4a65c_grow_92f84_11 : decode cJx4a65c_grow_92f84 11 = .ok (.getfield 9, 3) := by decide +kernel
theorem dJx4a65c_grow_92f84_14 : decode cJx4a65c_grow_92f84 14 = .ok (.getstatic 39, 3) := by decide +kernel
theorem dJx4a65c_grow_92f84_17 : decode cJx4a65c_grow_92f84 17 = .ok (.if_acmp .eq 28, 3) := by decide +kernel
theorem dJx4a65c_grow_92f84_20 : decode cJx4a65c_grow_92f84 20 = .ok (.iload_n 2, 1) := by decide +kernel
theorem dJx4a65c_grow_92f84_21 : decode cJx4a65c_grow_92f84 21 = .ok (.iload_n 1, 1) := by decide +kernel
theorem dJx4a65c_grow_92f84_22 : decode cJx4a65c_grow_92f84 22 = .ok (.iload_n 2, 1) := by decide +kernel
theorem dJx4a65c_grow_92f84_23 : decode cJx4a65c_grow_92f84 23 = .ok (.isub, 1) := by decide +kernel
theorem dJx4a65c_grow_92f84_24 : decode cJx4a65c_grow_92f84 24 = .ok (.iload_n 2, 1) := by decide +kernel
theorem dJx4a65c_grow_92f84_25 : decode cJx4a65c_grow_92f84 25 = .ok (.iconst 1, 1) := by decide +kernel
theorem dJx4a65c_grow_92f84_26 : decode cJx4a65c_grow_92f84 26 = .ok (.ishr, 1) := by decide +kernel
theorem dJx4a65c_grow_92f84_27 : decode cJx4a65c_grow_92f84 27 = .ok (.invokestatic 73, 3) := by decide +kernel
theorem dJx4a65c_grow_92f84_30 : decode cJx4a65c_grow_92f84 30 = .ok (.istore_n 3, 1) := by decide +kernel
theorem dJx4a65c_grow_92f84_31 : decode cJx4a65c_grow_92f84 31 = .ok (.aload_n 0, 1) := by decide +kernel
theorem dJx4a65c_grow_92f84_32 : decode cJx4a65c_grow_92f84 32 = .ok (.aload_n 0, 1) := by decide +kernel
theorem dJx4a65c_grow_92f84_33 : decode cJx4a65c_grow_92f84 33 = .ok (.getfield 9, 3) := by decide +kernel
theorem dJx4a65c_grow_92f84_36 : decode cJx4a65c_grow_92f84 36 = .ok (.iload_n 3, 1) := by decide +kernel
theorem dJx4a65c_grow_92f84_37 : decode cJx4a65c_grow_92f84 37 = .ok (.invokestatic 66, 3) := by decide +kernel
theorem dJx4a65c_grow_92f84_40 : decode cJx4a65c_grow_92f84 40 = .ok (.dup_x1, 1) := by decide +kernel
theorem dJx4a65c_grow_92f84_41 : decode cJx4a65c_grow_92f84 41 = .ok (.putfield 9, 3) := by decide +kernel
theorem dJx4a65c_grow_92f84_44 : decode cJx4a65c_grow_92f84 44 = .ok (.areturn, 1) := by decide +kernel
theorem dJx4a65c_grow_92f84_45 : decode cJx4a65c_grow_92f84 45 = .ok (.aload_n 0, 1) := by decide +kernel
theorem dJx4a65c_grow_92f84_46 : decode cJx4a65c_grow_92f84 46 = .ok (.bipush 10, 2) := by decide +kernel
theorem dJx4a65c_grow_92f84_48 : decode cJx4a65c_grow_92f84 48 = .ok (.iload_n 1, 1) := by decide +kernel
theorem dJx4a65c_grow_92f84_49 : decode cJx4a65c_grow_92f84 49 = .ok (.invokestatic 79, 3) := by decide +kernel
theorem dJx4a65c_grow_92f84_52 : decode cJx4a65c_grow_92f84 52 = .ok (.anewarray 7, 3) := by decide +kernel
theorem dJx4a65c_grow_92f84_55 : decode cJx4a65c_grow_92f84 55 = .ok (.dup_x1, 1) := by decide +kernel
theorem dJx4a65c_grow_92f84_56 : decode cJx4a65c_grow_92f84 56 = .ok (.putfield 9, 3) := by decide +kernel
theorem dJx4a65c_grow_92f84_59 : decode cJx4a65c_grow_92f84 59 = .ok (.areturn, 1) := by decide +kernel
theorem dJx4a65c_grow_d5877_0 : decode cJx4a65c_grow_d5877 0 = .ok (.aload_n 0, 1) := by decide +kernel
theorem dJx4a65c_grow_d5877_1 : decode cJx4a65c_grow_d5877 1 = .ok (.aload_n 0, 1) := by decide +kernel
theorem dJx4a65c_grow_d5877_2 : decode cJx4a65c_grow_d5877 2 = .ok (.getfield 48, 3) := by decide +kernel
theorem dJx4a65c_grow_d5877_5 : decode cJx4a65c_grow_d5877 5 = .ok (.iconst 1, 1) := by decide +kernel
theorem dJx4a65c_grow_d5877_6 : decode cJx4a65c_grow_d5877 6 = .ok (.iadd, 1) := by decide +kernel
theorem dJx4a65c_grow_d5877_7 : decode cJx4a65c_grow_d5877 7 = .ok (.invokevirtual 69, 3) := by decide +kernel
theorem dJx4a65c_grow_d5877_10 : decode cJx4a65c_grow_d5877 10 = .ok (.areturn, 1) := by decide +kernel
theorem dJx4a65c_size_8abf5_0 : decode cJx4a65c_size_8abf5 0 = .ok (.aload_n 0, 1) := by decide +kernel
theorem dJx4a65c_size_8abf5_1 : decode cJx4a65c_size_8abf5 1 = .ok (.getfield 48, 3) := by decide +kernel
theorem dJx4a65c_size_8abf5_4 : decode cJx4a65c_size_8abf5 4 = .ok (.ireturn, 1) := by decide +kernel
theorem dJx4a65c_isEmpty_aae02_0 : decode cJx4a65c_isEmpty_aae02 0 = .ok (.aload_n 0, 1) := by decide +kernel
theorem dJx4a65c_isEmpty_aae02_1 : decode cJx4a65c_isEmpty_aae02 1 = .ok (.getfield 48, 3) := by decide +kernel
theorem dJx4a65c_isEmpty_aae02_4 : decode cJx4a65c_isEmpty_aae02 4 = .ok (.ifCond .ne 7, 3) := by decide +kernel
theorem dJx4a65c_isEmpty_aae02_7 : decode cJx4a65c_isEmpty_aae02 7 = .ok (.iconst 1, 1) := by decide +kernel
theorem dJx4a65c_isEmpty_aae02_8 : decode cJx4a65c_isEmpty_aae02 8 = .ok (.goto 4, 3) := by decide +kernel
theorem dJx4a65c_isEmpty_aae02_11 : decode cJx4a65c_isEmpty_aae02 11 = .ok (.iconst 0, 1) := by decide +kernel
theorem dJx4a65c_isEmpty_aae02_12 : decode cJx4a65c_isEmpty_aae02 12 = .ok (.ireturn, 1) := by decide +kernel
theorem dJx4a65c_elementData_915e3_0 : decode cJx4a65c_elementData_915e3 0 = .ok (.aload_n 0, 1) := by decide +kernel
theorem dJx4a65c_elementData_915e3_1 : decode cJx4a65c_elementData_915e3 1 = .ok (.getfield 9, 3) := by decide +kernel
theorem dJx4a65c_elementData_915e3_4 : decode cJx4a65c_elementData_915e3 4 = .ok (.iload_n 1, 1) := by decide +kernel
theorem dJx4a65c_elementData_915e3_5 : decode cJx4a65c_elementData_915e3 5 = .ok (.aaload, 1) := by decide +kernel
theorem dJx4a65c_elementData_915e3_6 : decode cJx4a65c_elementData_915e3 6 = .ok (.areturn, 1) := by decide +kernel
theorem dJx4a65c_get_915e3_0 : decode cJx4a65c_get_915e3 0 = .ok (.iload_n 1, 1) := by decide +kernel
theorem dJx4a65c_get_915e3_1 : decode cJx4a65c_get_915e3 1 = .ok (.aload_n 0, 1) := by decide +kernel
theorem dJx4a65c_get_915e3_2 : decode cJx4a65c_get_915e3 2 = .ok (.getfield 48, 3) := by decide +kernel
theorem dJx4a65c_get_915e3_5 : decode cJx4a65c_get_915e3 5 = .ok (.invokestatic 118, 3) := by decide +kernel
theorem dJx4a65c_get_915e3_8 : decode cJx4a65c_get_915e3 8 = .ok (.pop, 1) := by decide +kernel
theorem dJx4a65c_get_915e3_9 : decode cJx4a65c_get_915e3 9 = .ok (.aload_n 0, 1) := by decide +kernel
theorem dJx4a65c_get_915e3_10 : decode cJx4a65c_get_915e3 10 = .ok (.iload_n 1, 1) := by decide +kernel
theorem dJx4a65c_get_915e3_11 : decode cJx4a65c_get_915e3 11 = .ok (.invokevirtual 123, 3) := by decide +kernel
theorem dJx4a65c_get_915e3_14 : decode cJx4a65c_get_915e3 14 = .ok (.areturn, 1) := by decide +kernel
theorem dJx4a65c_add_72be8_0 : decode cJx4a65c_add_72be8 0 = .ok (.iload_n 3, 1) := by decide +kernel
theorem dJx4a65c_add_72be8_1 : decode cJx4a65c_add_72be8 1 = .ok (.aload_n 2, 1) := by decide +kernel
theorem dJx4a65c_add_72be8_2 : decode cJx4a65c_add_72be8 2 = .ok (.arraylength, 1) := by decide +kernel
theorem dJx4a65c_add_72be8_3 : decode cJx4a65c_add_72be8 3 = .ok (.if_icmp .ne 8, 3) := by decide +kernel
theorem dJx4a65c_add_72be8_6 : decode cJx4a65c_add_72be8 6 = .ok (.aload_n 0, 1) := by decide +kernel
theorem dJx4a65c_add_72be8_7 : decode cJx4a65c_add_72be8 7 = .ok (.invokevirtual 129, 3) := by decide +kernel
theorem dJx4a65c_add_72be8_10 : decode cJx4a65c_add_72be8 10 = .ok (.astore_n 2, 1) := by decide +kernel
theorem dJx4a65c_add_72be8_11 : decode cJx4a65c_add_72be8 11 = .ok (.aload_n 2, 1) := by decide +kernel
theorem dJx4a65c_add_72be8_12 : decode cJx4a65c_add_72be8 12 = .ok (.iload_n 3, 1) := by decide +kernel
theorem dJx4a65c_add_72be8_13 : decode cJx4a65c_add_72be8 13 = .ok (.aload_n 1, 1) := by decide +kernel
theorem dJx4a65c_add_72be8_14 : decode cJx4a65c_add_72be8 14 = .ok (.aastore, 1) := by decide +kernel
theorem dJx4a65c_add_72be8_15 : decode cJx4a65c_add_72be8 15 = .ok (.aload_n 0, 1) := by decide +kernel
theorem dJx4a65c_add_72be8_16 : decode cJx4a65c_add_72be8 16 = .ok (.iload_n 3, 1) := by decide +kernel
theorem dJx4a65c_add_72be8_17 : decode cJx4a65c_add_72be8 17 = .ok (.iconst 1, 1) := by decide +kernel
theorem dJx4a65c_add_72be8_18 : decode cJx4a65c_add_72be8 18 = .ok (.iadd, 1) := by decide +kernel
theorem dJx4a65c_add_72be8_19 : decode cJx4a65c_add_72be8 19 = .ok (.putfield 48, 3) := by decide +kernel
theorem dJx4a65c_add_72be8_22 : decode cJx4a65c_add_72be8 22 = .ok (.return_, 1) := by decide +kernel
theorem dJx4a65c_add_9ea2d_0 : decode cJx4a65c_add_9ea2d 0 = .ok (.aload_n 0, 1) := by decide +kernel
theorem dJx4a65c_add_9ea2d_1 : decode cJx4a65c_add_9ea2d 1 = .ok (.dup, 1) := by decide +kernel
theorem dJx4a65c_add_9ea2d_2 : decode cJx4a65c_add_9ea2d 2 = .ok (.getfield 63, 3) := by decide +kernel
theorem dJx4a65c_add_9ea2d_5 : decode cJx4a65c_add_9ea2d 5 = .ok (.iconst 1, 1) := by decide +kernel
theorem dJx4a65c_add_9ea2d_6 : decode cJx4a65c_add_9ea2d 6 = .ok (.iadd, 1) := by decide +kernel
theorem dJx4a65c_add_9ea2d_7 : decode cJx4a65c_add_9ea2d 7 = .ok (.putfield 63, 3) := by decide +kernel
theorem dJx4a65c_add_9ea2d_10 : decode cJx4a65c_add_9ea2d 10 = .ok (.aload_n 0, 1) := by decide +kernel
theorem dJx4a65c_add_9ea2d_11 : decode cJx4a65c_add_9ea2d 11 = .ok (.aload_n 1, 1) := by decide +kernel
theorem dJx4a65c_add_9ea2d_12 : decode cJx4a65c_add_9ea2d 12 = .ok (.aload_n 0, 1) := by decide +kernel
theorem dJx4a65c_add_9ea2d_13 : decode cJx4a65c_add_9ea2d 13 = .ok (.getfield 9, 3) := by decide +kernel
theorem dJx4a65c_add_9ea2d_16 : decode cJx4a65c_add_9ea2d 16 = .ok (.aload_n 0, 1) := by decide +kernel
theorem dJx4a65c_add_9ea2d_17 : decode cJx4a65c_add_9ea2d 17 = .ok (.getfield 48, 3) := by decide +kernel
theorem dJx4a65c_add_9ea2d_20 : decode cJx4a65c_add_9ea2d 20 = .ok (.invokevirtual 131, 3) := by decide +kernel
theorem dJx4a65c_add_9ea2d_23 : decode cJx4a65c_add_9ea2d 23 = .ok (.iconst 1, 1) := by decide +kernel
theorem dJx4a65c_add_9ea2d_24 : decode cJx4a65c_add_9ea2d 24 = .ok (.ireturn, 1) := by decide +kernel
theorem dJx4a65c_add_7a177_0 : decode cJx4a65c_add_7a177 0 = .ok (.aload_n 0, 1) := by decide +kernel
theorem dJx4a65c_add_7a177_1 : decode cJx4a65c_add_7a177 1 = .ok (.iload_n 1, 1) := by decide +kernel
theorem dJx4a65c_add_7a177_2 : decode cJx4a65c_add_7a177 2 = .ok (.invokevirtual 135, 3) := by decide +kernel
theorem dJx4a65c_add_7a177_5 : decode cJx4a65c_add_7a177 5 = .ok (.aload_n 0, 1) := by decide +kernel
theorem dJx4a65c_add_7a177_6 : decode cJx4a65c_add_7a177 6 = .ok (.dup, 1) := by decide +kernel
theorem dJx4a65c_add_7a177_7 : decode cJx4a65c_add_7a177 7 = .ok (.getfield 63, 3) := by decide +kernel
theorem dJx4a65c_add_7a177_10 : decode cJx4a65c_add_7a177 10 = .ok (.iconst 1, 1) := by decide +kernel
theorem dJx4a65c_add_7a177_11 : decode cJx4a65c_add_7a177 11 = .ok (.iadd, 1) := by decide +kernel
theorem dJx4a65c_add_7a177_12 : decode cJx4a65c_add_7a177 12 = .ok (.putfield 63, 3) := by decide +kernel
theorem dJx4a65c_add_7a177_15 : decode cJx4a65c_add_7a177 15 = .ok (.aload_n 0, 1) := by decide +kernel
theorem dJx4a65c_add_7a177_16 : decode cJx4a65c_add_7a177 16 = .ok (.getfield 48, 3) := by decide +kernel
theorem dJx4a65c_add_7a177_19 : decode cJx4a65c_add_7a177 19 = .ok (.dup, 1) := by decide +kernel
theorem dJx4a65c_add_7a177_20 : decode cJx4a65c_add_7a177 20 = .ok (.istore_n 3, 1) := by decide +kernel
theorem dJx4a65c_add_7a177_21 : decode cJx4a65c_add_7a177 21 = .ok (.aload_n 0, 1) := by decide +kernel
theorem dJx4a65c_add_7a177_22 : decode cJx4a65c_add_7a177 22 = .ok (.getfield 9, 3) := by decide +kernel
theorem dJx4a65c_add_7a177_25 : decode cJx4a65c_add_7a177 25 = .ok (.dup, 1) := by decide +kernel
theorem dJx4a65c_add_7a177_26 : decode cJx4a65c_add_7a177 26 = .ok (.astore 4, 2) := by decide +kernel
theorem dJx4a65c_add_7a177_28 : decode cJx4a65c_add_7a177 28 = .ok (.arraylength, 1) := by decide +kernel
theorem dJx4a65c_add_7a177_29 : decode cJx4a65c_add_7a177 29 = .ok (.if_icmp .ne 9, 3) := by decide +kernel
theorem dJx4a65c_add_7a177_32 : decode cJx4a65c_add_7a177 32 = .ok (.aload_n 0, 1) := by decide +kernel
theorem dJx4a65c_add_7a177_33 : decode cJx4a65c_add_7a177 33 = .ok (.invokevirtual 129, 3) := by decide +kernel
theorem dJx4a65c_add_7a177_36 : decode cJx4a65c_add_7a177 36 = .ok (.astore 4, 2) := by decide +kernel
theorem dJx4a65c_add_7a177_38 : decode cJx4a65c_add_7a177 38 = .ok (.aload 4, 2) := by decide +kernel
theorem dJx4a65c_add_7a177_40 : decode cJx4a65c_add_7a177 40 = .ok (.iload_n 1, 1) := by decide +kernel
theorem dJx4a65c_add_7a177_41 : decode cJx4a65c_add_7a177 41 = .ok (.aload 4, 2) := by decide +kernel
theorem dJx4a65c_add_7a177_43 : decode cJx4a65c_add_7a177 43 = .ok (.iload_n 1, 1) := by decide +kernel
theorem dJx4a65c_add_7a177_44 : decode cJx4a65c_add_7a177 44 = .ok (.iconst 1, 1) := by decide +kernel
theorem dJx4a65c_add_7a177_45 : decode cJx4a65c_add_7a177 45 = .ok (.iadd, 1) := by decide +kernel
theorem dJx4a65c_add_7a177_46 : decode cJx4a65c_add_7a177 46 = .ok (.iload_n 3, 1) := by decide +kernel
theorem dJx4a65c_add_7a177_47 : decode cJx4a65c_add_7a177 47 = .ok (.iload_n 1, 1) := by decide +kernel
theorem dJx4a65c_add_7a177_48 : decode cJx4a65c_add_7a177 48 = .ok (.isub, 1) := by decide +kernel
theorem dJx4a65c_add_7a177_49 : decode cJx4a65c_add_7a177 49 = .ok (.invokestatic 112, 3) := by decide +kernel
theorem dJx4a65c_add_7a177_52 : decode cJx4a65c_add_7a177 52 = .ok (.aload 4, 2) := by decide +kernel
theorem dJx4a65c_add_7a177_54 : decode cJx4a65c_add_7a177 54 = .ok (.iload_n 1, 1) := by decide +kernel
theorem dJx4a65c_add_7a177_55 : decode cJx4a65c_add_7a177 55 = .ok (.aload_n 2, 1) := by decide +kernel
theorem dJx4a65c_add_7a177_56 : decode cJx4a65c_add_7a177 56 = .ok (.aastore, 1) := by decide +kernel
theorem dJx4a65c_add_7a177_57 : decode cJx4a65c_add_7a177 57 = .ok (.aload_n 0, 1) := by decide +kernel
theorem dJx4a65c_add_7a177_58 : decode cJx4a65c_add_7a177 58 = .ok (.iload_n 3, 1) := by decide +kernel
theorem dJx4a65c_add_7a177_59 : decode cJx4a65c_add_7a177 59 = .ok (.iconst 1, 1) := by decide +kernel
theorem dJx4a65c_add_7a177_60 : decode cJx4a65c_add_7a177 60 = .ok (.iadd, 1) := by decide +kernel
theorem dJx4a65c_add_7a177_61 : decode cJx4a65c_add_7a177 61 = .ok (.putfield 48, 3) := by decide +kernel
theorem dJx4a65c_add_7a177_64 : decode cJx4a65c_add_7a177 64 = .ok (.return_, 1) := by decide +kernel
theorem dJx4a65c_remove_915e3_0 : decode cJx4a65c_remove_915e3 0 = .ok (.iload_n 1, 1) := by decide +kernel
theorem dJx4a65c_remove_915e3_1 : decode cJx4a65c_remove_915e3 1 = .ok (.aload_n 0, 1) := by decide +kernel
theorem dJx4a65c_remove_915e3_2 : decode cJx4a65c_remove_915e3 2 = .ok (.getfield 48, 3) := by decide +kernel
theorem dJx4a65c_remove_915e3_5 : decode cJx4a65c_remove_915e3 5 = .ok (.invokestatic 118, 3) := by decide +kernel
theorem dJx4a65c_remove_915e3_8 : decode cJx4a65c_remove_915e3 8 = .ok (.pop, 1) := by decide +kernel
theorem dJx4a65c_remove_915e3_9 : decode cJx4a65c_remove_915e3 9 = .ok (.aload_n 0, 1) := by decide +kernel
theorem dJx4a65c_remove_915e3_10 : decode cJx4a65c_remove_915e3 10 = .ok (.getfield 9, 3) := by decide +kernel
theorem dJx4a65c_remove_915e3_13 : decode cJx4a65c_remove_915e3 13 = .ok (.astore_n 2, 1) := by decide +kernel
theorem dJx4a65c_remove_915e3_14 : decode cJx4a65c_remove_915e3 14 = .ok (.aload_n 2, 1) := by decide +kernel
theorem dJx4a65c_remove_915e3_15 : decode cJx4a65c_remove_915e3 15 = .ok (.iload_n 1, 1) := by decide +kernel
theorem dJx4a65c_remove_915e3_16 : decode cJx4a65c_remove_915e3 16 = .ok (.aaload, 1) := by decide +kernel
theorem dJx4a65c_remove_915e3_17 : decode cJx4a65c_remove_915e3 17 = .ok (.astore_n 3, 1) := by decide +kernel
theorem dJx4a65c_remove_915e3_18 : decode cJx4a65c_remove_915e3 18 = .ok (.aload_n 0, 1) := by decide +kernel
theorem dJx4a65c_remove_915e3_19 : decode cJx4a65c_remove_915e3 19 = .ok (.aload_n 2, 1) := by decide +kernel
theorem dJx4a65c_remove_915e3_20 : decode cJx4a65c_remove_915e3 20 = .ok (.iload_n 1, 1) := by decide +kernel
theorem dJx4a65c_remove_915e3_21 : decode cJx4a65c_remove_915e3 21 = .ok (.invokevirtual 144, 3) := by decide +kernel
theorem dJx4a65c_remove_915e3_24 : decode cJx4a65c_remove_915e3 24 = .ok (.aload_n 3, 1) := by decide +kernel
theorem dJx4a65c_remove_915e3_25 : decode cJx4a65c_remove_915e3 25 = .ok (.areturn, 1) := by decide +kernel
theorem dJx4a65c_fastRemove_b59b0_0 : decode cJx4a65c_fastRemove_b59b0 0 = .ok (.aload_n 0, 1) := by decide +kernel
theorem dJx4a65c_fastRemove_b59b0_1 : decode cJx4a65c_fastRemove_b59b0 1 = .ok (.dup, 1) := by decide +kernel
theorem dJx4a65c_fastRemove_b59b0_2 : decode cJx4a65c_fastRemove_b59b0 2 = .ok (.getfield 63, 3) := by decide +kernel
theorem dJx4a65c_fastRemove_b59b0_5 : decode cJx4a65c_fastRemove_b59b0 5 = .ok (.iconst 1, 1) := by decide +kernel
theorem dJx4a65c_fastRemove_b59b0_6 : decode cJx4a65c_fastRemove_b59b0 6 = .ok (.iadd, 1) := by decide +kernel
theorem dJx4a65c_fastRemove_b59b0_7 : decode cJx4a65c_fastRemove_b59b0 7 = .ok (.putfield 63, 3) := by decide +kernel
theorem dJx4a65c_fastRemove_b59b0_10 : decode cJx4a65c_fastRemove_b59b0 10 = .ok (.aload_n 0, 1) := by decide +kernel
theorem dJx4a65c_fastRemove_b59b0_11 : decode cJx4a65c_fastRemove_b59b0 11 = .ok (.getfield 48, 3) := by decide +kernel
theorem dJx4a65c_fastRemove_b59b0_14 : decode cJx4a65c_fastRemove_b59b0 14 = .ok (.iconst 1, 1) := by decide +kernel
theorem dJx4a65c_fastRemove_b59b0_15 : decode cJx4a65c_fastRemove_b59b0 15 = .ok (.isub, 1) := by decide +kernel
theorem dJx4a65c_fastRemove_b59b0_16 : decode cJx4a65c_fastRemove_b59b0 16 = .ok (.dup, 1) := by decide +kernel
theorem dJx4a65c_fastRemove_b59b0_17 : decode cJx4a65c_fastRemove_b59b0 17 = .ok (.istore_n 3, 1) := by decide +kernel
theorem dJx4a65c_fastRemove_b59b0_18 : decode cJx4a65c_fastRemove_b59b0 18 = .ok (.iload_n 2, 1) := by decide +kernel
theorem dJx4a65c_fastRemove_b59b0_19 : decode cJx4a65c_fastRemove_b59b0 19 = .ok (.if_icmp .le 15, 3) := by decide +kernel
theorem dJx4a65c_fastRemove_b59b0_22 : decode cJx4a65c_fastRemove_b59b0 22 = .ok (.aload_n 1, 1) := by decide +kernel
theorem dJx4a65c_fastRemove_b59b0_23 : decode cJx4a65c_fastRemove_b59b0 23 = .ok (.iload_n 2, 1) := by decide +kernel
theorem dJx4a65c_fastRemove_b59b0_24 : decode cJx4a65c_fastRemove_b59b0 24 = .ok (.iconst 1, 1) := by decide +kernel
theorem dJx4a65c_fastRemove_b59b0_25 : decode cJx4a65c_fastRemove_b59b0 25 = .ok (.iadd, 1) := by decide +kernel
theorem dJx4a65c_fastRemove_b59b0_26 : decode cJx4a65c_fastRemove_b59b0 26 = .ok (.aload_n 1, 1) := by decide +kernel
theorem dJx4a65c_fastRemove_b59b0_27 : decode cJx4a65c_fastRemove_b59b0 27 = .ok (.iload_n 2, 1) := by decide +kernel
theorem dJx4a65c_fastRemove_b59b0_28 : decode cJx4a65c_fastRemove_b59b0 28 = .ok (.iload_n 3, 1) := by decide +kernel
theorem dJx4a65c_fastRemove_b59b0_29 : decode cJx4a65c_fastRemove_b59b0 29 = .ok (.iload_n 2, 1) := by decide +kernel
theorem dJx4a65c_fastRemove_b59b0_30 : decode cJx4a65c_fastRemove_b59b0 30 = .ok (.isub, 1) := by decide +kernel
theorem dJx4a65c_fastRemove_b59b0_31 : decode cJx4a65c_fastRemove_b59b0 31 = .ok (.invokestatic 112, 3) := by decide +kernel
theorem dJx4a65c_fastRemove_b59b0_34 : decode cJx4a65c_fastRemove_b59b0 34 = .ok (.aload_n 1, 1) := by decide +kernel
theorem dJx4a65c_fastRemove_b59b0_35 : decode cJx4a65c_fastRemove_b59b0 35 = .ok (.aload_n 0, 1) := by decide +kernel
theorem dJx4a65c_fastRemove_b59b0_36 : decode cJx4a65c_fastRemove_b59b0 36 = .ok (.iload_n 3, 1) := by decide +kernel
theorem dJx4a65c_fastRemove_b59b0_37 : decode cJx4a65c_fastRemove_b59b0 37 = .ok (.dup_x1, 1) := by decide +kernel
theorem dJx4a65c_fastRemove_b59b0_38 : decode cJx4a65c_fastRemove_b59b0 38 = .ok (.putfield 48, 3) := by decide +kernel
theorem dJx4a65c_fastRemove_b59b0_41 : decode cJx4a65c_fastRemove_b59b0 41 = .ok (.aconst_null, 1) := by decide +kernel
theorem dJx4a65c_fastRemove_b59b0_42 : decode cJx4a65c_fastRemove_b59b0 42 = .ok (.aastore, 1) := by decide +kernel
theorem dJx4a65c_fastRemove_b59b0_43 : decode cJx4a65c_fastRemove_b59b0 43 = .ok (.return_, 1) := by decide +kernel
theorem dJx4a65c_clear_da8c8_0 : decode cJx4a65c_clear_da8c8 0 = .ok (.aload_n 0, 1) := by decide +kernel
theorem dJx4a65c_clear_da8c8_1 : decode cJx4a65c_clear_da8c8 1 = .ok (.dup, 1) := by decide +kernel
theorem dJx4a65c_clear_da8c8_2 : decode cJx4a65c_clear_da8c8 2 = .ok (.getfield 63, 3) := by decide +kernel
theorem dJx4a65c_clear_da8c8_5 : decode cJx4a65c_clear_da8c8 5 = .ok (.iconst 1, 1) := by decide +kernel
theorem dJx4a65c_clear_da8c8_6 : decode cJx4a65c_clear_da8c8 6 = .ok (.iadd, 1) := by decide +kernel
theorem dJx4a65c_clear_da8c8_7 : decode cJx4a65c_clear_da8c8 7 = .ok (.putfield 63, 3) := by decide +kernel
theorem dJx4a65c_clear_da8c8_10 : decode cJx4a65c_clear_da8c8 10 = .ok (.aload_n 0, 1) := by decide +kernel
theorem dJx4a65c_clear_da8c8_11 : decode cJx4a65c_clear_da8c8 11 = .ok (.getfield 9, 3) := by decide +kernel
theorem dJx4a65c_clear_da8c8_14 : decode cJx4a65c_clear_da8c8 14 = .ok (.astore_n 1, 1) := by decide +kernel
theorem dJx4a65c_clear_da8c8_15 : decode cJx4a65c_clear_da8c8 15 = .ok (.aload_n 0, 1) := by decide +kernel
theorem dJx4a65c_clear_da8c8_16 : decode cJx4a65c_clear_da8c8 16 = .ok (.getfield 48, 3) := by decide +kernel
theorem dJx4a65c_clear_da8c8_19 : decode cJx4a65c_clear_da8c8 19 = .ok (.istore_n 2, 1) := by decide +kernel
theorem dJx4a65c_clear_da8c8_20 : decode cJx4a65c_clear_da8c8 20 = .ok (.aload_n 0, 1) := by decide +kernel
theorem dJx4a65c_clear_da8c8_21 : decode cJx4a65c_clear_da8c8 21 = .ok (.iconst 0, 1) := by decide +kernel
theorem dJx4a65c_clear_da8c8_22 : decode cJx4a65c_clear_da8c8 22 = .ok (.dup_x1, 1) := by decide +kernel
theorem dJx4a65c_clear_da8c8_23 : decode cJx4a65c_clear_da8c8 23 = .ok (.putfield 48, 3) := by decide +kernel
theorem dJx4a65c_clear_da8c8_26 : decode cJx4a65c_clear_da8c8 26 = .ok (.istore_n 3, 1) := by decide +kernel
theorem dJx4a65c_clear_da8c8_27 : decode cJx4a65c_clear_da8c8 27 = .ok (.iload_n 3, 1) := by decide +kernel
theorem dJx4a65c_clear_da8c8_28 : decode cJx4a65c_clear_da8c8 28 = .ok (.iload_n 2, 1) := by decide +kernel
theorem dJx4a65c_clear_da8c8_29 : decode cJx4a65c_clear_da8c8 29 = .ok (.if_icmp .ge 13, 3) := by decide +kernel
theorem dJx4a65c_clear_da8c8_32 : decode cJx4a65c_clear_da8c8 32 = .ok (.aload_n 1, 1) := by decide +kernel
theorem dJx4a65c_clear_da8c8_33 : decode cJx4a65c_clear_da8c8 33 = .ok (.iload_n 3, 1) := by decide +kernel
theorem dJx4a65c_clear_da8c8_34 : decode cJx4a65c_clear_da8c8 34 = .ok (.aconst_null, 1) := by decide +kernel
theorem dJx4a65c_clear_da8c8_35 : decode cJx4a65c_clear_da8c8 35 = .ok (.aastore, 1) := by decide +kernel
theorem dJx4a65c_clear_da8c8_36 : decode cJx4a65c_clear_da8c8 36 = .ok (.iinc 3 1, 3) := by decide +kernel
theorem dJx4a65c_clear_da8c8_39 : decode cJx4a65c_clear_da8c8 39 = .ok (.goto (-12), 3) := by decide +kernel
theorem dJx4a65c_clear_da8c8_42 : decode cJx4a65c_clear_da8c8 42 = .ok (.return_, 1) := by decide +kernel
theorem dJx4a65c_rangeCheckForAdd_d00df_0 : decode cJx4a65c_rangeCheckForAdd_d00df 0 = .ok (.iload_n 1, 1) := by decide +kernel
theorem dJx4a65c_rangeCheckForAdd_d00df_1 : decode cJx4a65c_rangeCheckForAdd_d00df 1 = .ok (.aload_n 0, 1) := by decide +kernel
theorem dJx4a65c_rangeCheckForAdd_d00df_2 : decode cJx4a65c_rangeCheckForAdd_d00df 2 = .ok (.getfield 48, 3) := by decide +kernel
theorem dJx4a65c_rangeCheckForAdd_d00df_5 : decode cJx4a65c_rangeCheckForAdd_d00df 5 = .ok (.if_icmp .gt 7, 3) := by decide +kernel
theorem dJx4a65c_rangeCheckForAdd_d00df_8 : decode cJx4a65c_rangeCheckForAdd_d00df 8 = .ok (.iload_n 1, 1) := by decide +kernel
theorem dJx4a65c_rangeCheckForAdd_d00df_9 : decode cJx4a65c_rangeCheckForAdd_d00df 9 = .ok (.ifCond .ge 16, 3) := by decide +kernel
theorem dJx4a65c_rangeCheckForAdd_d00df_12 : decode cJx4a65c_rangeCheckForAdd_d00df 12 = .ok (.new 187, 3) := by decide +kernel
theorem dJx4a65c_rangeCheckForAdd_d00df_15 : decode cJx4a65c_rangeCheckForAdd_d00df 15 = .ok (.dup, 1) := by decide +kernel
theorem dJx4a65c_rangeCheckForAdd_d00df_16 : decode cJx4a65c_rangeCheckForAdd_d00df 16 = .ok (.aload_n 0, 1) := by decide +kernel
theorem dJx4a65c_rangeCheckForAdd_d00df_17 : decode cJx4a65c_rangeCheckForAdd_d00df 17 = .ok (.iload_n 1, 1) := by decide +kernel
theorem dJx4a65c_rangeCheckForAdd_d00df_18 : decode cJx4a65c_rangeCheckForAdd_d00df 18 = .ok (.invokevirtual 198, 3) := by decide +kernel
theorem dJx4a65c_rangeCheckForAdd_d00df_21 : decode cJx4a65c_rangeCheckForAdd_d00df 21 = .ok (.invokespecial 193, 3) := by decide +kernel
theorem dJx4a65c_rangeCheckForAdd_d00df_24 : decode cJx4a65c_rangeCheckForAdd_d00df 24 = .ok (.athrow, 1) := by decide +kernel
theorem dJx4a65c_rangeCheckForAdd_d00df_25 : decode cJx4a65c_rangeCheckForAdd_d00df 25 = .ok (.return_, 1) := by decide +kernel
theorem dJ7_copyOf_1904c_0 : decode cJ7_copyOf_1904c 0 = .ok (.aload_n 0, 1) := by decide +kernel
theorem dJ7_copyOf_1904c_1 : decode cJ7_copyOf_1904c 1 = .ok (.iload_n 1, 1) := by decide +kernel
theorem dJ7_copyOf_1904c_2 : decode cJ7_copyOf_1904c 2 = .ok (.aload_n 0, 1) := by decide +kernel
theorem dJ7_copyOf_1904c_3 : decode cJ7_copyOf_1904c 3 = .ok (.invokevirtual 86, 3) := by decide +kernel
theorem dJ7_copyOf_1904c_6 : decode cJ7_copyOf_1904c 6 = .ok (.invokestatic 300, 3) := by decide +kernel
theorem dJ7_copyOf_1904c_9 : decode cJ7_copyOf_1904c 9 = .ok (.areturn, 1) := by decide +kernel
theorem dJ7_copyOf_6403c_0 : decode cJ7_copyOf_6403c 0 = .ok (.aload_n 2, 1) := by decide +kernel
theorem dJ7_copyOf_6403c_1 : decode cJ7_copyOf_6403c 1 = .ok (.ldc 110, 2) := by decide +kernel
theorem dJ7_copyOf_6403c_3 : decode cJ7_copyOf_6403c 3 = .ok (.if_acmp .ne 10, 3) := by decide +kernel
theorem dJ7_copyOf_6403c_6 : decode cJ7_copyOf_6403c 6 = .ok (.iload_n 1, 1) := by decide +kernel
theorem dJ7_copyOf_6403c_7 : decode cJ7_copyOf_6403c 7 = .ok (.anewarray 2, 3) := by decide +kernel
theorem dJ7_copyOf_6403c_10 : decode cJ7_copyOf_6403c 10 = .ok (.goto 14, 3) := by decide +kernel
theorem dJ7_copyOf_6403c_13 : decode cJ7_copyOf_6403c 13 = .ok (.aload_n 2, 1) := by decide +kernel
theorem dJ7_copyOf_6403c_14 : decode cJ7_copyOf_6403c 14 = .ok (.invokevirtual 90, 3) := by decide +kernel
theorem dJ7_copyOf_6403c_17 : decode cJ7_copyOf_6403c 17 = .ok (.iload_n 1, 1) := by decide +kernel
theorem dJ7_copyOf_6403c_18 : decode cJ7_copyOf_6403c 18 = .ok (.invokestatic 95, 3) := by decide +kernel
theorem dJ7_copyOf_6403c_21 : decode cJ7_copyOf_6403c 21 = .ok (.checkcast 110, 3) := by decide +kernel
theorem dJ7_copyOf_6403c_24 : decode cJ7_copyOf_6403c 24 = .ok (.astore_n 3, 1) := by decide +kernel
theorem dJ7_copyOf_6403c_25 : decode cJ7_copyOf_6403c 25 = .ok (.aload_n 0, 1) := by decide +kernel
theorem dJ7_copyOf_6403c_26 : decode cJ7_copyOf_6403c 26 = .ok (.iconst 0, 1) := by decide +kernel
theorem dJ7_copyOf_6403c_27 : decode cJ7_copyOf_6403c 27 = .ok (.aload_n 3, 1) := by decide +kernel
theorem dJ7_copyOf_6403c_28 : decode cJ7_copyOf_6403c 28 = .ok (.iconst 0, 1) := by decide +kernel
theorem dJ7_copyOf_6403c_29 : decode cJ7_copyOf_6403c 29 = .ok (.aload_n 0, 1) := by decide +kernel
theorem dJ7_copyOf_6403c_30 : decode cJ7_copyOf_6403c 30 = .ok (.arraylength, 1) := by decide +kernel
theorem dJ7_copyOf_6403c_31 : decode cJ7_copyOf_6403c 31 = .ok (.iload_n 1, 1) := by decide +kernel
theorem dJ7_copyOf_6403c_32 : decode cJ7_copyOf_6403c 32 = .ok (.invokestatic 304, 3) := by decide +kernel
theorem dJ7_copyOf_6403c_35 : decode cJ7_copyOf_6403c 35 = .ok (.invokestatic 150, 3) := by decide +kernel
theorem dJ7_copyOf_6403c_38 : decode cJ7_copyOf_6403c 38 = .ok (.aload_n 3, 1) := by decide +kernel
theorem dJ7_copyOf_6403c_39 : decode cJ7_copyOf_6403c 39 = .ok (.areturn, 1) := by decide +kernel
theorem dJ15_checkIndex_7cf53_0 : decode cJ15_checkIndex_7cf53 0 = .ok (.iload_n 0, 1) := by decide +kernel
theorem dJ15_checkIndex_7cf53_1 : decode cJ15_checkIndex_7cf53 1 = .ok (.iload_n 1, 1) := by decide +kernel
theorem dJ15_checkIndex_7cf53_2 : decode cJ15_checkIndex_7cf53 2 = .ok (.aconst_null, 1) := by decide +kernel
theorem dJ15_checkIndex_7cf53_3 : decode cJ15_checkIndex_7cf53 3 = .ok (.invokestatic 105, 3) := by decide +kernel
theorem dJ15_checkIndex_7cf53_6 : decode cJ15_checkIndex_7cf53 6 = .ok (.ireturn, 1) := by decide +kernel
theorem dJ8_newLength_cabcc_0 : decode cJ8_newLength_cabcc 0 = .ok (.iload_n 0, 1) := by decide +kernel
theorem dJ8_newLength_cabcc_1 : decode cJ8_newLength_cabcc 1 = .ok (.iload_n 1, 1) := by decide +kernel
theorem dJ8_newLength_cabcc_2 : decode cJ8_newLength_cabcc 2 = .ok (.iload_n 2, 1) := by decide +kernel
theorem dJ8_newLength_cabcc_3 : decode cJ8_newLength_cabcc 3 = .ok (.invokestatic 194, 3) := by decide +kernel
theorem dJ8_newLength_cabcc_6 : decode cJ8_newLength_cabcc 6 = .ok (.iadd, 1) := by decide +kernel
theorem dJ8_newLength_cabcc_7 : decode cJ8_newLength_cabcc 7 = .ok (.istore_n 3, 1) := by decide +kernel
theorem dJ8_newLength_cabcc_8 : decode cJ8_newLength_cabcc 8 = .ok (.iconst 0, 1) := by decide +kernel
theorem dJ8_newLength_cabcc_9 : decode cJ8_newLength_cabcc 9 = .ok (.iload_n 3, 1) := by decide +kernel
theorem dJ8_newLength_cabcc_10 : decode cJ8_newLength_cabcc 10 = .ok (.if_icmp .ge 11, 3) := by decide +kernel
theorem dJ8_newLength_cabcc_13 : decode cJ8_newLength_cabcc 13 = .ok (.iload_n 3, 1) := by decide +kernel
theorem dJ8_newLength_cabcc_14 : decode cJ8_newLength_cabcc 14 = .ok (.ldc 200, 2) := by decide +kernel
theorem dJ8_newLength_cabcc_16 : decode cJ8_newLength_cabcc 16 = .ok (.if_icmp .gt 5, 3) := by decide +kernel
theorem dJ8_newLength_cabcc_19 : decode cJ8_newLength_cabcc 19 = .ok (.iload_n 3, 1) := by decide +kernel
theorem dJ8_newLength_cabcc_20 : decode cJ8_newLength_cabcc 20 = .ok (.ireturn, 1) := by decide +kernel
theorem dJ8_newLength_cabcc_21 : decode cJ8_newLength_cabcc 21 = .ok (.iload_n 0, 1) := by decide +kernel
theorem dJ8_newLength_cabcc_22 : decode cJ8_newLength_cabcc 22 = .ok (.iload_n 1, 1) := by decide +kernel
theorem dJ8_newLength_cabcc_23 : decode cJ8_newLength_cabcc 23 = .ok (.invokestatic 201, 3) := by decide +kernel
theorem dJ8_newLength_cabcc_26 : decode cJ8_newLength_cabcc 26 = .ok (.ireturn, 1) := by decide +kernel
theorem dJ8_hugeLength_7cf53_0 : decode cJ8_hugeLength_7cf53 0 = .ok (.iload_n 0, 1) := by decide +kernel
theorem dJ8_hugeLength_7cf53_1 : decode cJ8_hugeLength_7cf53 1 = .ok (.iload_n 1, 1) := by decide +kernel
theorem dJ8_hugeLength_7cf53_2 : decode cJ8_hugeLength_7cf53 2 = .ok (.iadd, 1) := by decide +kernel
theorem dJ8_hugeLength_7cf53_3 : decode cJ8_hugeLength_7cf53 3 = .ok (.istore_n 2, 1) := by decide +kernel
theorem dJ8_hugeLength_7cf53_4 : decode cJ8_hugeLength_7cf53 4 = .ok (.iload_n 2, 1) := by decide +kernel
theorem dJ8_hugeLength_7cf53_5 : decode cJ8_hugeLength_7cf53 5 = .ok (.ifCond .ge 44, 3) := by decide +kernel
theorem dJ8_hugeLength_7cf53_8 : decode cJ8_hugeLength_7cf53 8 = .ok (.new 204, 3) := by decide +kernel
theorem dJ8_hugeLength_7cf53_11 : decode cJ8_hugeLength_7cf53 11 = .ok (.dup, 1) := by decide +kernel
theorem dJ8_hugeLength_7cf53_12 : decode cJ8_hugeLength_7cf53 12 = .ok (.new 89, 3) := by decide +kernel
theorem dJ8_hugeLength_7cf53_15 : decode cJ8_hugeLength_7cf53 15 = .ok (.dup, 1) := by decide +kernel
theorem dJ8_hugeLength_7cf53_16 : decode cJ8_hugeLength_7cf53 16 = .ok (.invokespecial 91, 3) := by decide +kernel
theorem dJ8_hugeLength_7cf53_19 : decode cJ8_hugeLength_7cf53 19 = .ok (.ldc 206, 2) := by decide +kernel
theorem dJ8_hugeLength_7cf53_21 : decode cJ8_hugeLength_7cf53 21 = .ok (.invokevirtual 94, 3) := by decide +kernel
theorem dJ8_hugeLength_7cf53_24 : decode cJ8_hugeLength_7cf53 24 = .ok (.iload_n 0, 1) := by decide +kernel
theorem dJ8_hugeLength_7cf53_25 : decode cJ8_hugeLength_7cf53 25 = .ok (.invokevirtual 98, 3) := by decide +kernel
theorem dJ8_hugeLength_7cf53_28 : decode cJ8_hugeLength_7cf53 28 = .ok (.ldc 208, 2) := by decide +kernel
theorem dJ8_hugeLength_7cf53_30 : decode cJ8_hugeLength_7cf53 30 = .ok (.invokevirtual 94, 3) := by decide +kernel
theorem dJ8_hugeLength_7cf53_33 : decode cJ8_hugeLength_7cf53 33 = .ok (.iload_n 1, 1) := by decide +kernel
theorem dJ8_hugeLength_7cf53_34 : decode cJ8_hugeLength_7cf53 34 = .ok (.invokevirtual 98, 3) := by decide +kernel
theorem dJ8_hugeLength_7cf53_37 : decode cJ8_hugeLength_7cf53 37 = .ok (.ldc 210, 2) := by decide +kernel
theorem dJ8_hugeLength_7cf53_39 : decode cJ8_hugeLength_7cf53 39 = .ok (.invokevirtual 94, 3) := by decide +kernel
theorem dJ8_hugeLength_7cf53_42 : decode cJ8_hugeLength_7cf53 42 = .ok (.invokevirtual 101, 3) := by decide +kernel
theorem dJ8_hugeLength_7cf53_45 : decode cJ8_hugeLength_7cf53 45 = .ok (.invokespecial 212, 3) := by decide +kernel
theorem dJ8_hugeLength_7cf53_48 : decode cJ8_hugeLength_7cf53 48 = .ok (.athrow, 1) := by decide +kernel
theorem dJ8_hugeLength_7cf53_49 : decode cJ8_hugeLength_7cf53 49 = .ok (.iload_n 2, 1) := by decide +kernel
theorem dJ8_hugeLength_7cf53_50 : decode cJ8_hugeLength_7cf53 50 = .ok (.ldc 200, 2) := by decide +kernel
theorem dJ8_hugeLength_7cf53_52 : decode cJ8_hugeLength_7cf53 52 = .ok (.if_icmp .gt 6, 3) := by decide +kernel
theorem dJ8_hugeLength_7cf53_55 : decode cJ8_hugeLength_7cf53 55 = .ok (.ldc 200, 2) := by decide +kernel
theorem dJ8_hugeLength_7cf53_57 : decode cJ8_hugeLength_7cf53 57 = .ok (.ireturn, 1) := by decide +kernel
theorem dJ8_hugeLength_7cf53_58 : decode cJ8_hugeLength_7cf53 58 = .ok (.iload_n 2, 1) := by decide +kernel
theorem dJ8_hugeLength_7cf53_59 : decode cJ8_hugeLength_7cf53 59 = .ok (.ireturn, 1) := by decide +kernel
theorem dJ3_checkIndex_8e157_0 : decode cJ3_checkIndex_8e157 0 = .ok (.iload_n 0, 1) := by decide +kernel
theorem dJ3_checkIndex_8e157_1 : decode cJ3_checkIndex_8e157 1 = .ok (.ifCond .lt 8, 3) := by decide +kernel
theorem dJ3_checkIndex_8e157_4 : decode cJ3_checkIndex_8e157 4 = .ok (.iload_n 0, 1) := by decide +kernel
theorem dJ3_checkIndex_8e157_5 : decode cJ3_checkIndex_8e157 5 = .ok (.iload_n 1, 1) := by decide +kernel
theorem dJ3_checkIndex_8e157_6 : decode cJ3_checkIndex_8e157 6 = .ok (.if_icmp .lt 10, 3) := by decide +kernel
theorem dJ3_checkIndex_8e157_9 : decode cJ3_checkIndex_8e157 9 = .ok (.aload_n 2, 1) := by decide +kernel
theorem dJ3_checkIndex_8e157_10 : decode cJ3_checkIndex_8e157 10 = .ok (.iload_n 0, 1) := by decide +kernel
theorem dJ3_checkIndex_8e157_11 : decode cJ3_checkIndex_8e157 11 = .ok (.iload_n 1, 1) := by decide +kernel
theorem dJ3_checkIndex_8e157_12 : decode cJ3_checkIndex_8e157 12 = .ok (.invokestatic 95, 3) := by decide +kernel
theorem dJ3_checkIndex_8e157_15 : decode cJ3_checkIndex_8e157 15 = .ok (.athrow, 1) := by decide +kernel
theorem dJ3_checkIndex_8e157_16 : decode cJ3_checkIndex_8e157 16 = .ok (.iload_n 0, 1) := by decide +kernel
theorem dJ3_checkIndex_8e157_17 : decode cJ3_checkIndex_8e157 17 = .ok (.ireturn, 1) := by decide +kernel
theorem dL_cell_0 : decode cL_cell 0 = .ok (.iload_n 1, 1) := by decide +kernel
theorem dL_cell_1 : decode cL_cell 1 = .ok (.aload_n 0, 1) := by decide +kernel
theorem dL_cell_2 : decode cL_cell 2 = .ok (.arraylength, 1) := by decide +kernel
theorem dL_cell_3 : decode cL_cell 3 = .ok (.if_icmp .ge 9, 3) := by decide +kernel
theorem dL_cell_6 : decode cL_cell 6 = .ok (.aload_n 0, 1) := by decide +kernel
theorem dL_cell_7 : decode cL_cell 7 = .ok (.iload_n 1, 1) := by decide +kernel
theorem dL_cell_8 : decode cL_cell 8 = .ok (.iaload, 1) := by decide +kernel
theorem dL_cell_9 : decode cL_cell 9 = .ok (.goto 15, 3) := by decide +kernel
theorem dL_cell_12 : decode cL_cell 12 = .ok (.sipush 7919, 3) := by decide +kernel
theorem dL_cell_15 : decode cL_cell 15 = .ok (.iload_n 1, 1) := by decide +kernel
theorem dL_cell_16 : decode cL_cell 16 = .ok (.iconst 3, 1) := by decide +kernel
theorem dL_cell_17 : decode cL_cell 17 = .ok (.iadd, 1) := by decide +kernel
theorem dL_cell_18 : decode cL_cell 18 = .ok (.imul, 1) := by decide +kernel
theorem dL_cell_19 : decode cL_cell 19 = .ok (.iload_n 1, 1) := by decide +kernel
theorem dL_cell_20 : decode cL_cell 20 = .ok (.bipush 11, 2) := by decide +kernel
theorem dL_cell_22 : decode cL_cell 22 = .ok (.iadd, 1) := by decide +kernel
theorem dL_cell_23 : decode cL_cell 23 = .ok (.imul, 1) := by decide +kernel
theorem dL_cell_24 : decode cL_cell 24 = .ok (.ireturn, 1) := by decide +kernel
theorem dL_low_0 : decode cL_low 0 = .ok (.iload_n 0, 1) := by decide +kernel
theorem dL_low_1 : decode cL_low 1 = .ok (.ldc 7, 2) := by decide +kernel
theorem dL_low_3 : decode cL_low 3 = .ok (.iand, 1) := by decide +kernel
theorem dL_low_4 : decode cL_low 4 = .ok (.iload_n 1, 1) := by decide +kernel
theorem dL_low_5 : decode cL_low 5 = .ok (.irem, 1) := by decide +kernel
theorem dL_low_6 : decode cL_low 6 = .ok (.ireturn, 1) := by decide +kernel
theorem dL_areTimes_0 : decode cL_areTimes 0 = .ok (.iconst 0, 1) := by decide +kernel
theorem dL_areTimes_1 : decode cL_areTimes 1 = .ok (.istore 6, 2) := by decide +kernel
theorem dL_areTimes_3 : decode cL_areTimes 3 = .ok (.iconst 0, 1) := by decide +kernel
theorem dL_areTimes_4 : decode cL_areTimes 4 = .ok (.istore 7, 2) := by decide +kernel
theorem dL_areTimes_6 : decode cL_areTimes 6 = .ok (.iconst 1, 1) := by decide +kernel
theorem dL_areTimes_7 : decode cL_areTimes 7 = .ok (.istore 8, 2) := by decide +kernel
theorem dL_areTimes_9 : decode cL_areTimes 9 = .ok (.iconst 0, 1) := by decide +kernel
theorem dL_areTimes_10 : decode cL_areTimes 10 = .ok (.istore 9, 2) := by decide +kernel
theorem dL_areTimes_12 : decode cL_areTimes 12 = .ok (.iload 9, 2) := by decide +kernel
theorem dL_areTimes_14 : decode cL_areTimes 14 = .ok (.iload 5, 2) := by decide +kernel
theorem dL_areTimes_16 : decode cL_areTimes 16 = .ok (.if_icmp .ge 173, 3) := by decide +kernel
theorem dL_areTimes_19 : decode cL_areTimes 19 = .ok (.iconst 0, 1) := by decide +kernel
theorem dL_areTimes_20 : decode cL_areTimes 20 = .ok (.istore 10, 2) := by decide +kernel
theorem dL_areTimes_22 : decode cL_areTimes 22 = .ok (.iconst 0, 1) := by decide +kernel
theorem dL_areTimes_23 : decode cL_areTimes 23 = .ok (.istore 11, 2) := by decide +kernel
theorem dL_areTimes_25 : decode cL_areTimes 25 = .ok (.iload 11, 2) := by decide +kernel
theorem dL_areTimes_27 : decode cL_areTimes 27 = .ok (.aload_n 1, 1) := by decide +kernel
theorem dL_areTimes_28 : decode cL_areTimes 28 = .ok (.iload 9, 2) := by decide +kernel
theorem dL_areTimes_30 : decode cL_areTimes 30 = .ok (.iaload, 1) := by decide +kernel
theorem dL_areTimes_31 : decode cL_areTimes 31 = .ok (.if_icmp .ge 104, 3) := by decide +kernel
theorem dL_areTimes_34 : decode cL_areTimes 34 = .ok (.aload_n 2, 1) := by decide +kernel
theorem dL_areTimes_35 : decode cL_areTimes 35 = .ok (.iload 9, 2) := by decide +kernel
theorem dL_areTimes_37 : decode cL_areTimes 37 = .ok (.iaload, 1) := by decide +kernel
theorem dL_areTimes_38 : decode cL_areTimes 38 = .ok (.iconst 1, 1) := by decide +kernel
theorem dL_areTimes_39 : decode cL_areTimes 39 = .ok (.if_icmp .ne 96, 3) := by decide +kernel
theorem dL_areTimes_42 : decode cL_areTimes 42 = .ok (.iload 8, 2) := by decide +kernel
theorem dL_areTimes_44 : decode cL_areTimes 44 = .ok (.ifCond .eq 91, 3) := by decide +kernel
theorem dL_areTimes_47 : decode cL_areTimes 47 = .ok (.aload_n 0, 1) := by decide +kernel
theorem dL_areTimes_48 : decode cL_areTimes 48 = .ok (.iload 9, 2) := by decide +kernel
theorem dL_areTimes_50 : decode cL_areTimes 50 = .ok (.iload 11, 2) := by decide +kernel
theorem dL_areTimes_52 : decode cL_areTimes 52 = .ok (.invokevirtual 8, 3) := by decide +kernel
theorem dL_areTimes_55 : decode cL_areTimes 55 = .ok (.istore 12, 2) := by decide +kernel
theorem dL_areTimes_57 : decode cL_areTimes 57 = .ok (.iload 12, 2) := by decide +kernel
theorem dL_areTimes_59 : decode cL_areTimes 59 = .ok (.iload 10, 2) := by decide +kernel
theorem dL_areTimes_61 : decode cL_areTimes 61 = .ok (.if_icmp .lt 31, 3) := by decide +kernel
theorem dL_areTimes_64 : decode cL_areTimes 64 = .ok (.aload_n 0, 1) := by decide +kernel
theorem dL_areTimes_65 : decode cL_areTimes 65 = .ok (.iload 9, 2) := by decide +kernel
theorem dL_areTimes_67 : decode cL_areTimes 67 = .ok (.iload 11, 2) := by decide +kernel
theorem dL_areTimes_69 : decode cL_areTimes 69 = .ok (.invokevirtual 14, 3) := by decide +kernel
theorem dL_areTimes_72 : decode cL_areTimes 72 = .ok (.iload 12, 2) := by decide +kernel
theorem dL_areTimes_74 : decode cL_areTimes 74 = .ok (.if_icmp .ne 18, 3) := by decide +kernel
theorem dL_areTimes_77 : decode cL_areTimes 77 = .ok (.aload_n 0, 1) := by decide +kernel
theorem dL_areTimes_78 : decode cL_areTimes 78 = .ok (.iload 9, 2) := by decide +kernel
theorem dL_areTimes_80 : decode cL_areTimes 80 = .ok (.iload 11, 2) := by decide +kernel
theorem dL_areTimes_82 : decode cL_areTimes 82 = .ok (.invokevirtual 17, 3) := by decide +kernel
theorem dL_areTimes_85 : decode cL_areTimes 85 = .ok (.ifCond .lt 7, 3) := by decide +kernel
theorem dL_areTimes_88 : decode cL_areTimes 88 = .ok (.iconst 1, 1) := by decide +kernel
theorem dL_areTimes_89 : decode cL_areTimes 89 = .ok (.goto 4, 3) := by decide +kernel
theorem dL_areTimes_92 : decode cL_areTimes 92 = .ok (.iconst 0, 1) := by decide +kernel
theorem dL_areTimes_93 : decode cL_areTimes 93 = .ok (.istore 8, 2) := by decide +kernel
theorem dL_areTimes_95 : decode cL_areTimes 95 = .ok (.iload 12, 2) := by decide +kernel
theorem dL_areTimes_97 : decode cL_areTimes 97 = .ok (.aload 4, 2) := by decide +kernel
theorem dL_areTimes_99 : decode cL_areTimes 99 = .ok (.iconst 4, 1) := by decide +kernel
theorem dL_areTimes_100 : decode cL_areTimes 100 = .ok (.iload 9, 2) := by decide +kernel
theorem dL_areTimes_102 : decode cL_areTimes 102 = .ok (.imul, 1) := by decide +kernel
theorem dL_areTimes_103 : decode cL_areTimes 103 = .ok (.iload 11, 2) := by decide +kernel
theorem dL_areTimes_105 : decode cL_areTimes 105 = .ok (.iadd, 1) := by decide +kernel
theorem dL_areTimes_106 : decode cL_areTimes 106 = .ok (.iaload, 1) := by decide +kernel
theorem dL_areTimes_107 : decode cL_areTimes 107 = .ok (.iadd, 1) := by decide +kernel
theorem dL_areTimes_108 : decode cL_areTimes 108 = .ok (.istore 10, 2) := by decide +kernel
theorem dL_areTimes_110 : decode cL_areTimes 110 = .ok (.iload 10, 2) := by decide +kernel
theorem dL_areTimes_112 : decode cL_areTimes 112 = .ok (.iload 6, 2) := by decide +kernel
theorem dL_areTimes_114 : decode cL_areTimes 114 = .ok (.if_icmp .le 8, 3) := by decide +kernel
theorem dL_areTimes_117 : decode cL_areTimes 117 = .ok (.iload 10, 2) := by decide +kernel
theorem dL_areTimes_119 : decode cL_areTimes 119 = .ok (.goto 5, 3) := by decide +kernel
theorem dL_areTimes_122 : decode cL_areTimes 122 = .ok (.iload 6, 2) := by decide +kernel
theorem dL_areTimes_124 : decode cL_areTimes 124 = .ok (.istore 6, 2) := by decide +kernel
theorem dL_areTimes_126 : decode cL_areTimes 126 = .ok (.iinc 7 1, 3) := by decide +kernel
theorem dL_areTimes_129 : decode cL_areTimes 129 = .ok (.iinc 11 1, 3) := by decide +kernel
theorem dL_areTimes_132 : decode cL_areTimes 132 = .ok (.goto (-107), 3) := by decide +kernel
theorem dL_areTimes_135 : decode cL_areTimes 135 = .ok (.iload 8, 2) := by decide +kernel
theorem dL_areTimes_137 : decode cL_areTimes 137 = .ok (.ifCond .eq 43, 3) := by decide +kernel
theorem dL_areTimes_140 : decode cL_areTimes 140 = .ok (.aload_n 2, 1) := by decide +kernel
theorem dL_areTimes_141 : decode cL_areTimes 141 = .ok (.iload 9, 2) := by decide +kernel
theorem dL_areTimes_143 : decode cL_areTimes 143 = .ok (.iaload, 1) := by decide +kernel
theorem dL_areTimes_144 : decode cL_areTimes 144 = .ok (.ifCond .eq 32, 3) := by decide +kernel
theorem dL_areTimes_147 : decode cL_areTimes 147 = .ok (.aload_n 0, 1) := by decide +kernel
theorem dL_areTimes_148 : decode cL_areTimes 148 = .ok (.iload 9, 2) := by decide +kernel
theorem dL_areTimes_150 : decode cL_areTimes 150 = .ok (.invokevirtual 20, 3) := by decide +kernel
theorem dL_areTimes_153 : decode cL_areTimes 153 = .ok (.iload 10, 2) := by decide +kernel
theorem dL_areTimes_155 : decode cL_areTimes 155 = .ok (.aload_n 3, 1) := by decide +kernel
theorem dL_areTimes_156 : decode cL_areTimes 156 = .ok (.iload 9, 2) := by decide +kernel
theorem dL_areTimes_158 : decode cL_areTimes 158 = .ok (.iaload, 1) := by decide +kernel
theorem dL_areTimes_159 : decode cL_areTimes 159 = .ok (.if_icmp .le 13, 3) := by decide +kernel
theorem dL_areTimes_162 : decode cL_areTimes 162 = .ok (.iload 10, 2) := by decide +kernel
theorem dL_areTimes_164 : decode cL_areTimes 164 = .ok (.aload_n 3, 1) := by decide +kernel
theorem dL_areTimes_165 : decode cL_areTimes 165 = .ok (.iload 9, 2) := by decide +kernel
theorem dL_areTimes_167 : decode cL_areTimes 167 = .ok (.iaload, 1) := by decide +kernel
theorem dL_areTimes_168 : decode cL_areTimes 168 = .ok (.isub, 1) := by decide +kernel
theorem dL_areTimes_169 : decode cL_areTimes 169 = .ok (.goto 4, 3) := by decide +kernel
theorem dL_areTimes_172 : decode cL_areTimes 172 = .ok (.iconst 0, 1) := by decide +kernel
theorem dL_areTimes_173 : decode cL_areTimes 173 = .ok (.if_icmp .ne 7, 3) := by decide +kernel
theorem dL_areTimes_176 : decode cL_areTimes 176 = .ok (.iconst 1, 1) := by decide +kernel
theorem dL_areTimes_177 : decode cL_areTimes 177 = .ok (.goto 4, 3) := by decide +kernel
theorem dL_areTimes_180 : decode cL_areTimes 180 = .ok (.iconst 0, 1) := by decide +kernel
theorem dL_areTimes_181 : decode cL_areTimes 181 = .ok (.istore 8, 2) := by decide +kernel
theorem dL_areTimes_183 : decode cL_areTimes 183 = .ok (.iinc 9 1, 3) := by decide +kernel
theorem dL_areTimes_186 : decode cL_areTimes 186 = .ok (.goto (-174), 3) := by decide +kernel
theorem dL_areTimes_189 : decode cL_areTimes 189 = .ok (.iload 8, 2) := by decide +kernel
theorem dL_areTimes_191 : decode cL_areTimes 191 = .ok (.ifCond .eq 29, 3) := by decide +kernel
theorem dL_areTimes_194 : decode cL_areTimes 194 = .ok (.aload_n 0, 1) := by decide +kernel
theorem dL_areTimes_195 : decode cL_areTimes 195 = .ok (.invokevirtual 24, 3) := by decide +kernel
theorem dL_areTimes_198 : decode cL_areTimes 198 = .ok (.iload 6, 2) := by decide +kernel
theorem dL_areTimes_200 : decode cL_areTimes 200 = .ok (.if_icmp .ne 20, 3) := by decide +kernel
theorem dL_areTimes_203 : decode cL_areTimes 203 = .ok (.aload_n 0, 1) := by decide +kernel
theorem dL_areTimes_204 : decode cL_areTimes 204 = .ok (.aload 4, 2) := by decide +kernel
theorem dL_areTimes_206 : decode cL_areTimes 206 = .ok (.iload 6, 2) := by decide +kernel
theorem dL_areTimes_208 : decode cL_areTimes 208 = .ok (.iload 7, 2) := by decide +kernel
theorem dL_areTimes_210 : decode cL_areTimes 210 = .ok (.invokestatic 28, 3) := by decide +kernel
theorem dL_areTimes_213 : decode cL_areTimes 213 = .ok (.ifCond .eq 7, 3) := by decide +kernel
theorem dL_areTimes_216 : decode cL_areTimes 216 = .ok (.iconst 1, 1) := by decide +kernel
theorem dL_areTimes_217 : decode cL_areTimes 217 = .ok (.goto 4, 3) := by decide +kernel
theorem dL_areTimes_220 : decode cL_areTimes 220 = .ok (.iconst 0, 1) := by decide +kernel
theorem dL_areTimes_221 : decode cL_areTimes 221 = .ok (.ireturn, 1) := by decide +kernel
theorem dL_isPath_0 : decode cL_isPath 0 = .ok (.aload_n 0, 1) := by decide +kernel
theorem dL_isPath_1 : decode cL_isPath 1 = .ok (.invokevirtual 34, 3) := by decide +kernel
theorem dL_isPath_4 : decode cL_isPath 4 = .ok (.istore 4, 2) := by decide +kernel
theorem dL_isPath_6 : decode cL_isPath 6 = .ok (.iconst (-1), 1) := by decide +kernel
theorem dL_isPath_7 : decode cL_isPath 7 = .ok (.istore 5, 2) := by decide +kernel
theorem dL_isPath_9 : decode cL_isPath 9 = .ok (.iload 4, 2) := by decide +kernel
theorem dL_isPath_11 : decode cL_isPath 11 = .ok (.iload_n 3, 1) := by decide +kernel
theorem dL_isPath_12 : decode cL_isPath 12 = .ok (.if_icmp .gt 29, 3) := by decide +kernel
theorem dL_isPath_15 : decode cL_isPath 15 = .ok (.iload 4, 2) := by decide +kernel
theorem dL_isPath_17 : decode cL_isPath 17 = .ok (.ifCond .le 7, 3) := by decide +kernel
theorem dL_isPath_20 : decode cL_isPath 20 = .ok (.iconst 1, 1) := by decide +kernel
theorem dL_isPath_21 : decode cL_isPath 21 = .ok (.goto 4, 3) := by decide +kernel
theorem dL_isPath_24 : decode cL_isPath 24 = .ok (.iconst 0, 1) := by decide +kernel
theorem dL_isPath_25 : decode cL_isPath 25 = .ok (.iload_n 3, 1) := by decide +kernel
theorem dL_isPath_26 : decode cL_isPath 26 = .ok (.ifCond .le 7, 3) := by decide +kernel
theorem dL_isPath_29 : decode cL_isPath 29 = .ok (.iconst 1, 1) := by decide +kernel
theorem dL_isPath_30 : decode cL_isPath 30 = .ok (.goto 4, 3) := by decide +kernel
theorem dL_isPath_33 : decode cL_isPath 33 = .ok (.iconst 0, 1) := by decide +kernel
theorem dL_isPath_34 : decode cL_isPath 34 = .ok (.if_icmp .ne 7, 3) := by decide +kernel
theorem dL_isPath_37 : decode cL_isPath 37 = .ok (.iconst 1, 1) := by decide +kernel
theorem dL_isPath_38 : decode cL_isPath 38 = .ok (.goto 4, 3) := by decide +kernel
theorem dL_isPath_41 : decode cL_isPath 41 = .ok (.iconst 0, 1) := by decide +kernel
theorem dL_isPath_42 : decode cL_isPath 42 = .ok (.istore 6, 2) := by decide +kernel
theorem dL_isPath_44 : decode cL_isPath 44 = .ok (.iconst 0, 1) := by decide +kernel
theorem dL_isPath_45 : decode cL_isPath 45 = .ok (.istore 7, 2) := by decide +kernel
theorem dL_isPath_47 : decode cL_isPath 47 = .ok (.iload 7, 2) := by decide +kernel
theorem dL_isPath_49 : decode cL_isPath 49 = .ok (.iload 4, 2) := by decide +kernel
theorem dL_isPath_51 : decode cL_isPath 51 = .ok (.if_icmp .ge 89, 3) := by decide +kernel
theorem dL_isPath_54 : decode cL_isPath 54 = .ok (.iload 6, 2) := by decide +kernel
theorem dL_isPath_56 : decode cL_isPath 56 = .ok (.ifCond .eq 84, 3) := by decide +kernel
theorem dL_isPath_59 : decode cL_isPath 59 = .ok (.aload_n 0, 1) := by decide +kernel
theorem dL_isPath_60 : decode cL_isPath 60 = .ok (.iload 7, 2) := by decide +kernel
theorem dL_isPath_62 : decode cL_isPath 62 = .ok (.invokevirtual 37, 3) := by decide +kernel
theorem dL_isPath_65 : decode cL_isPath 65 = .ok (.istore 8, 2) := by decide +kernel
theorem dL_isPath_67 : decode cL_isPath 67 = .ok (.aload_n 0, 1) := by decide +kernel
theorem dL_isPath_68 : decode cL_isPath 68 = .ok (.iload 8, 2) := by decide +kernel
theorem dL_isPath_70 : decode cL_isPath 70 = .ok (.bipush 10, 2) := by decide +kernel
theorem dL_isPath_72 : decode cL_isPath 72 = .ok (.idiv, 1) := by decide +kernel
theorem dL_isPath_73 : decode cL_isPath 73 = .ok (.iload 8, 2) := by decide +kernel
theorem dL_isPath_75 : decode cL_isPath 75 = .ok (.bipush 10, 2) := by decide +kernel
theorem dL_isPath_77 : decode cL_isPath 77 = .ok (.irem, 1) := by decide +kernel
theorem dL_isPath_78 : decode cL_isPath 78 = .ok (.invokevirtual 8, 3) := by decide +kernel
theorem dL_isPath_81 : decode cL_isPath 81 = .ok (.istore 9, 2) := by decide +kernel
theorem dL_isPath_83 : decode cL_isPath 83 = .ok (.iload 9, 2) := by decide +kernel
theorem dL_isPath_85 : decode cL_isPath 85 = .ok (.iload 5, 2) := by decide +kernel
theorem dL_isPath_87 : decode cL_isPath 87 = .ok (.if_icmp .lt 24, 3) := by decide +kernel
theorem dL_isPath_90 : decode cL_isPath 90 = .ok (.aload_n 0, 1) := by decide +kernel
theorem dL_isPath_91 : decode cL_isPath 91 = .ok (.iload 8, 2) := by decide +kernel
theorem dL_isPath_93 : decode cL_isPath 93 = .ok (.bipush 10, 2) := by decide +kernel
theorem dL_isPath_95 : decode cL_isPath 95 = .ok (.idiv, 1) := by decide +kernel
theorem dL_isPath_96 : decode cL_isPath 96 = .ok (.iload 8, 2) := by decide +kernel
theorem dL_isPath_98 : decode cL_isPath 98 = .ok (.bipush 10, 2) := by decide +kernel
theorem dL_isPath_100 : decode cL_isPath 100 = .ok (.irem, 1) := by decide +kernel
theorem dL_isPath_101 : decode cL_isPath 101 = .ok (.invokevirtual 17, 3) := by decide +kernel
theorem dL_isPath_104 : decode cL_isPath 104 = .ok (.ifCond .lt 7, 3) := by decide +kernel
theorem dL_isPath_107 : decode cL_isPath 107 = .ok (.iconst 1, 1) := by decide +kernel
theorem dL_isPath_108 : decode cL_isPath 108 = .ok (.goto 4, 3) := by decide +kernel
theorem dL_isPath_111 : decode cL_isPath 111 = .ok (.iconst 0, 1) := by decide +kernel
theorem dL_isPath_112 : decode cL_isPath 112 = .ok (.istore 6, 2) := by decide +kernel
theorem dL_isPath_114 : decode cL_isPath 114 = .ok (.iload 9, 2) := by decide +kernel
theorem dL_isPath_116 : decode cL_isPath 116 = .ok (.aload_n 1, 1) := by decide +kernel
theorem dL_isPath_117 : decode cL_isPath 117 = .ok (.iconst 4, 1) := by decide +kernel
theorem dL_isPath_118 : decode cL_isPath 118 = .ok (.iload 8, 2) := by decide +kernel
theorem dL_isPath_120 : decode cL_isPath 120 = .ok (.bipush 10, 2) := by decide +kernel
theorem dL_isPath_122 : decode cL_isPath 122 = .ok (.idiv, 1) := by decide +kernel
theorem dL_isPath_123 : decode cL_isPath 123 = .ok (.imul, 1) := by decide +kernel
theorem dL_isPath_124 : decode cL_isPath 124 = .ok (.iload 8, 2) := by decide +kernel
theorem dL_isPath_126 : decode cL_isPath 126 = .ok (.bipush 10, 2) := by decide +kernel
theorem dL_isPath_128 : decode cL_isPath 128 = .ok (.irem, 1) := by decide +kernel
theorem dL_isPath_129 : decode cL_isPath 129 = .ok (.iadd, 1) := by decide +kernel
theorem dL_isPath_130 : decode cL_isPath 130 = .ok (.iaload, 1) := by decide +kernel
theorem dL_isPath_131 : decode cL_isPath 131 = .ok (.iadd, 1) := by decide +kernel
theorem dL_isPath_132 : decode cL_isPath 132 = .ok (.istore 5, 2) := by decide +kernel
theorem dL_isPath_134 : decode cL_isPath 134 = .ok (.iinc 7 1, 3) := by decide +kernel
theorem dL_isPath_137 : decode cL_isPath 137 = .ok (.goto (-90), 3) := by decide +kernel
theorem dL_isPath_140 : decode cL_isPath 140 = .ok (.iload 6, 2) := by decide +kernel
theorem dL_isPath_142 : decode cL_isPath 142 = .ok (.ifCond .eq 18, 3) := by decide +kernel
theorem dL_isPath_145 : decode cL_isPath 145 = .ok (.iload 4, 2) := by decide +kernel
theorem dL_isPath_147 : decode cL_isPath 147 = .ok (.ifCond .eq 9, 3) := by decide +kernel
theorem dL_isPath_150 : decode cL_isPath 150 = .ok (.iload 5, 2) := by decide +kernel
theorem dL_isPath_152 : decode cL_isPath 152 = .ok (.iload_n 2, 1) := by decide +kernel
theorem dL_isPath_153 : decode cL_isPath 153 = .ok (.if_icmp .ne 7, 3) := by decide +kernel
theorem dL_isPath_156 : decode cL_isPath 156 = .ok (.iconst 1, 1) := by decide +kernel
theorem dL_isPath_157 : decode cL_isPath 157 = .ok (.goto 4, 3) := by decide +kernel
theorem dL_isPath_160 : decode cL_isPath 160 = .ok (.iconst 0, 1) := by decide +kernel
theorem dL_isPath_161 : decode cL_isPath 161 = .ok (.ireturn, 1) := by decide +kernel
theorem dL_areRows_0 : decode cL_areRows 0 = .ok (.iconst 0, 1) := by decide +kernel
theorem dL_areRows_1 : decode cL_areRows 1 = .ok (.istore 6, 2) := by decide +kernel
theorem dL_areRows_3 : decode cL_areRows 3 = .ok (.iconst 1, 1) := by decide +kernel
theorem dL_areRows_4 : decode cL_areRows 4 = .ok (.istore 7, 2) := by decide +kernel
theorem dL_areRows_6 : decode cL_areRows 6 = .ok (.iconst 0, 1) := by decide +kernel
theorem dL_areRows_7 : decode cL_areRows 7 = .ok (.istore 8, 2) := by decide +kernel
theorem dL_areRows_9 : decode cL_areRows 9 = .ok (.iload 8, 2) := by decide +kernel
theorem dL_areRows_11 : decode cL_areRows 11 = .ok (.bipush 32, 2) := by decide +kernel
theorem dL_areRows_13 : decode cL_areRows 13 = .ok (.if_icmp .ge 14, 3) := by decide +kernel
theorem dL_areRows_16 : decode cL_areRows 16 = .ok (.aload_n 3, 1) := by decide +kernel
theorem dL_areRows_17 : decode cL_areRows 17 = .ok (.iload 8, 2) := by decide +kernel
theorem dL_areRows_19 : decode cL_areRows 19 = .ok (.iconst 0, 1) := by decide +kernel
theorem dL_areRows_20 : decode cL_areRows 20 = .ok (.iastore, 1) := by decide +kernel
theorem dL_areRows_21 : decode cL_areRows 21 = .ok (.iinc 8 1, 3) := by decide +kernel
theorem dL_areRows_24 : decode cL_areRows 24 = .ok (.goto (-15), 3) := by decide +kernel
theorem dL_areRows_27 : decode cL_areRows 27 = .ok (.iconst 0, 1) := by decide +kernel
theorem dL_areRows_28 : decode cL_areRows 28 = .ok (.istore 8, 2) := by decide +kernel
theorem dL_areRows_30 : decode cL_areRows 30 = .ok (.iload 8, 2) := by decide +kernel
theorem dL_areRows_32 : decode cL_areRows 32 = .ok (.iload 4, 2) := by decide +kernel
theorem dL_areRows_34 : decode cL_areRows 34 = .ok (.if_icmp .ge 118, 3) := by decide +kernel
theorem dL_areRows_37 : decode cL_areRows 37 = .ok (.iconst 0, 1) := by decide +kernel
theorem dL_areRows_38 : decode cL_areRows 38 = .ok (.istore 9, 2) := by decide +kernel
theorem dL_areRows_40 : decode cL_areRows 40 = .ok (.iload 9, 2) := by decide +kernel
theorem dL_areRows_42 : decode cL_areRows 42 = .ok (.aload_n 0, 1) := by decide +kernel
theorem dL_areRows_43 : decode cL_areRows 43 = .ok (.iload 8, 2) := by decide +kernel
theorem dL_areRows_45 : decode cL_areRows 45 = .ok (.invokevirtual 40, 3) := by decide +kernel
theorem dL_areRows_48 : decode cL_areRows 48 = .ok (.if_icmp .ge 41, 3) := by decide +kernel
theorem dL_areRows_51 : decode cL_areRows 51 = .ok (.aload_n 0, 1) := by decide +kernel
theorem dL_areRows_52 : decode cL_areRows 52 = .ok (.iload 8, 2) := by decide +kernel
theorem dL_areRows_54 : decode cL_areRows 54 = .ok (.iload 9, 2) := by decide +kernel
theorem dL_areRows_56 : decode cL_areRows 56 = .ok (.invokevirtual 43, 3) := by decide +kernel
theorem dL_areRows_59 : decode cL_areRows 59 = .ok (.istore 10, 2) := by decide +kernel
theorem dL_areRows_61 : decode cL_areRows 61 = .ok (.aload_n 3, 1) := by decide +kernel
theorem dL_areRows_62 : decode cL_areRows 62 = .ok (.iconst 4, 1) := by decide +kernel
theorem dL_areRows_63 : decode cL_areRows 63 = .ok (.iload 10, 2) := by decide +kernel
theorem dL_areRows_65 : decode cL_areRows 65 = .ok (.bipush 10, 2) := by decide +kernel
theorem dL_areRows_67 : decode cL_areRows 67 = .ok (.idiv, 1) := by decide +kernel
theorem dL_areRows_68 : decode cL_areRows 68 = .ok (.imul, 1) := by decide +kernel
theorem dL_areRows_69 : decode cL_areRows 69 = .ok (.iload 10, 2) := by decide +kernel
theorem dL_areRows_71 : decode cL_areRows 71 = .ok (.bipush 10, 2) := by decide +kernel
theorem dL_areRows_73 : decode cL_areRows 73 = .ok (.irem, 1) := by decide +kernel
theorem dL_areRows_74 : decode cL_areRows 74 = .ok (.iadd, 1) := by decide +kernel
theorem dL_areRows_75 : decode cL_areRows 75 = .ok (.dup2, 1) := by decide +kernel
theorem dL_areRows_76 : decode cL_areRows 76 = .ok (.iaload, 1) := by decide +kernel
theorem dL_areRows_77 : decode cL_areRows 77 = .ok (.iconst 1, 1) := by decide +kernel
theorem dL_areRows_78 : decode cL_areRows 78 = .ok (.iadd, 1) := by decide +kernel
theorem dL_areRows_79 : decode cL_areRows 79 = .ok (.iastore, 1) := by decide +kernel
theorem dL_areRows_80 : decode cL_areRows 80 = .ok (.iinc 6 1, 3) := by decide +kernel
theorem dL_areRows_83 : decode cL_areRows 83 = .ok (.iinc 9 1, 3) := by decide +kernel
theorem dL_areRows_86 : decode cL_areRows 86 = .ok (.goto (-46), 3) := by decide +kernel
theorem dL_areRows_89 : decode cL_areRows 89 = .ok (.iload 7, 2) := by decide +kernel
theorem dL_areRows_91 : decode cL_areRows 91 = .ok (.ifCond .eq 52, 3) := by decide +kernel
theorem dL_areRows_94 : decode cL_areRows 94 = .ok (.aload_n 0, 1) := by decide +kernel
theorem dL_areRows_95 : decode cL_areRows 95 = .ok (.iload 8, 2) := by decide +kernel
theorem dL_areRows_97 : decode cL_areRows 97 = .ok (.invokevirtual 46, 3) := by decide +kernel
theorem dL_areRows_100 : decode cL_areRows 100 = .ok (.ifCond .lt 43, 3) := by decide +kernel
theorem dL_areRows_103 : decode cL_areRows 103 = .ok (.aload_n 0, 1) := by decide +kernel
theorem dL_areRows_104 : decode cL_areRows 104 = .ok (.iload 8, 2) := by decide +kernel
theorem dL_areRows_106 : decode cL_areRows 106 = .ok (.invokevirtual 49, 3) := by decide +kernel
theorem dL_areRows_109 : decode cL_areRows 109 = .ok (.ifCond .lt 34, 3) := by decide +kernel
theorem dL_areRows_112 : decode cL_areRows 112 = .ok (.aload_n 0, 1) := by decide +kernel
theorem dL_areRows_113 : decode cL_areRows 113 = .ok (.iload 8, 2) := by decide +kernel
theorem dL_areRows_115 : decode cL_areRows 115 = .ok (.invokevirtual 40, 3) := by decide +kernel
theorem dL_areRows_118 : decode cL_areRows 118 = .ok (.ifCond .gt 21, 3) := by decide +kernel
theorem dL_areRows_121 : decode cL_areRows 121 = .ok (.aload_n 0, 1) := by decide +kernel
theorem dL_areRows_122 : decode cL_areRows 122 = .ok (.iload 8, 2) := by decide +kernel
theorem dL_areRows_124 : decode cL_areRows 124 = .ok (.invokevirtual 46, 3) := by decide +kernel
theorem dL_areRows_127 : decode cL_areRows 127 = .ok (.ifCond .ne 16, 3) := by decide +kernel
theorem dL_areRows_130 : decode cL_areRows 130 = .ok (.aload_n 0, 1) := by decide +kernel
theorem dL_areRows_131 : decode cL_areRows 131 = .ok (.iload 8, 2) := by decide +kernel
theorem dL_areRows_133 : decode cL_areRows 133 = .ok (.invokevirtual 49, 3) := by decide +kernel
theorem dL_areRows_136 : decode cL_areRows 136 = .ok (.ifCond .ne 7, 3) := by decide +kernel
theorem dL_areRows_139 : decode cL_areRows 139 = .ok (.iconst 1, 1) := by decide +kernel
theorem dL_areRows_140 : decode cL_areRows 140 = .ok (.goto 4, 3) := by decide +kernel
theorem dL_areRows_143 : decode cL_areRows 143 = .ok (.iconst 0, 1) := by decide +kernel
theorem dL_areRows_144 : decode cL_areRows 144 = .ok (.istore 7, 2) := by decide +kernel
theorem dL_areRows_146 : decode cL_areRows 146 = .ok (.iinc 8 1, 3) := by decide +kernel
theorem dL_areRows_149 : decode cL_areRows 149 = .ok (.goto (-119), 3) := by decide +kernel
theorem dL_areRows_152 : decode cL_areRows 152 = .ok (.iconst 0, 1) := by decide +kernel
theorem dL_areRows_153 : decode cL_areRows 153 = .ok (.istore 8, 2) := by decide +kernel
theorem dL_areRows_155 : decode cL_areRows 155 = .ok (.iconst 0, 1) := by decide +kernel
theorem dL_areRows_156 : decode cL_areRows 156 = .ok (.istore 9, 2) := by decide +kernel
theorem dL_areRows_158 : decode cL_areRows 158 = .ok (.iload 9, 2) := by decide +kernel
theorem dL_areRows_160 : decode cL_areRows 160 = .ok (.iload 5, 2) := by decide +kernel
theorem dL_areRows_162 : decode cL_areRows 162 = .ok (.if_icmp .ge 64, 3) := by decide +kernel
theorem dL_areRows_165 : decode cL_areRows 165 = .ok (.iconst 0, 1) := by decide +kernel
theorem dL_areRows_166 : decode cL_areRows 166 = .ok (.istore 10, 2) := by decide +kernel
theorem dL_areRows_168 : decode cL_areRows 168 = .ok (.iload 10, 2) := by decide +kernel
theorem dL_areRows_170 : decode cL_areRows 170 = .ok (.aload_n 1, 1) := by decide +kernel
theorem dL_areRows_171 : decode cL_areRows 171 = .ok (.iload 9, 2) := by decide +kernel
theorem dL_areRows_173 : decode cL_areRows 173 = .ok (.iaload, 1) := by decide +kernel
theorem dL_areRows_174 : decode cL_areRows 174 = .ok (.if_icmp .ge 46, 3) := by decide +kernel
theorem dL_areRows_177 : decode cL_areRows 177 = .ok (.iload 8, 2) := by decide +kernel
theorem dL_areRows_179 : decode cL_areRows 179 = .ok (.aload_n 2, 1) := by decide +kernel
theorem dL_areRows_180 : decode cL_areRows 180 = .ok (.iload 9, 2) := by decide +kernel
theorem dL_areRows_182 : decode cL_areRows 182 = .ok (.iaload, 1) := by decide +kernel
theorem dL_areRows_183 : decode cL_areRows 183 = .ok (.iadd, 1) := by decide +kernel
theorem dL_areRows_184 : decode cL_areRows 184 = .ok (.istore 8, 2) := by decide +kernel
theorem dL_areRows_186 : decode cL_areRows 186 = .ok (.iload 7, 2) := by decide +kernel
theorem dL_areRows_188 : decode cL_areRows 188 = .ok (.ifCond .eq 23, 3) := by decide +kernel
theorem dL_areRows_191 : decode cL_areRows 191 = .ok (.aload_n 3, 1) := by decide +kernel
theorem dL_areRows_192 : decode cL_areRows 192 = .ok (.iconst 4, 1) := by decide +kernel
theorem dL_areRows_193 : decode cL_areRows 193 = .ok (.iload 9, 2) := by decide +kernel
theorem dL_areRows_195 : decode cL_areRows 195 = .ok (.imul, 1) := by decide +kernel
theorem dL_areRows_196 : decode cL_areRows 196 = .ok (.iload 10, 2) := by decide +kernel
theorem dL_areRows_198 : decode cL_areRows 198 = .ok (.iadd, 1) := by decide +kernel
theorem dL_areRows_199 : decode cL_areRows 199 = .ok (.iaload, 1) := by decide +kernel
theorem dL_areRows_200 : decode cL_areRows 200 = .ok (.aload_n 2, 1) := by decide +kernel
theorem dL_areRows_201 : decode cL_areRows 201 = .ok (.iload 9, 2) := by decide +kernel
theorem dL_areRows_203 : decode cL_areRows 203 = .ok (.iaload, 1) := by decide +kernel
theorem dL_areRows_204 : decode cL_areRows 204 = .ok (.if_icmp .ne 7, 3) := by decide +kernel
theorem dL_areRows_207 : decode cL_areRows 207 = .ok (.iconst 1, 1) := by decide +kernel
theorem dL_areRows_208 : decode cL_areRows 208 = .ok (.goto 4, 3) := by decide +kernel
theorem dL_areRows_211 : decode cL_areRows 211 = .ok (.iconst 0, 1) := by decide +kernel
theorem dL_areRows_212 : decode cL_areRows 212 = .ok (.istore 7, 2) := by decide +kernel
theorem dL_areRows_214 : decode cL_areRows 214 = .ok (.iinc 10 1, 3) := by decide +kernel
theorem dL_areRows_217 : decode cL_areRows 217 = .ok (.goto (-49), 3) := by decide +kernel
theorem dL_areRows_220 : decode cL_areRows 220 = .ok (.iinc 9 1, 3) := by decide +kernel
theorem dL_areRows_223 : decode cL_areRows 223 = .ok (.goto (-65), 3) := by decide +kernel
theorem dL_areRows_226 : decode cL_areRows 226 = .ok (.iload 7, 2) := by decide +kernel
theorem dL_areRows_228 : decode cL_areRows 228 = .ok (.ifCond .eq 14, 3) := by decide +kernel
theorem dL_areRows_231 : decode cL_areRows 231 = .ok (.iload 6, 2) := by decide +kernel
theorem dL_areRows_233 : decode cL_areRows 233 = .ok (.iload 8, 2) := by decide +kernel
theorem dL_areRows_235 : decode cL_areRows 235 = .ok (.if_icmp .ne 7, 3) := by decide +kernel
theorem dL_areRows_238 : decode cL_areRows 238 = .ok (.iconst 1, 1) := by decide +kernel
theorem dL_areRows_239 : decode cL_areRows 239 = .ok (.goto 4, 3) := by decide +kernel
theorem dL_areRows_242 : decode cL_areRows 242 = .ok (.iconst 0, 1) := by decide +kernel
theorem dL_areRows_243 : decode cL_areRows 243 = .ok (.ireturn, 1) := by decide +kernel
theorem dL_law_0 : decode cL_law 0 = .ok (.new 9, 3) := by decide +kernel
theorem dL_law_3 : decode cL_law 3 = .ok (.dup, 1) := by decide +kernel
theorem dL_law_4 : decode cL_law 4 = .ok (.invokespecial 52, 3) := by decide +kernel
theorem dL_law_7 : decode cL_law 7 = .ok (.astore_n 1, 1) := by decide +kernel
theorem dL_law_8 : decode cL_law 8 = .ok (.bipush 8, 2) := by decide +kernel
theorem dL_law_10 : decode cL_law 10 = .ok (.newarray .int, 2) := by decide +kernel
theorem dL_law_12 : decode cL_law 12 = .ok (.astore_n 2, 1) := by decide +kernel
theorem dL_law_13 : decode cL_law 13 = .ok (.bipush 8, 2) := by decide +kernel
theorem dL_law_15 : decode cL_law 15 = .ok (.newarray .int, 2) := by decide +kernel
theorem dL_law_17 : decode cL_law 17 = .ok (.astore_n 3, 1) := by decide +kernel
theorem dL_law_18 : decode cL_law 18 = .ok (.bipush 8, 2) := by decide +kernel
theorem dL_law_20 : decode cL_law 20 = .ok (.newarray .int, 2) := by decide +kernel
theorem dL_law_22 : decode cL_law 22 = .ok (.astore 4, 2) := by decide +kernel
theorem dL_law_24 : decode cL_law 24 = .ok (.bipush 32, 2) := by decide +kernel
theorem dL_law_26 : decode cL_law 26 = .ok (.newarray .int, 2) := by decide +kernel
theorem dL_law_28 : decode cL_law 28 = .ok (.astore 5, 2) := by decide +kernel
theorem dL_law_30 : decode cL_law 30 = .ok (.bipush 32, 2) := by decide +kernel
theorem dL_law_32 : decode cL_law 32 = .ok (.newarray .int, 2) := by decide +kernel
theorem dL_law_34 : decode cL_law 34 = .ok (.astore 6, 2) := by decide +kernel
theorem dL_law_36 : decode cL_law 36 = .ok (.iconst 0, 1) := by decide +kernel
theorem dL_law_37 : decode cL_law 37 = .ok (.istore 7, 2) := by decide +kernel
theorem dL_law_39 : decode cL_law 39 = .ok (.iconst 0, 1) := by decide +kernel
theorem dL_law_40 : decode cL_law 40 = .ok (.istore 8, 2) := by decide +kernel
theorem dL_law_42 : decode cL_law 42 = .ok (.iconst 0, 1) := by decide +kernel
theorem dL_law_43 : decode cL_law 43 = .ok (.istore 9, 2) := by decide +kernel
theorem dL_law_45 : decode cL_law 45 = .ok (.iload 9, 2) := by decide +kernel
theorem dL_law_47 : decode cL_law 47 = .ok (.bipush 56, 2) := by decide +kernel
theorem dL_law_49 : decode cL_law 49 = .ok (.if_icmp .ge 609, 3) := by decide +kernel
theorem dL_law_52 : decode cL_law 52 = .ok (.aload_n 0, 1) := by decide +kernel
theorem dL_law_53 : decode cL_law 53 = .ok (.iconst 2, 1) := by decide +kernel
theorem dL_law_54 : decode cL_law 54 = .ok (.iload 9, 2) := by decide +kernel
theorem dL_law_56 : decode cL_law 56 = .ok (.imul, 1) := by decide +kernel
theorem dL_law_57 : decode cL_law 57 = .ok (.invokestatic 53, 3) := by decide +kernel
theorem dL_law_60 : decode cL_law 60 = .ok (.istore 10, 2) := by decide +kernel
theorem dL_law_62 : decode cL_law 62 = .ok (.aload_n 0, 1) := by decide +kernel
theorem dL_law_63 : decode cL_law 63 = .ok (.iconst 2, 1) := by decide +kernel
theorem dL_law_64 : decode cL_law 64 = .ok (.iload 9, 2) := by decide +kernel
theorem dL_law_66 : decode cL_law 66 = .ok (.imul, 1) := by decide +kernel
theorem dL_law_67 : decode cL_law 67 = .ok (.iconst 1, 1) := by decide +kernel
theorem dL_law_68 : decode cL_law 68 = .ok (.iadd, 1) := by decide +kernel
theorem dL_law_69 : decode cL_law 69 = .ok (.invokestatic 53, 3) := by decide +kernel
theorem dL_law_72 : decode cL_law 72 = .ok (.istore 11, 2) := by decide +kernel
theorem dL_law_74 : decode cL_law 74 = .ok (.iload 10, 2) := by decide +kernel
theorem dL_law_76 : decode cL_law 76 = .ok (.bipush 14, 2) := by decide +kernel
theorem dL_law_78 : decode cL_law 78 = .ok (.invokestatic 57, 3) := by decide +kernel
theorem dL_law_81 : decode cL_law 81 = .ok (.istore 12, 2) := by decide +kernel
theorem dL_law_83 : decode cL_law 83 = .ok (.iconst 1, 1) := by decide +kernel
theorem dL_law_84 : decode cL_law 84 = .ok (.istore 13, 2) := by decide +kernel
theorem dL_law_86 : decode cL_law 86 = .ok (.iload 7, 2) := by decide +kernel
theorem dL_law_88 : decode cL_law 88 = .ok (.iconst 2, 1) := by decide +kernel
theorem dL_law_89 : decode cL_law 89 = .ok (.if_icmp .lt 14, 3) := by decide +kernel
theorem dL_law_92 : decode cL_law 92 = .ok (.iload 12, 2) := by decide +kernel
theorem dL_law_94 : decode cL_law 94 = .ok (.ifCond .ne 31, 3) := by decide +kernel
theorem dL_law_97 : decode cL_law 97 = .ok (.iload 7, 2) := by decide +kernel
theorem dL_law_99 : decode cL_law 99 = .ok (.iconst 4, 1) := by decide +kernel
theorem dL_law_100 : decode cL_law 100 = .ok (.if_icmp .ge 25, 3) := by decide +kernel
theorem dL_law_103 : decode cL_law 103 = .ok (.aload_n 1, 1) := by decide +kernel
theorem dL_law_104 : decode cL_law 104 = .ok (.invokevirtual 60, 3) := by decide +kernel
theorem dL_law_107 : decode cL_law 107 = .ok (.iload 7, 2) := by decide +kernel
theorem dL_law_109 : decode cL_law 109 = .ok (.if_icmp .ne 7, 3) := by decide +kernel
theorem dL_law_112 : decode cL_law 112 = .ok (.iconst 1, 1) := by decide +kernel
theorem dL_law_113 : decode cL_law 113 = .ok (.goto 4, 3) := by decide +kernel
theorem dL_law_116 : decode cL_law 116 = .ok (.iconst 0, 1) := by decide +kernel
theorem dL_law_117 : decode cL_law 117 = .ok (.istore 13, 2) := by decide +kernel
theorem dL_law_119 : decode cL_law 119 = .ok (.iinc 7 1, 3) := by decide +kernel
theorem dL_law_122 : decode cL_law 122 = .ok (.goto 493, 3) := by decide +kernel
theorem dL_law_125 : decode cL_law 125 = .ok (.iload 8, 2) := by decide +kernel
theorem dL_law_127 : decode cL_law 127 = .ok (.iconst 2, 1) := by decide +kernel
theorem dL_law_128 : decode cL_law 128 = .ok (.if_icmp .lt 16, 3) := by decide +kernel
theorem dL_law_131 : decode cL_law 131 = .ok (.iload 12, 2) := by decide +kernel
theorem dL_law_133 : decode cL_law 133 = .ok (.iconst 1, 1) := by decide +kernel
theorem dL_law_134 : decode cL_law 134 = .ok (.if_icmp .ne 50, 3) := by decide +kernel
theorem dL_law_137 : decode cL_law 137 = .ok (.iload 8, 2) := by decide +kernel
theorem dL_law_139 : decode cL_law 139 = .ok (.bipush 8, 2) := by decide +kernel
theorem dL_law_141 : decode cL_law 141 = .ok (.if_icmp .ge 43, 3) := by decide +kernel
theorem dL_law_144 : decode cL_law 144 = .ok (.aload 4, 2) := by decide +kernel
theorem dL_law_146 : decode cL_law 146 = .ok (.iload 8, 2) := by decide +kernel
theorem dL_law_148 : decode cL_law 148 = .ok (.iload 11, 2) := by decide +kernel
theorem dL_law_150 : decode cL_law 150 = .ok (.sipush 300, 3) := by decide +kernel
theorem dL_law_153 : decode cL_law 153 = .ok (.invokestatic 57, 3) := by decide +kernel
theorem dL_law_156 : decode cL_law 156 = .ok (.iastore, 1) := by decide +kernel
theorem dL_law_157 : decode cL_law 157 = .ok (.aload_n 1, 1) := by decide +kernel
theorem dL_law_158 : decode cL_law 158 = .ok (.aload 4, 2) := by decide +kernel
theorem dL_law_160 : decode cL_law 160 = .ok (.iload 8, 2) := by decide +kernel
theorem dL_law_162 : decode cL_law 162 = .ok (.iaload, 1) := by decide +kernel
theorem dL_law_163 : decode cL_law 163 = .ok (.invokevirtual 63, 3) := by decide +kernel
theorem dL_law_166 : decode cL_law 166 = .ok (.iload 8, 2) := by decide +kernel
theorem dL_law_168 : decode cL_law 168 = .ok (.if_icmp .ne 7, 3) := by decide +kernel
theorem dL_law_171 : decode cL_law 171 = .ok (.iconst 1, 1) := by decide +kernel
theorem dL_law_172 : decode cL_law 172 = .ok (.goto 4, 3) := by decide +kernel
theorem dL_law_175 : decode cL_law 175 = .ok (.iconst 0, 1) := by decide +kernel
theorem dL_law_176 : decode cL_law 176 = .ok (.istore 13, 2) := by decide +kernel
theorem dL_law_178 : decode cL_law 178 = .ok (.iinc 8 1, 3) := by decide +kernel
theorem dL_law_181 : decode cL_law 181 = .ok (.goto 434, 3) := by decide +kernel
theorem dL_law_184 : decode cL_law 184 = .ok (.iload 12, 2) := by decide +kernel
theorem dL_law_186 : decode cL_law 186 = .ok (.bipush 6, 2) := by decide +kernel
theorem dL_law_188 : decode cL_law 188 = .ok (.if_icmp .ge 137, 3) := by decide +kernel
theorem dL_law_191 : decode cL_law 191 = .ok (.iload 11, 2) := by decide +kernel
theorem dL_law_193 : decode cL_law 193 = .ok (.iload 8, 2) := by decide +kernel
theorem dL_law_195 : decode cL_law 195 = .ok (.invokestatic 57, 3) := by decide +kernel
theorem dL_law_198 : decode cL_law 198 = .ok (.istore 14, 2) := by decide +kernel
theorem dL_law_200 : decode cL_law 200 = .ok (.aload_n 3, 1) := by decide +kernel
theorem dL_law_201 : decode cL_law 201 = .ok (.iload 14, 2) := by decide +kernel
theorem dL_law_203 : decode cL_law 203 = .ok (.iaload, 1) := by decide +kernel
theorem dL_law_204 : decode cL_law 204 = .ok (.ifCond .ne 118, 3) := by decide +kernel
theorem dL_law_207 : decode cL_law 207 = .ok (.aload_n 2, 1) := by decide +kernel
theorem dL_law_208 : decode cL_law 208 = .ok (.iload 14, 2) := by decide +kernel
theorem dL_law_210 : decode cL_law 210 = .ok (.iaload, 1) := by decide +kernel
theorem dL_law_211 : decode cL_law 211 = .ok (.iconst 4, 1) := by decide +kernel
theorem dL_law_212 : decode cL_law 212 = .ok (.if_icmp .ge 110, 3) := by decide +kernel
theorem dL_law_215 : decode cL_law 215 = .ok (.aload 5, 2) := by decide +kernel
theorem dL_law_217 : decode cL_law 217 = .ok (.iconst 4, 1) := by decide +kernel
theorem dL_law_218 : decode cL_law 218 = .ok (.iload 14, 2) := by decide +kernel
theorem dL_law_220 : decode cL_law 220 = .ok (.imul, 1) := by decide +kernel
theorem dL_law_221 : decode cL_law 221 = .ok (.aload_n 2, 1) := by decide +kernel
theorem dL_law_222 : decode cL_law 222 = .ok (.iload 14, 2) := by decide +kernel
theorem dL_law_224 : decode cL_law 224 = .ok (.iaload, 1) := by decide +kernel
theorem dL_law_225 : decode cL_law 225 = .ok (.iadd, 1) := by decide +kernel
theorem dL_law_226 : decode cL_law 226 = .ok (.iconst 1, 1) := by decide +kernel
theorem dL_law_227 : decode cL_law 227 = .ok (.iload 11, 2) := by decide +kernel
theorem dL_law_229 : decode cL_law 229 = .ok (.iconst 3, 1) := by decide +kernel
theorem dL_law_230 : decode cL_law 230 = .ok (.ishr, 1) := by decide +kernel
theorem dL_law_231 : decode cL_law 231 = .ok (.bipush 40, 2) := by decide +kernel
theorem dL_law_233 : decode cL_law 233 = .ok (.invokestatic 57, 3) := by decide +kernel
theorem dL_law_236 : decode cL_law 236 = .ok (.iadd, 1) := by decide +kernel
theorem dL_law_237 : decode cL_law 237 = .ok (.iastore, 1) := by decide +kernel
theorem dL_law_238 : decode cL_law 238 = .ok (.aload_n 1, 1) := by decide +kernel
theorem dL_law_239 : decode cL_law 239 = .ok (.iload 14, 2) := by decide +kernel
theorem dL_law_241 : decode cL_law 241 = .ok (.iload 11, 2) := by decide +kernel
theorem dL_law_243 : decode cL_law 243 = .ok (.bipush 9, 2) := by decide +kernel
theorem dL_law_245 : decode cL_law 245 = .ok (.ishr, 1) := by decide +kernel
theorem dL_law_246 : decode cL_law 246 = .ok (.iload 7, 2) := by decide +kernel
theorem dL_law_248 : decode cL_law 248 = .ok (.invokestatic 57, 3) := by decide +kernel
theorem dL_law_251 : decode cL_law 251 = .ok (.aload 5, 2) := by decide +kernel
theorem dL_law_253 : decode cL_law 253 = .ok (.iconst 4, 1) := by decide +kernel
theorem dL_law_254 : decode cL_law 254 = .ok (.iload 14, 2) := by decide +kernel
theorem dL_law_256 : decode cL_law 256 = .ok (.imul, 1) := by decide +kernel
theorem dL_law_257 : decode cL_law 257 = .ok (.aload_n 2, 1) := by decide +kernel
theorem dL_law_258 : decode cL_law 258 = .ok (.iload 14, 2) := by decide +kernel
theorem dL_law_260 : decode cL_law 260 = .ok (.iaload, 1) := by decide +kernel
theorem dL_law_261 : decode cL_law 261 = .ok (.iadd, 1) := by decide +kernel
theorem dL_law_262 : decode cL_law 262 = .ok (.iaload, 1) := by decide +kernel
theorem dL_law_263 : decode cL_law 263 = .ok (.iload 11, 2) := by decide +kernel
theorem dL_law_265 : decode cL_law 265 = .ok (.bipush 12, 2) := by decide +kernel
theorem dL_law_267 : decode cL_law 267 = .ok (.ishr, 1) := by decide +kernel
theorem dL_law_268 : decode cL_law 268 = .ok (.iconst 4, 1) := by decide +kernel
theorem dL_law_269 : decode cL_law 269 = .ok (.invokestatic 57, 3) := by decide +kernel
theorem dL_law_272 : decode cL_law 272 = .ok (.iconst 1, 1) := by decide +kernel
theorem dL_law_273 : decode cL_law 273 = .ok (.iload 11, 2) := by decide +kernel
theorem dL_law_275 : decode cL_law 275 = .ok (.bipush 14, 2) := by decide +kernel
theorem dL_law_277 : decode cL_law 277 = .ok (.ishr, 1) := by decide +kernel
theorem dL_law_278 : decode cL_law 278 = .ok (.bipush 8, 2) := by decide +kernel
theorem dL_law_280 : decode cL_law 280 = .ok (.invokestatic 57, 3) := by decide +kernel
theorem dL_law_283 : decode cL_law 283 = .ok (.ishl, 1) := by decide +kernel
theorem dL_law_284 : decode cL_law 284 = .ok (.iconst 1, 1) := by decide +kernel
theorem dL_law_285 : decode cL_law 285 = .ok (.iload 11, 2) := by decide +kernel
theorem dL_law_287 : decode cL_law 287 = .ok (.bipush 17, 2) := by decide +kernel
theorem dL_law_289 : decode cL_law 289 = .ok (.ishr, 1) := by decide +kernel
theorem dL_law_290 : decode cL_law 290 = .ok (.bipush 8, 2) := by decide +kernel
theorem dL_law_292 : decode cL_law 292 = .ok (.invokestatic 57, 3) := by decide +kernel
theorem dL_law_295 : decode cL_law 295 = .ok (.ishl, 1) := by decide +kernel
theorem dL_law_296 : decode cL_law 296 = .ok (.ior, 1) := by decide +kernel
theorem dL_law_297 : decode cL_law 297 = .ok (.invokevirtual 66, 3) := by decide +kernel
theorem dL_law_300 : decode cL_law 300 = .ok (.aload_n 2, 1) := by decide +kernel
theorem dL_law_301 : decode cL_law 301 = .ok (.iload 14, 2) := by decide +kernel
theorem dL_law_303 : decode cL_law 303 = .ok (.iaload, 1) := by decide +kernel
theorem dL_law_304 : decode cL_law 304 = .ok (.if_icmp .ne 7, 3) := by decide +kernel
theorem dL_law_307 : decode cL_law 307 = .ok (.iconst 1, 1) := by decide +kernel
theorem dL_law_308 : decode cL_law 308 = .ok (.goto 4, 3) := by decide +kernel
theorem dL_law_311 : decode cL_law 311 = .ok (.iconst 0, 1) := by decide +kernel
theorem dL_law_312 : decode cL_law 312 = .ok (.istore 13, 2) := by decide +kernel
theorem dL_law_314 : decode cL_law 314 = .ok (.aload_n 2, 1) := by decide +kernel
theorem dL_law_315 : decode cL_law 315 = .ok (.iload 14, 2) := by decide +kernel
theorem dL_law_317 : decode cL_law 317 = .ok (.dup2, 1) := by decide +kernel
theorem dL_law_318 : decode cL_law 318 = .ok (.iaload, 1) := by decide +kernel
theorem dL_law_319 : decode cL_law 319 = .ok (.iconst 1, 1) := by decide +kernel
theorem dL_law_320 : decode cL_law 320 = .ok (.iadd, 1) := by decide +kernel
theorem dL_law_321 : decode cL_law 321 = .ok (.iastore, 1) := by decide +kernel
theorem dL_law_322 : decode cL_law 322 = .ok (.goto 293, 3) := by decide +kernel
theorem dL_law_325 : decode cL_law 325 = .ok (.iload 12, 2) := by decide +kernel
theorem dL_law_327 : decode cL_law 327 = .ok (.bipush 10, 2) := by decide +kernel
theorem dL_law_329 : decode cL_law 329 = .ok (.if_icmp .ge 90, 3) := by decide +kernel
theorem dL_law_332 : decode cL_law 332 = .ok (.iload 11, 2) := by decide +kernel
theorem dL_law_334 : decode cL_law 334 = .ok (.iload 8, 2) := by decide +kernel
theorem dL_law_336 : decode cL_law 336 = .ok (.invokestatic 57, 3) := by decide +kernel
theorem dL_law_339 : decode cL_law 339 = .ok (.istore 14, 2) := by decide +kernel
theorem dL_law_341 : decode cL_law 341 = .ok (.aload_n 3, 1) := by decide +kernel
theorem dL_law_342 : decode cL_law 342 = .ok (.iload 14, 2) := by decide +kernel
theorem dL_law_344 : decode cL_law 344 = .ok (.iaload, 1) := by decide +kernel
theorem dL_law_345 : decode cL_law 345 = .ok (.iconst 1, 1) := by decide +kernel
theorem dL_law_346 : decode cL_law 346 = .ok (.if_icmp .ne 18, 3) := by decide +kernel
theorem dL_law_349 : decode cL_law 349 = .ok (.aload_n 1, 1) := by decide +kernel
theorem dL_law_350 : decode cL_law 350 = .ok (.iload 14, 2) := by decide +kernel
theorem dL_law_352 : decode cL_law 352 = .ok (.invokevirtual 70, 3) := by decide +kernel
theorem dL_law_355 : decode cL_law 355 = .ok (.pop, 1) := by decide +kernel
theorem dL_law_356 : decode cL_law 356 = .ok (.aload_n 3, 1) := by decide +kernel
theorem dL_law_357 : decode cL_law 357 = .ok (.iload 14, 2) := by decide +kernel
theorem dL_law_359 : decode cL_law 359 = .ok (.iconst 0, 1) := by decide +kernel
theorem dL_law_360 : decode cL_law 360 = .ok (.iastore, 1) := by decide +kernel
theorem dL_law_361 : decode cL_law 361 = .ok (.goto 55, 3) := by decide +kernel
theorem dL_law_364 : decode cL_law 364 = .ok (.aload_n 2, 1) := by decide +kernel
theorem dL_law_365 : decode cL_law 365 = .ok (.iload 14, 2) := by decide +kernel
theorem dL_law_367 : decode cL_law 367 = .ok (.iaload, 1) := by decide +kernel
theorem dL_law_368 : decode cL_law 368 = .ok (.ifCond .le 48, 3) := by decide +kernel
theorem dL_law_371 : decode cL_law 371 = .ok (.iload 11, 2) := by decide +kernel
theorem dL_law_373 : decode cL_law 373 = .ok (.iconst 4, 1) := by decide +kernel
theorem dL_law_374 : decode cL_law 374 = .ok (.ishr, 1) := by decide +kernel
theorem dL_law_375 : decode cL_law 375 = .ok (.iconst 2, 1) := by decide +kernel
theorem dL_law_376 : decode cL_law 376 = .ok (.invokestatic 57, 3) := by decide +kernel
theorem dL_law_379 : decode cL_law 379 = .ok (.ifCond .ne 12, 3) := by decide +kernel
theorem dL_law_382 : decode cL_law 382 = .ok (.aload_n 1, 1) := by decide +kernel
theorem dL_law_383 : decode cL_law 383 = .ok (.iload 14, 2) := by decide +kernel
theorem dL_law_385 : decode cL_law 385 = .ok (.invokevirtual 73, 3) := by decide +kernel
theorem dL_law_388 : decode cL_law 388 = .ok (.goto 9, 3) := by decide +kernel
theorem dL_law_391 : decode cL_law 391 = .ok (.aload_n 1, 1) := by decide +kernel
theorem dL_law_392 : decode cL_law 392 = .ok (.iload 14, 2) := by decide +kernel
theorem dL_law_394 : decode cL_law 394 = .ok (.invokevirtual 76, 3) := by decide +kernel
theorem dL_law_397 : decode cL_law 397 = .ok (.aload_n 1, 1) := by decide +kernel
theorem dL_law_398 : decode cL_law 398 = .ok (.invokevirtual 24, 3) := by decide +kernel
theorem dL_law_401 : decode cL_law 401 = .ok (.if_icmp .ne 7, 3) := by decide +kernel
theorem dL_law_404 : decode cL_law 404 = .ok (.iconst 1, 1) := by decide +kernel
theorem dL_law_405 : decode cL_law 405 = .ok (.goto 4, 3) := by decide +kernel
theorem dL_law_408 : decode cL_law 408 = .ok (.iconst 0, 1) := by decide +kernel
theorem dL_law_409 : decode cL_law 409 = .ok (.istore 13, 2) := by decide +kernel
theorem dL_law_411 : decode cL_law 411 = .ok (.aload_n 3, 1) := by decide +kernel
theorem dL_law_412 : decode cL_law 412 = .ok (.iload 14, 2) := by decide +kernel
theorem dL_law_414 : decode cL_law 414 = .ok (.iconst 1, 1) := by decide +kernel
theorem dL_law_415 : decode cL_law 415 = .ok (.iastore, 1) := by decide +kernel
theorem dL_law_416 : decode cL_law 416 = .ok (.goto 199, 3) := by decide +kernel
theorem dL_law_419 : decode cL_law 419 = .ok (.iload 12, 2) := by decide +kernel
theorem dL_law_421 : decode cL_law 421 = .ok (.bipush 10, 2) := by decide +kernel
theorem dL_law_423 : decode cL_law 423 = .ok (.if_icmp .ne 35, 3) := by decide +kernel
theorem dL_law_426 : decode cL_law 426 = .ok (.aload_n 1, 1) := by decide +kernel
theorem dL_law_427 : decode cL_law 427 = .ok (.iload 11, 2) := by decide +kernel
theorem dL_law_429 : decode cL_law 429 = .ok (.iconst 4, 1) := by decide +kernel
theorem dL_law_430 : decode cL_law 430 = .ok (.invokestatic 57, 3) := by decide +kernel
theorem dL_law_433 : decode cL_law 433 = .ok (.iload 11, 2) := by decide +kernel
theorem dL_law_435 : decode cL_law 435 = .ok (.iconst 3, 1) := by decide +kernel
theorem dL_law_436 : decode cL_law 436 = .ok (.ishr, 1) := by decide +kernel
theorem dL_law_437 : decode cL_law 437 = .ok (.iconst 4, 1) := by decide +kernel
theorem dL_law_438 : decode cL_law 438 = .ok (.invokestatic 57, 3) := by decide +kernel
theorem dL_law_441 : decode cL_law 441 = .ok (.iload 11, 2) := by decide +kernel
theorem dL_law_443 : decode cL_law 443 = .ok (.bipush 6, 2) := by decide +kernel
theorem dL_law_445 : decode cL_law 445 = .ok (.ishr, 1) := by decide +kernel
theorem dL_law_446 : decode cL_law 446 = .ok (.bipush 20, 2) := by decide +kernel
theorem dL_law_448 : decode cL_law 448 = .ok (.invokestatic 57, 3) := by decide +kernel
theorem dL_law_451 : decode cL_law 451 = .ok (.invokevirtual 79, 3) := by decide +kernel
theorem dL_law_454 : decode cL_law 454 = .ok (.pop, 1) := by decide +kernel
theorem dL_law_455 : decode cL_law 455 = .ok (.goto 160, 3) := by decide +kernel
theorem dL_law_458 : decode cL_law 458 = .ok (.iload 12, 2) := by decide +kernel
theorem dL_law_460 : decode cL_law 460 = .ok (.bipush 11, 2) := by decide +kernel
theorem dL_law_462 : decode cL_law 462 = .ok (.if_icmp .ne 59, 3) := by decide +kernel
theorem dL_law_465 : decode cL_law 465 = .ok (.iload 11, 2) := by decide +kernel
theorem dL_law_467 : decode cL_law 467 = .ok (.iconst 3, 1) := by decide +kernel
theorem dL_law_468 : decode cL_law 468 = .ok (.ishr, 1) := by decide +kernel
theorem dL_law_469 : decode cL_law 469 = .ok (.bipush 120, 2) := by decide +kernel
theorem dL_law_471 : decode cL_law 471 = .ok (.invokestatic 57, 3) := by decide +kernel
theorem dL_law_474 : decode cL_law 474 = .ok (.istore 14, 2) := by decide +kernel
theorem dL_law_476 : decode cL_law 476 = .ok (.aload_n 1, 1) := by decide +kernel
theorem dL_law_477 : decode cL_law 477 = .ok (.iload 11, 2) := by decide +kernel
theorem dL_law_479 : decode cL_law 479 = .ok (.iload 7, 2) := by decide +kernel
theorem dL_law_481 : decode cL_law 481 = .ok (.invokestatic 57, 3) := by decide +kernel
theorem dL_law_484 : decode cL_law 484 = .ok (.iload 14, 2) := by decide +kernel
theorem dL_law_486 : decode cL_law 486 = .ok (.iload 14, 2) := by decide +kernel
theorem dL_law_488 : decode cL_law 488 = .ok (.iconst 1, 1) := by decide +kernel
theorem dL_law_489 : decode cL_law 489 = .ok (.iadd, 1) := by decide +kernel
theorem dL_law_490 : decode cL_law 490 = .ok (.iload 11, 2) := by decide +kernel
theorem dL_law_492 : decode cL_law 492 = .ok (.bipush 11, 2) := by decide +kernel
theorem dL_law_494 : decode cL_law 494 = .ok (.ishr, 1) := by decide +kernel
theorem dL_law_495 : decode cL_law 495 = .ok (.bipush 40, 2) := by decide +kernel
theorem dL_law_497 : decode cL_law 497 = .ok (.invokestatic 57, 3) := by decide +kernel
theorem dL_law_500 : decode cL_law 500 = .ok (.iadd, 1) := by decide +kernel
theorem dL_law_501 : decode cL_law 501 = .ok (.invokevirtual 83, 3) := by decide +kernel
theorem dL_law_504 : decode cL_law 504 = .ok (.aload_n 1, 1) := by decide +kernel
theorem dL_law_505 : decode cL_law 505 = .ok (.invokevirtual 24, 3) := by decide +kernel
theorem dL_law_508 : decode cL_law 508 = .ok (.if_icmp .ne 7, 3) := by decide +kernel
theorem dL_law_511 : decode cL_law 511 = .ok (.iconst 1, 1) := by decide +kernel
theorem dL_law_512 : decode cL_law 512 = .ok (.goto 4, 3) := by decide +kernel
theorem dL_law_515 : decode cL_law 515 = .ok (.iconst 0, 1) := by decide +kernel
theorem dL_law_516 : decode cL_law 516 = .ok (.istore 13, 2) := by decide +kernel
theorem dL_law_518 : decode cL_law 518 = .ok (.goto 97, 3) := by decide +kernel
theorem dL_law_521 : decode cL_law 521 = .ok (.iload 12, 2) := by decide +kernel
theorem dL_law_523 : decode cL_law 523 = .ok (.bipush 12, 2) := by decide +kernel
theorem dL_law_525 : decode cL_law 525 = .ok (.if_icmp .ne 18, 3) := by decide +kernel
theorem dL_law_528 : decode cL_law 528 = .ok (.aload_n 1, 1) := by decide +kernel
theorem dL_law_529 : decode cL_law 529 = .ok (.iload 11, 2) := by decide +kernel
theorem dL_law_531 : decode cL_law 531 = .ok (.iload 7, 2) := by decide +kernel
theorem dL_law_533 : decode cL_law 533 = .ok (.invokestatic 57, 3) := by decide +kernel
theorem dL_law_536 : decode cL_law 536 = .ok (.invokevirtual 86, 3) := by decide +kernel
theorem dL_law_539 : decode cL_law 539 = .ok (.pop, 1) := by decide +kernel
theorem dL_law_540 : decode cL_law 540 = .ok (.goto 75, 3) := by decide +kernel
theorem dL_law_543 : decode cL_law 543 = .ok (.aload_n 1, 1) := by decide +kernel
theorem dL_law_544 : decode cL_law 544 = .ok (.iload 11, 2) := by decide +kernel
theorem dL_law_546 : decode cL_law 546 = .ok (.iload 7, 2) := by decide +kernel
theorem dL_law_548 : decode cL_law 548 = .ok (.invokestatic 57, 3) := by decide +kernel
theorem dL_law_551 : decode cL_law 551 = .ok (.invokevirtual 40, 3) := by decide +kernel
theorem dL_law_554 : decode cL_law 554 = .ok (.ifCond .le 61, 3) := by decide +kernel
theorem dL_law_557 : decode cL_law 557 = .ok (.iload 11, 2) := by decide +kernel
theorem dL_law_559 : decode cL_law 559 = .ok (.iload 7, 2) := by decide +kernel
theorem dL_law_561 : decode cL_law 561 = .ok (.invokestatic 57, 3) := by decide +kernel
theorem dL_law_564 : decode cL_law 564 = .ok (.istore 14, 2) := by decide +kernel
theorem dL_law_566 : decode cL_law 566 = .ok (.aload_n 1, 1) := by decide +kernel
theorem dL_law_567 : decode cL_law 567 = .ok (.iload 14, 2) := by decide +kernel
theorem dL_law_569 : decode cL_law 569 = .ok (.iconst 0, 1) := by decide +kernel
theorem dL_law_570 : decode cL_law 570 = .ok (.invokevirtual 43, 3) := by decide +kernel
theorem dL_law_573 : decode cL_law 573 = .ok (.istore 15, 2) := by decide +kernel
theorem dL_law_575 : decode cL_law 575 = .ok (.aload_n 1, 1) := by decide +kernel
theorem dL_law_576 : decode cL_law 576 = .ok (.iload 14, 2) := by decide +kernel
theorem dL_law_578 : decode cL_law 578 = .ok (.iconst 2, 1) := by decide +kernel
theorem dL_law_579 : decode cL_law 579 = .ok (.iload 11, 2) := by decide +kernel
theorem dL_law_581 : decode cL_law 581 = .ok (.iconst 4, 1) := by decide +kernel
theorem dL_law_582 : decode cL_law 582 = .ok (.ishr, 1) := by decide +kernel
theorem dL_law_583 : decode cL_law 583 = .ok (.bipush 7, 2) := by decide +kernel
theorem dL_law_585 : decode cL_law 585 = .ok (.invokestatic 57, 3) := by decide +kernel
theorem dL_law_588 : decode cL_law 588 = .ok (.iadd, 1) := by decide +kernel
theorem dL_law_589 : decode cL_law 589 = .ok (.invokevirtual 90, 3) := by decide +kernel
theorem dL_law_592 : decode cL_law 592 = .ok (.iconst 1, 1) := by decide +kernel
theorem dL_law_593 : decode cL_law 593 = .ok (.if_icmp .lt 19, 3) := by decide +kernel
theorem dL_law_596 : decode cL_law 596 = .ok (.aload_n 1, 1) := by decide +kernel
theorem dL_law_597 : decode cL_law 597 = .ok (.iload 14, 2) := by decide +kernel
theorem dL_law_599 : decode cL_law 599 = .ok (.iconst 0, 1) := by decide +kernel
theorem dL_law_600 : decode cL_law 600 = .ok (.invokevirtual 43, 3) := by decide +kernel
theorem dL_law_603 : decode cL_law 603 = .ok (.iload 15, 2) := by decide +kernel
theorem dL_law_605 : decode cL_law 605 = .ok (.if_icmp .ne 7, 3) := by decide +kernel
theorem dL_law_608 : decode cL_law 608 = .ok (.iconst 1, 1) := by decide +kernel
theorem dL_law_609 : decode cL_law 609 = .ok (.goto 4, 3) := by decide +kernel
theorem dL_law_612 : decode cL_law 612 = .ok (.iconst 0, 1) := by decide +kernel
theorem dL_law_613 : decode cL_law 613 = .ok (.istore 13, 2) := by decide +kernel
theorem dL_law_615 : decode cL_law 615 = .ok (.iload 13, 2) := by decide +kernel
theorem dL_law_617 : decode cL_law 617 = .ok (.ifCond .eq 33, 3) := by decide +kernel
theorem dL_law_620 : decode cL_law 620 = .ok (.aload_n 1, 1) := by decide +kernel
theorem dL_law_621 : decode cL_law 621 = .ok (.aload_n 2, 1) := by decide +kernel
theorem dL_law_622 : decode cL_law 622 = .ok (.aload_n 3, 1) := by decide +kernel
theorem dL_law_623 : decode cL_law 623 = .ok (.aload 6, 2) := by decide +kernel
theorem dL_law_625 : decode cL_law 625 = .ok (.iload 7, 2) := by decide +kernel
theorem dL_law_627 : decode cL_law 627 = .ok (.iload 8, 2) := by decide +kernel
theorem dL_law_629 : decode cL_law 629 = .ok (.invokestatic 93, 3) := by decide +kernel
theorem dL_law_632 : decode cL_law 632 = .ok (.ifCond .eq 18, 3) := by decide +kernel
theorem dL_law_635 : decode cL_law 635 = .ok (.aload_n 1, 1) := by decide +kernel
theorem dL_law_636 : decode cL_law 636 = .ok (.aload_n 2, 1) := by decide +kernel
theorem dL_law_637 : decode cL_law 637 = .ok (.aload_n 3, 1) := by decide +kernel
theorem dL_law_638 : decode cL_law 638 = .ok (.aload 4, 2) := by decide +kernel
theorem dL_law_640 : decode cL_law 640 = .ok (.aload 5, 2) := by decide +kernel
theorem dL_law_642 : decode cL_law 642 = .ok (.iload 8, 2) := by decide +kernel
theorem dL_law_644 : decode cL_law 644 = .ok (.invokestatic 97, 3) := by decide +kernel
theorem dL_law_647 : decode cL_law 647 = .ok (.ifCond .ne 5, 3) := by decide +kernel
theorem dL_law_650 : decode cL_law 650 = .ok (.iconst 0, 1) := by decide +kernel
theorem dL_law_651 : decode cL_law 651 = .ok (.ireturn, 1) := by decide +kernel
theorem dL_law_652 : decode cL_law 652 = .ok (.iinc 9 1, 3) := by decide +kernel
theorem dL_law_655 : decode cL_law 655 = .ok (.goto (-610), 3) := by decide +kernel
theorem dL_law_658 : decode cL_law 658 = .ok (.iconst 1, 1) := by decide +kernel
theorem dL_law_659 : decode cL_law 659 = .ok (.ireturn, 1) := by decide +kernel
