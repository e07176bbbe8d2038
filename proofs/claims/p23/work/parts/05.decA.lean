theorem dX0_init_0 : decode cX0_init 0 = .ok (.aload_n 0, 1) := by decide +kernel
theorem dX0_init_1 : decode cX0_init 1 = .ok (.invokespecial 3, 3) := by decide +kernel
theorem dX0_init_4 : decode cX0_init 4 = .ok (.aload_n 0, 1) := by decide +kernel
theorem dX0_init_5 : decode cX0_init 5 = .ok (.sipush 658, 3) := by decide +kernel
theorem dX0_init_8 : decode cX0_init 8 = .ok (.newarray .int, 2) := by decide +kernel
theorem dX0_init_10 : decode cX0_init 10 = .ok (.putfield 9, 3) := by decide +kernel
theorem dX0_init_13 : decode cX0_init 13 = .ok (.aload_n 0, 1) := by decide +kernel
theorem dX0_init_14 : decode cX0_init 14 = .ok (.iconst 0, 1) := by decide +kernel
theorem dX0_init_15 : decode cX0_init 15 = .ok (.putfield 15, 3) := by decide +kernel
theorem dX0_init_18 : decode cX0_init 18 = .ok (.return_, 1) := by decide +kernel
theorem dX0_empty_0 : decode cX0_empty 0 = .ok (.aload_n 0, 1) := by decide +kernel
theorem dX0_empty_1 : decode cX0_empty 1 = .ok (.iconst 0, 1) := by decide +kernel
theorem dX0_empty_2 : decode cX0_empty 2 = .ok (.putfield 15, 3) := by decide +kernel
theorem dX0_empty_5 : decode cX0_empty 5 = .ok (.return_, 1) := by decide +kernel
theorem dX0_append_0 : decode cX0_append 0 = .ok (.aload_n 0, 1) := by decide +kernel
theorem dX0_append_1 : decode cX0_append 1 = .ok (.getfield 15, 3) := by decide +kernel
theorem dX0_append_4 : decode cX0_append 4 = .ok (.ifCond .lt 35, 3) := by decide +kernel
theorem dX0_append_7 : decode cX0_append 7 = .ok (.aload_n 0, 1) := by decide +kernel
theorem dX0_append_8 : decode cX0_append 8 = .ok (.getfield 15, 3) := by decide +kernel
theorem dX0_append_11 : decode cX0_append 11 = .ok (.aload_n 0, 1) := by decide +kernel
theorem dX0_append_12 : decode cX0_append 12 = .ok (.getfield 9, 3) := by decide +kernel
theorem dX0_append_15 : decode cX0_append 15 = .ok (.arraylength, 1) := by decide +kernel
theorem dX0_append_16 : decode cX0_append 16 = .ok (.if_icmp .ge 23, 3) := by decide +kernel
theorem dX0_append_19 : decode cX0_append 19 = .ok (.aload_n 0, 1) := by decide +kernel
theorem dX0_append_20 : decode cX0_append 20 = .ok (.getfield 9, 3) := by decide +kernel
theorem dX0_append_23 : decode cX0_append 23 = .ok (.aload_n 0, 1) := by decide +kernel
theorem dX0_append_24 : decode cX0_append 24 = .ok (.getfield 15, 3) := by decide +kernel
theorem dX0_append_27 : decode cX0_append 27 = .ok (.iload_n 1, 1) := by decide +kernel
theorem dX0_append_28 : decode cX0_append 28 = .ok (.iastore, 1) := by decide +kernel
theorem dX0_append_29 : decode cX0_append 29 = .ok (.aload_n 0, 1) := by decide +kernel
theorem dX0_append_30 : decode cX0_append 30 = .ok (.dup, 1) := by decide +kernel
theorem dX0_append_31 : decode cX0_append 31 = .ok (.getfield 15, 3) := by decide +kernel
theorem dX0_append_34 : decode cX0_append 34 = .ok (.iconst 1, 1) := by decide +kernel
theorem dX0_append_35 : decode cX0_append 35 = .ok (.iadd, 1) := by decide +kernel
theorem dX0_append_36 : decode cX0_append 36 = .ok (.putfield 15, 3) := by decide +kernel
theorem dX0_append_39 : decode cX0_append 39 = .ok (.return_, 1) := by decide +kernel
theorem dX0_bitAt_0 : decode cX0_bitAt 0 = .ok (.iload_n 1, 1) := by decide +kernel
theorem dX0_bitAt_1 : decode cX0_bitAt 1 = .ok (.ifCond .lt 29, 3) := by decide +kernel
theorem dX0_bitAt_4 : decode cX0_bitAt 4 = .ok (.iload_n 1, 1) := by decide +kernel
theorem dX0_bitAt_5 : decode cX0_bitAt 5 = .ok (.aload_n 0, 1) := by decide +kernel
theorem dX0_bitAt_6 : decode cX0_bitAt 6 = .ok (.getfield 15, 3) := by decide +kernel
theorem dX0_bitAt_9 : decode cX0_bitAt 9 = .ok (.if_icmp .ge 21, 3) := by decide +kernel
theorem dX0_bitAt_12 : decode cX0_bitAt 12 = .ok (.iload_n 1, 1) := by decide +kernel
theorem dX0_bitAt_13 : decode cX0_bitAt 13 = .ok (.aload_n 0, 1) := by decide +kernel
theorem dX0_bitAt_14 : decode cX0_bitAt 14 = .ok (.getfield 9, 3) := by decide +kernel
theorem dX0_bitAt_17 : decode cX0_bitAt 17 = .ok (.arraylength, 1) := by decide +kernel
theorem dX0_bitAt_18 : decode cX0_bitAt 18 = .ok (.if_icmp .ge 12, 3) := by decide +kernel
theorem dX0_bitAt_21 : decode cX0_bitAt 21 = .ok (.aload_n 0, 1) := by decide +kernel
theorem dX0_bitAt_22 : decode cX0_bitAt 22 = .ok (.getfield 9, 3) := by decide +kernel
theorem dX0_bitAt_25 : decode cX0_bitAt 25 = .ok (.iload_n 1, 1) := by decide +kernel
theorem dX0_bitAt_26 : decode cX0_bitAt 26 = .ok (.iaload, 1) := by decide +kernel
theorem dX0_bitAt_27 : decode cX0_bitAt 27 = .ok (.goto 4, 3) := by decide +kernel
theorem dX0_bitAt_30 : decode cX0_bitAt 30 = .ok (.iconst 0, 1) := by decide +kernel
theorem dX0_bitAt_31 : decode cX0_bitAt 31 = .ok (.ireturn, 1) := by decide +kernel
theorem dX0_firstOne_0 : decode cX0_firstOne 0 = .ok (.iconst 0, 1) := by decide +kernel
theorem dX0_firstOne_1 : decode cX0_firstOne 1 = .ok (.iload_n 1, 1) := by decide +kernel
theorem dX0_firstOne_2 : decode cX0_firstOne 2 = .ok (.invokestatic 19, 3) := by decide +kernel
theorem dX0_firstOne_5 : decode cX0_firstOne 5 = .ok (.istore_n 2, 1) := by decide +kernel
theorem dX0_firstOne_6 : decode cX0_firstOne 6 = .ok (.iload_n 2, 1) := by decide +kernel
theorem dX0_firstOne_7 : decode cX0_firstOne 7 = .ok (.aload_n 0, 1) := by decide +kernel
theorem dX0_firstOne_8 : decode cX0_firstOne 8 = .ok (.getfield 15, 3) := by decide +kernel
theorem dX0_firstOne_11 : decode cX0_firstOne 11 = .ok (.if_icmp .ge 20, 3) := by decide +kernel
theorem dX0_firstOne_14 : decode cX0_firstOne 14 = .ok (.aload_n 0, 1) := by decide +kernel
theorem dX0_firstOne_15 : decode cX0_firstOne 15 = .ok (.iload_n 2, 1) := by decide +kernel
theorem dX0_firstOne_16 : decode cX0_firstOne 16 = .ok (.invokevirtual 25, 3) := by decide +kernel
theorem dX0_firstOne_19 : decode cX0_firstOne 19 = .ok (.iconst 1, 1) := by decide +kernel
theorem dX0_firstOne_20 : decode cX0_firstOne 20 = .ok (.if_icmp .ne 5, 3) := by decide +kernel
theorem dX0_firstOne_23 : decode cX0_firstOne 23 = .ok (.iload_n 2, 1) := by decide +kernel
theorem dX0_firstOne_24 : decode cX0_firstOne 24 = .ok (.ireturn, 1) := by decide +kernel
theorem dX0_firstOne_25 : decode cX0_firstOne 25 = .ok (.iinc 2 1, 3) := by decide +kernel
theorem dX0_firstOne_28 : decode cX0_firstOne 28 = .ok (.goto (-22), 3) := by decide +kernel
theorem dX0_firstOne_31 : decode cX0_firstOne 31 = .ok (.aload_n 0, 1) := by decide +kernel
theorem dX0_firstOne_32 : decode cX0_firstOne 32 = .ok (.getfield 15, 3) := by decide +kernel
theorem dX0_firstOne_35 : decode cX0_firstOne 35 = .ok (.ireturn, 1) := by decide +kernel
theorem dX1_init_0 : decode cX1_init 0 = .ok (.aload_n 0, 1) := by decide +kernel
theorem dX1_init_1 : decode cX1_init 1 = .ok (.invokespecial 3, 3) := by decide +kernel
theorem dX1_init_4 : decode cX1_init 4 = .ok (.aload_n 0, 1) := by decide +kernel
theorem dX1_init_5 : decode cX1_init 5 = .ok (.new 9, 3) := by decide +kernel
theorem dX1_init_8 : decode cX1_init 8 = .ok (.dup, 1) := by decide +kernel
theorem dX1_init_9 : decode cX1_init 9 = .ok (.invokespecial 11, 3) := by decide +kernel
theorem dX1_init_12 : decode cX1_init 12 = .ok (.putfield 12, 3) := by decide +kernel
theorem dX1_init_15 : decode cX1_init 15 = .ok (.aload_n 0, 1) := by decide +kernel
theorem dX1_init_16 : decode cX1_init 16 = .ok (.new 18, 3) := by decide +kernel
theorem dX1_init_19 : decode cX1_init 19 = .ok (.dup, 1) := by decide +kernel
theorem dX1_init_20 : decode cX1_init 20 = .ok (.invokespecial 20, 3) := by decide +kernel
theorem dX1_init_23 : decode cX1_init 23 = .ok (.putfield 21, 3) := by decide +kernel
theorem dX1_init_26 : decode cX1_init 26 = .ok (.aload_n 0, 1) := by decide +kernel
theorem dX1_init_27 : decode cX1_init 27 = .ok (.new 25, 3) := by decide +kernel
theorem dX1_init_30 : decode cX1_init 30 = .ok (.dup, 1) := by decide +kernel
theorem dX1_init_31 : decode cX1_init 31 = .ok (.invokespecial 27, 3) := by decide +kernel
theorem dX1_init_34 : decode cX1_init 34 = .ok (.putfield 28, 3) := by decide +kernel
theorem dX1_init_37 : decode cX1_init 37 = .ok (.aload_n 0, 1) := by decide +kernel
theorem dX1_init_38 : decode cX1_init 38 = .ok (.bipush 40, 2) := by decide +kernel
theorem dX1_init_40 : decode cX1_init 40 = .ok (.newarray .int, 2) := by decide +kernel
theorem dX1_init_42 : decode cX1_init 42 = .ok (.putfield 32, 3) := by decide +kernel
theorem dX1_init_45 : decode cX1_init 45 = .ok (.aload_n 0, 1) := by decide +kernel
theorem dX1_init_46 : decode cX1_init 46 = .ok (.iconst 0, 1) := by decide +kernel
theorem dX1_init_47 : decode cX1_init 47 = .ok (.putfield 36, 3) := by decide +kernel
theorem dX1_init_50 : decode cX1_init 50 = .ok (.aload_n 0, 1) := by decide +kernel
theorem dX1_init_51 : decode cX1_init 51 = .ok (.iconst 0, 1) := by decide +kernel
theorem dX1_init_52 : decode cX1_init 52 = .ok (.putfield 40, 3) := by decide +kernel
theorem dX1_init_55 : decode cX1_init 55 = .ok (.aload_n 0, 1) := by decide +kernel
theorem dX1_init_56 : decode cX1_init 56 = .ok (.bipush 8, 2) := by decide +kernel
theorem dX1_init_58 : decode cX1_init 58 = .ok (.sipush 400, 3) := by decide +kernel
theorem dX1_init_61 : decode cX1_init 61 = .ok (.invokevirtual 43, 3) := by decide +kernel
theorem dX1_init_64 : decode cX1_init 64 = .ok (.return_, 1) := by decide +kernel
theorem dX1_start_0 : decode cX1_start 0 = .ok (.aload_n 0, 1) := by decide +kernel
theorem dX1_start_1 : decode cX1_start 1 = .ok (.getfield 12, 3) := by decide +kernel
theorem dX1_start_4 : decode cX1_start 4 = .ok (.iload_n 1, 1) := by decide +kernel
theorem dX1_start_5 : decode cX1_start 5 = .ok (.iload_n 2, 1) := by decide +kernel
theorem dX1_start_6 : decode cX1_start 6 = .ok (.invokevirtual 47, 3) := by decide +kernel
theorem dX1_start_9 : decode cX1_start 9 = .ok (.aload_n 0, 1) := by decide +kernel
theorem dX1_start_10 : decode cX1_start 10 = .ok (.getfield 21, 3) := by decide +kernel
theorem dX1_start_13 : decode cX1_start 13 = .ok (.invokevirtual 48, 3) := by decide +kernel
theorem dX1_start_16 : decode cX1_start 16 = .ok (.aload_n 0, 1) := by decide +kernel
theorem dX1_start_17 : decode cX1_start 17 = .ok (.getfield 28, 3) := by decide +kernel
theorem dX1_start_20 : decode cX1_start 20 = .ok (.invokevirtual 50, 3) := by decide +kernel
theorem dX1_start_23 : decode cX1_start 23 = .ok (.aload_n 0, 1) := by decide +kernel
theorem dX1_start_24 : decode cX1_start 24 = .ok (.iconst 0, 1) := by decide +kernel
theorem dX1_start_25 : decode cX1_start 25 = .ok (.putfield 36, 3) := by decide +kernel
theorem dX1_start_28 : decode cX1_start 28 = .ok (.aload_n 0, 1) := by decide +kernel
theorem dX1_start_29 : decode cX1_start 29 = .ok (.iconst 0, 1) := by decide +kernel
theorem dX1_start_30 : decode cX1_start 30 = .ok (.putfield 40, 3) := by decide +kernel
theorem dX1_start_33 : decode cX1_start 33 = .ok (.return_, 1) := by decide +kernel
theorem dX1_add_0 : decode cX1_add 0 = .ok (.aload_n 0, 1) := by decide +kernel
theorem dX1_add_1 : decode cX1_add 1 = .ok (.getfield 28, 3) := by decide +kernel
theorem dX1_add_4 : decode cX1_add 4 = .ok (.getfield 53, 3) := by decide +kernel
theorem dX1_add_7 : decode cX1_add 7 = .ok (.istore_n 2, 1) := by decide +kernel
theorem dX1_add_8 : decode cX1_add 8 = .ok (.aload_n 0, 1) := by decide +kernel
theorem dX1_add_9 : decode cX1_add 9 = .ok (.iload_n 1, 1) := by decide +kernel
theorem dX1_add_10 : decode cX1_add 10 = .ok (.invokevirtual 54, 3) := by decide +kernel
theorem dX1_add_13 : decode cX1_add 13 = .ok (.aload_n 0, 1) := by decide +kernel
theorem dX1_add_14 : decode cX1_add 14 = .ok (.getfield 12, 3) := by decide +kernel
theorem dX1_add_17 : decode cX1_add 17 = .ok (.iload_n 1, 1) := by decide +kernel
theorem dX1_add_18 : decode cX1_add 18 = .ok (.invokevirtual 58, 3) := by decide +kernel
theorem dX1_add_21 : decode cX1_add 21 = .ok (.aload_n 0, 1) := by decide +kernel
theorem dX1_add_22 : decode cX1_add 22 = .ok (.getfield 28, 3) := by decide +kernel
theorem dX1_add_25 : decode cX1_add 25 = .ok (.getfield 53, 3) := by decide +kernel
theorem dX1_add_28 : decode cX1_add 28 = .ok (.iload_n 2, 1) := by decide +kernel
theorem dX1_add_29 : decode cX1_add 29 = .ok (.isub, 1) := by decide +kernel
theorem dX1_add_30 : decode cX1_add 30 = .ok (.istore_n 3, 1) := by decide +kernel
theorem dX1_add_31 : decode cX1_add 31 = .ok (.aload_n 0, 1) := by decide +kernel
theorem dX1_add_32 : decode cX1_add 32 = .ok (.getfield 36, 3) := by decide +kernel
theorem dX1_add_35 : decode cX1_add 35 = .ok (.ifCond .lt 35, 3) := by decide +kernel
theorem dX1_add_38 : decode cX1_add 38 = .ok (.aload_n 0, 1) := by decide +kernel
theorem dX1_add_39 : decode cX1_add 39 = .ok (.getfield 36, 3) := by decide +kernel
theorem dX1_add_42 : decode cX1_add 42 = .ok (.aload_n 0, 1) := by decide +kernel
theorem dX1_add_43 : decode cX1_add 43 = .ok (.getfield 32, 3) := by decide +kernel
theorem dX1_add_46 : decode cX1_add 46 = .ok (.arraylength, 1) := by decide +kernel
theorem dX1_add_47 : decode cX1_add 47 = .ok (.if_icmp .ge 23, 3) := by decide +kernel
theorem dX1_add_50 : decode cX1_add 50 = .ok (.aload_n 0, 1) := by decide +kernel
theorem dX1_add_51 : decode cX1_add 51 = .ok (.getfield 32, 3) := by decide +kernel
theorem dX1_add_54 : decode cX1_add 54 = .ok (.aload_n 0, 1) := by decide +kernel
theorem dX1_add_55 : decode cX1_add 55 = .ok (.getfield 36, 3) := by decide +kernel
theorem dX1_add_58 : decode cX1_add 58 = .ok (.iload_n 3, 1) := by decide +kernel
theorem dX1_add_59 : decode cX1_add 59 = .ok (.iastore, 1) := by decide +kernel
theorem dX1_add_60 : decode cX1_add 60 = .ok (.aload_n 0, 1) := by decide +kernel
theorem dX1_add_61 : decode cX1_add 61 = .ok (.dup, 1) := by decide +kernel
theorem dX1_add_62 : decode cX1_add 62 = .ok (.getfield 36, 3) := by decide +kernel
theorem dX1_add_65 : decode cX1_add 65 = .ok (.iconst 1, 1) := by decide +kernel
theorem dX1_add_66 : decode cX1_add 66 = .ok (.iadd, 1) := by decide +kernel
theorem dX1_add_67 : decode cX1_add 67 = .ok (.putfield 36, 3) := by decide +kernel
theorem dX1_add_70 : decode cX1_add 70 = .ok (.iload_n 3, 1) := by decide +kernel
theorem dX1_add_71 : decode cX1_add 71 = .ok (.ireturn, 1) := by decide +kernel
theorem dX1_addAll_0 : decode cX1_addAll 0 = .ok (.iconst 0, 1) := by decide +kernel
theorem dX1_addAll_1 : decode cX1_addAll 1 = .ok (.istore_n 2, 1) := by decide +kernel
theorem dX1_addAll_2 : decode cX1_addAll 2 = .ok (.iload_n 2, 1) := by decide +kernel
theorem dX1_addAll_3 : decode cX1_addAll 3 = .ok (.aload_n 1, 1) := by decide +kernel
theorem dX1_addAll_4 : decode cX1_addAll 4 = .ok (.getfield 61, 3) := by decide +kernel
theorem dX1_addAll_7 : decode cX1_addAll 7 = .ok (.if_icmp .ge 19, 3) := by decide +kernel
theorem dX1_addAll_10 : decode cX1_addAll 10 = .ok (.aload_n 0, 1) := by decide +kernel
theorem dX1_addAll_11 : decode cX1_addAll 11 = .ok (.aload_n 1, 1) := by decide +kernel
theorem dX1_addAll_12 : decode cX1_addAll 12 = .ok (.iload_n 2, 1) := by decide +kernel
theorem dX1_addAll_13 : decode cX1_addAll 13 = .ok (.invokevirtual 64, 3) := by decide +kernel
theorem dX1_addAll_16 : decode cX1_addAll 16 = .ok (.invokevirtual 68, 3) := by decide +kernel
theorem dX1_addAll_19 : decode cX1_addAll 19 = .ok (.pop, 1) := by decide +kernel
theorem dX1_addAll_20 : decode cX1_addAll 20 = .ok (.iinc 2 1, 3) := by decide +kernel
theorem dX1_addAll_23 : decode cX1_addAll 23 = .ok (.goto (-21), 3) := by decide +kernel
theorem dX1_addAll_26 : decode cX1_addAll 26 = .ok (.return_, 1) := by decide +kernel
theorem dX1_close_0 : decode cX1_close 0 = .ok (.aload_n 0, 1) := by decide +kernel
theorem dX1_close_1 : decode cX1_close 1 = .ok (.bipush 8, 2) := by decide +kernel
theorem dX1_close_3 : decode cX1_close 3 = .ok (.invokevirtual 54, 3) := by decide +kernel
theorem dX1_close_6 : decode cX1_close 6 = .ok (.aload_n 0, 1) := by decide +kernel
theorem dX1_close_7 : decode cX1_close 7 = .ok (.dup, 1) := by decide +kernel
theorem dX1_close_8 : decode cX1_close 8 = .ok (.getfield 40, 3) := by decide +kernel
theorem dX1_close_11 : decode cX1_close 11 = .ok (.iconst 1, 1) := by decide +kernel
theorem dX1_close_12 : decode cX1_close 12 = .ok (.iadd, 1) := by decide +kernel
theorem dX1_close_13 : decode cX1_close 13 = .ok (.putfield 40, 3) := by decide +kernel
theorem dX1_close_16 : decode cX1_close 16 = .ok (.aload_n 0, 1) := by decide +kernel
theorem dX1_close_17 : decode cX1_close 17 = .ok (.aload_n 0, 1) := by decide +kernel
theorem dX1_close_18 : decode cX1_close 18 = .ok (.getfield 21, 3) := by decide +kernel
theorem dX1_close_21 : decode cX1_close 21 = .ok (.getfield 71, 3) := by decide +kernel
theorem dX1_close_24 : decode cX1_close 24 = .ok (.sipush 16384, 3) := by decide +kernel
theorem dX1_close_27 : decode cX1_close 27 = .ok (.if_icmp .ge 7, 3) := by decide +kernel
theorem dX1_close_30 : decode cX1_close 30 = .ok (.iconst 0, 1) := by decide +kernel
theorem dX1_close_31 : decode cX1_close 31 = .ok (.goto 4, 3) := by decide +kernel
theorem dX1_close_34 : decode cX1_close 34 = .ok (.iconst 1, 1) := by decide +kernel
theorem dX1_close_35 : decode cX1_close 35 = .ok (.invokevirtual 74, 3) := by decide +kernel
theorem dX1_close_38 : decode cX1_close 38 = .ok (.return_, 1) := by decide +kernel
theorem dX1_costAt_0 : decode cX1_costAt 0 = .ok (.iload_n 1, 1) := by decide +kernel
theorem dX1_costAt_1 : decode cX1_costAt 1 = .ok (.ifCond .lt 21, 3) := by decide +kernel
theorem dX1_costAt_4 : decode cX1_costAt 4 = .ok (.iload_n 1, 1) := by decide +kernel
theorem dX1_costAt_5 : decode cX1_costAt 5 = .ok (.aload_n 0, 1) := by decide +kernel
theorem dX1_costAt_6 : decode cX1_costAt 6 = .ok (.getfield 32, 3) := by decide +kernel
theorem dX1_costAt_9 : decode cX1_costAt 9 = .ok (.arraylength, 1) := by decide +kernel
theorem dX1_costAt_10 : decode cX1_costAt 10 = .ok (.if_icmp .ge 12, 3) := by decide +kernel
theorem dX1_costAt_13 : decode cX1_costAt 13 = .ok (.aload_n 0, 1) := by decide +kernel
theorem dX1_costAt_14 : decode cX1_costAt 14 = .ok (.getfield 32, 3) := by decide +kernel
theorem dX1_costAt_17 : decode cX1_costAt 17 = .ok (.iload_n 1, 1) := by decide +kernel
theorem dX1_costAt_18 : decode cX1_costAt 18 = .ok (.iaload, 1) := by decide +kernel
theorem dX1_costAt_19 : decode cX1_costAt 19 = .ok (.goto 4, 3) := by decide +kernel
theorem dX1_costAt_22 : decode cX1_costAt 22 = .ok (.iconst 0, 1) := by decide +kernel
theorem dX1_costAt_23 : decode cX1_costAt 23 = .ok (.ireturn, 1) := by decide +kernel
theorem dX1_dearest_0 : decode cX1_dearest 0 = .ok (.iconst 0, 1) := by decide +kernel
theorem dX1_dearest_1 : decode cX1_dearest 1 = .ok (.istore_n 1, 1) := by decide +kernel
theorem dX1_dearest_2 : decode cX1_dearest 2 = .ok (.iconst 0, 1) := by decide +kernel
theorem dX1_dearest_3 : decode cX1_dearest 3 = .ok (.istore_n 2, 1) := by decide +kernel
theorem dX1_dearest_4 : decode cX1_dearest 4 = .ok (.iload_n 2, 1) := by decide +kernel
theorem dX1_dearest_5 : decode cX1_dearest 5 = .ok (.aload_n 0, 1) := by decide +kernel
theorem dX1_dearest_6 : decode cX1_dearest 6 = .ok (.getfield 36, 3) := by decide +kernel
theorem dX1_dearest_9 : decode cX1_dearest 9 = .ok (.if_icmp .ge 19, 3) := by decide +kernel
theorem dX1_dearest_12 : decode cX1_dearest 12 = .ok (.iload_n 1, 1) := by decide +kernel
theorem dX1_dearest_13 : decode cX1_dearest 13 = .ok (.aload_n 0, 1) := by decide +kernel
theorem dX1_dearest_14 : decode cX1_dearest 14 = .ok (.iload_n 2, 1) := by decide +kernel
theorem dX1_dearest_15 : decode cX1_dearest 15 = .ok (.invokevirtual 77, 3) := by decide +kernel
theorem dX1_dearest_18 : decode cX1_dearest 18 = .ok (.invokestatic 80, 3) := by decide +kernel
theorem dX1_dearest_21 : decode cX1_dearest 21 = .ok (.istore_n 1, 1) := by decide +kernel
theorem dX1_dearest_22 : decode cX1_dearest 22 = .ok (.iinc 2 1, 3) := by decide +kernel
theorem dX1_dearest_25 : decode cX1_dearest 25 = .ok (.goto (-21), 3) := by decide +kernel
theorem dX1_dearest_28 : decode cX1_dearest 28 = .ok (.iload_n 1, 1) := by decide +kernel
theorem dX1_dearest_29 : decode cX1_dearest 29 = .ok (.ireturn, 1) := by decide +kernel
theorem dX1_narrow_0 : decode cX1_narrow 0 = .ok (.aload_n 0, 1) := by decide +kernel
theorem dX1_narrow_1 : decode cX1_narrow 1 = .ok (.getfield 21, 3) := by decide +kernel
theorem dX1_narrow_4 : decode cX1_narrow 4 = .ok (.aload_n 0, 1) := by decide +kernel
theorem dX1_narrow_5 : decode cX1_narrow 5 = .ok (.getfield 12, 3) := by decide +kernel
theorem dX1_narrow_8 : decode cX1_narrow 8 = .ok (.iload_n 1, 1) := by decide +kernel
theorem dX1_narrow_9 : decode cX1_narrow 9 = .ok (.invokevirtual 86, 3) := by decide +kernel
theorem dX1_narrow_12 : decode cX1_narrow 12 = .ok (.iconst 0, 1) := by decide +kernel
theorem dX1_narrow_13 : decode cX1_narrow 13 = .ok (.istore_n 2, 1) := by decide +kernel
theorem dX1_narrow_14 : decode cX1_narrow 14 = .ok (.iload_n 2, 1) := by decide +kernel
theorem dX1_narrow_15 : decode cX1_narrow 15 = .ok (.bipush 16, 2) := by decide +kernel
theorem dX1_narrow_17 : decode cX1_narrow 17 = .ok (.if_icmp .ge 58, 3) := by decide +kernel
theorem dX1_narrow_20 : decode cX1_narrow 20 = .ok (.aload_n 0, 1) := by decide +kernel
theorem dX1_narrow_21 : decode cX1_narrow 21 = .ok (.getfield 21, 3) := by decide +kernel
theorem dX1_narrow_24 : decode cX1_narrow 24 = .ok (.invokevirtual 90, 3) := by decide +kernel
theorem dX1_narrow_27 : decode cX1_narrow 27 = .ok (.istore_n 3, 1) := by decide +kernel
theorem dX1_narrow_28 : decode cX1_narrow 28 = .ok (.iload_n 3, 1) := by decide +kernel
theorem dX1_narrow_29 : decode cX1_narrow 29 = .ok (.iconst (-1), 1) := by decide +kernel
theorem dX1_narrow_30 : decode cX1_narrow 30 = .ok (.if_icmp .ne 4, 3) := by decide +kernel
theorem dX1_narrow_33 : decode cX1_narrow 33 = .ok (.return_, 1) := by decide +kernel
theorem dX1_narrow_34 : decode cX1_narrow 34 = .ok (.iload_n 3, 1) := by decide +kernel
theorem dX1_narrow_35 : decode cX1_narrow 35 = .ok (.sipush 16384, 3) := by decide +kernel
theorem dX1_narrow_38 : decode cX1_narrow 38 = .ok (.if_icmp .ne 16, 3) := by decide +kernel
theorem dX1_narrow_41 : decode cX1_narrow 41 = .ok (.aload_n 0, 1) := by decide +kernel
theorem dX1_narrow_42 : decode cX1_narrow 42 = .ok (.dup, 1) := by decide +kernel
theorem dX1_narrow_43 : decode cX1_narrow 43 = .ok (.getfield 40, 3) := by decide +kernel
theorem dX1_narrow_46 : decode cX1_narrow 46 = .ok (.iconst 1, 1) := by decide +kernel
theorem dX1_narrow_47 : decode cX1_narrow 47 = .ok (.iadd, 1) := by decide +kernel
theorem dX1_narrow_48 : decode cX1_narrow 48 = .ok (.putfield 40, 3) := by decide +kernel
theorem dX1_narrow_51 : decode cX1_narrow 51 = .ok (.goto 18, 3) := by decide +kernel
theorem dX1_narrow_54 : decode cX1_narrow 54 = .ok (.aload_n 0, 1) := by decide +kernel
theorem dX1_narrow_55 : decode cX1_narrow 55 = .ok (.iload_n 3, 1) := by decide +kernel
theorem dX1_narrow_56 : decode cX1_narrow 56 = .ok (.ldc 94, 2) := by decide +kernel
theorem dX1_narrow_58 : decode cX1_narrow 58 = .ok (.if_icmp .ne 7, 3) := by decide +kernel
theorem dX1_narrow_61 : decode cX1_narrow 61 = .ok (.iconst 1, 1) := by decide +kernel
theorem dX1_narrow_62 : decode cX1_narrow 62 = .ok (.goto 4, 3) := by decide +kernel
theorem dX1_narrow_65 : decode cX1_narrow 65 = .ok (.iconst 0, 1) := by decide +kernel
theorem dX1_narrow_66 : decode cX1_narrow 66 = .ok (.invokevirtual 74, 3) := by decide +kernel
theorem dX1_narrow_69 : decode cX1_narrow 69 = .ok (.iinc 2 1, 3) := by decide +kernel
theorem dX1_narrow_72 : decode cX1_narrow 72 = .ok (.goto (-58), 3) := by decide +kernel
theorem dX1_narrow_75 : decode cX1_narrow 75 = .ok (.return_, 1) := by decide +kernel
theorem dX1_writeBit_0 : decode cX1_writeBit 0 = .ok (.aload_n 0, 1) := by decide +kernel
theorem dX1_writeBit_1 : decode cX1_writeBit 1 = .ok (.getfield 28, 3) := by decide +kernel
theorem dX1_writeBit_4 : decode cX1_writeBit 4 = .ok (.iload_n 1, 1) := by decide +kernel
theorem dX1_writeBit_5 : decode cX1_writeBit 5 = .ok (.invokevirtual 95, 3) := by decide +kernel
theorem dX1_writeBit_8 : decode cX1_writeBit 8 = .ok (.iconst 0, 1) := by decide +kernel
theorem dX1_writeBit_9 : decode cX1_writeBit 9 = .ok (.istore_n 2, 1) := by decide +kernel
theorem dX1_writeBit_10 : decode cX1_writeBit 10 = .ok (.iload_n 2, 1) := by decide +kernel
theorem dX1_writeBit_11 : decode cX1_writeBit 11 = .ok (.aload_n 0, 1) := by decide +kernel
theorem dX1_writeBit_12 : decode cX1_writeBit 12 = .ok (.getfield 40, 3) := by decide +kernel
theorem dX1_writeBit_15 : decode cX1_writeBit 15 = .ok (.if_icmp .ge 19, 3) := by decide +kernel
theorem dX1_writeBit_18 : decode cX1_writeBit 18 = .ok (.aload_n 0, 1) := by decide +kernel
theorem dX1_writeBit_19 : decode cX1_writeBit 19 = .ok (.getfield 28, 3) := by decide +kernel
theorem dX1_writeBit_22 : decode cX1_writeBit 22 = .ok (.iconst 1, 1) := by decide +kernel
theorem dX1_writeBit_23 : decode cX1_writeBit 23 = .ok (.iload_n 1, 1) := by decide +kernel
theorem dX1_writeBit_24 : decode cX1_writeBit 24 = .ok (.isub, 1) := by decide +kernel
theorem dX1_writeBit_25 : decode cX1_writeBit 25 = .ok (.invokevirtual 95, 3) := by decide +kernel
theorem dX1_writeBit_28 : decode cX1_writeBit 28 = .ok (.iinc 2 1, 3) := by decide +kernel
theorem dX1_writeBit_31 : decode cX1_writeBit 31 = .ok (.goto (-21), 3) := by decide +kernel
theorem dX1_writeBit_34 : decode cX1_writeBit 34 = .ok (.aload_n 0, 1) := by decide +kernel
theorem dX1_writeBit_35 : decode cX1_writeBit 35 = .ok (.iconst 0, 1) := by decide +kernel
theorem dX1_writeBit_36 : decode cX1_writeBit 36 = .ok (.putfield 40, 3) := by decide +kernel
theorem dX1_writeBit_39 : decode cX1_writeBit 39 = .ok (.return_, 1) := by decide +kernel
theorem dX2_init_0 : decode cX2_init 0 = .ok (.aload_n 0, 1) := by decide +kernel
theorem dX2_init_1 : decode cX2_init 1 = .ok (.invokespecial 3, 3) := by decide +kernel
theorem dX2_init_4 : decode cX2_init 4 = .ok (.aload_n 0, 1) := by decide +kernel
theorem dX2_init_5 : decode cX2_init 5 = .ok (.bipush 9, 2) := by decide +kernel
theorem dX2_init_7 : decode cX2_init 7 = .ok (.newarray .int, 2) := by decide +kernel
theorem dX2_init_9 : decode cX2_init 9 = .ok (.putfield 9, 3) := by decide +kernel
theorem dX2_init_12 : decode cX2_init 12 = .ok (.aload_n 0, 1) := by decide +kernel
theorem dX2_init_13 : decode cX2_init 13 = .ok (.iconst 0, 1) := by decide +kernel
theorem dX2_init_14 : decode cX2_init 14 = .ok (.putfield 15, 3) := by decide +kernel
theorem dX2_init_17 : decode cX2_init 17 = .ok (.aload_n 0, 1) := by decide +kernel
theorem dX2_init_18 : decode cX2_init 18 = .ok (.iconst 0, 1) := by decide +kernel
theorem dX2_init_19 : decode cX2_init 19 = .ok (.putfield 19, 3) := by decide +kernel
theorem dX2_init_22 : decode cX2_init 22 = .ok (.aload_n 0, 1) := by decide +kernel
theorem dX2_init_23 : decode cX2_init 23 = .ok (.bipush 8, 2) := by decide +kernel
theorem dX2_init_25 : decode cX2_init 25 = .ok (.putfield 22, 3) := by decide +kernel
theorem dX2_init_28 : decode cX2_init 28 = .ok (.aload_n 0, 1) := by decide +kernel
theorem dX2_init_29 : decode cX2_init 29 = .ok (.sipush 400, 3) := by decide +kernel
theorem dX2_init_32 : decode cX2_init 32 = .ok (.putfield 25, 3) := by decide +kernel
theorem dX2_init_35 : decode cX2_init 35 = .ok (.return_, 1) := by decide +kernel
theorem dX2_start_0 : decode cX2_start 0 = .ok (.iconst 0, 1) := by decide +kernel
theorem dX2_start_1 : decode cX2_start 1 = .ok (.istore_n 3, 1) := by decide +kernel
theorem dX2_start_2 : decode cX2_start 2 = .ok (.iload_n 3, 1) := by decide +kernel
theorem dX2_start_3 : decode cX2_start 3 = .ok (.aload_n 0, 1) := by decide +kernel
theorem dX2_start_4 : decode cX2_start 4 = .ok (.getfield 9, 3) := by decide +kernel
theorem dX2_start_7 : decode cX2_start 7 = .ok (.arraylength, 1) := by decide +kernel
theorem dX2_start_8 : decode cX2_start 8 = .ok (.if_icmp .ge 16, 3) := by decide +kernel
theorem dX2_start_11 : decode cX2_start 11 = .ok (.aload_n 0, 1) := by decide +kernel
theorem dX2_start_12 : decode cX2_start 12 = .ok (.getfield 9, 3) := by decide +kernel
theorem dX2_start_15 : decode cX2_start 15 = .ok (.iload_n 3, 1) := by decide +kernel
theorem dX2_start_16 : decode cX2_start 16 = .ok (.iconst 1, 1) := by decide +kernel
theorem dX2_start_17 : decode cX2_start 17 = .ok (.iastore, 1) := by decide +kernel
theorem dX2_start_18 : decode cX2_start 18 = .ok (.iinc 3 1, 3) := by decide +kernel
theorem dX2_start_21 : decode cX2_start 21 = .ok (.goto (-19), 3) := by decide +kernel
theorem dX2_start_24 : decode cX2_start 24 = .ok (.aload_n 0, 1) := by decide +kernel
theorem dX2_start_25 : decode cX2_start 25 = .ok (.aload_n 0, 1) := by decide +kernel
theorem dX2_start_26 : decode cX2_start 26 = .ok (.getfield 9, 3) := by decide +kernel
theorem dX2_start_29 : decode cX2_start 29 = .ok (.arraylength, 1) := by decide +kernel
theorem dX2_start_30 : decode cX2_start 30 = .ok (.putfield 15, 3) := by decide +kernel
theorem dX2_start_33 : decode cX2_start 33 = .ok (.aload_n 0, 1) := by decide +kernel
theorem dX2_start_34 : decode cX2_start 34 = .ok (.iconst 0, 1) := by decide +kernel
theorem dX2_start_35 : decode cX2_start 35 = .ok (.putfield 19, 3) := by decide +kernel
theorem dX2_start_38 : decode cX2_start 38 = .ok (.aload_n 0, 1) := by decide +kernel
theorem dX2_start_39 : decode cX2_start 39 = .ok (.iload_n 1, 1) := by decide +kernel
theorem dX2_start_40 : decode cX2_start 40 = .ok (.putfield 22, 3) := by decide +kernel
theorem dX2_start_43 : decode cX2_start 43 = .ok (.aload_n 0, 1) := by decide +kernel
theorem dX2_start_44 : decode cX2_start 44 = .ok (.iload_n 2, 1) := by decide +kernel
theorem dX2_start_45 : decode cX2_start 45 = .ok (.putfield 25, 3) := by decide +kernel
theorem dX2_start_48 : decode cX2_start 48 = .ok (.return_, 1) := by decide +kernel
theorem dX2_countAt_0 : decode cX2_countAt 0 = .ok (.iload_n 1, 1) := by decide +kernel
theorem dX2_countAt_1 : decode cX2_countAt 1 = .ok (.ifCond .lt 21, 3) := by decide +kernel
theorem dX2_countAt_4 : decode cX2_countAt 4 = .ok (.iload_n 1, 1) := by decide +kernel
theorem dX2_countAt_5 : decode cX2_countAt 5 = .ok (.aload_n 0, 1) := by decide +kernel
theorem dX2_countAt_6 : decode cX2_countAt 6 = .ok (.getfield 9, 3) := by decide +kernel
theorem dX2_countAt_9 : decode cX2_countAt 9 = .ok (.arraylength, 1) := by decide +kernel
theorem dX2_countAt_10 : decode cX2_countAt 10 = .ok (.if_icmp .ge 12, 3) := by decide +kernel
theorem dX2_countAt_13 : decode cX2_countAt 13 = .ok (.aload_n 0, 1) := by decide +kernel
theorem dX2_countAt_14 : decode cX2_countAt 14 = .ok (.getfield 9, 3) := by decide +kernel
theorem dX2_countAt_17 : decode cX2_countAt 17 = .ok (.iload_n 1, 1) := by decide +kernel
theorem dX2_countAt_18 : decode cX2_countAt 18 = .ok (.iaload, 1) := by decide +kernel
theorem dX2_countAt_19 : decode cX2_countAt 19 = .ok (.goto 4, 3) := by decide +kernel
theorem dX2_countAt_22 : decode cX2_countAt 22 = .ok (.iconst 0, 1) := by decide +kernel
theorem dX2_countAt_23 : decode cX2_countAt 23 = .ok (.ireturn, 1) := by decide +kernel
theorem dX2_below_0 : decode cX2_below 0 = .ok (.iconst 0, 1) := by decide +kernel
theorem dX2_below_1 : decode cX2_below 1 = .ok (.istore_n 2, 1) := by decide +kernel
theorem dX2_below_2 : decode cX2_below 2 = .ok (.iconst 0, 1) := by decide +kernel
theorem dX2_below_3 : decode cX2_below 3 = .ok (.istore_n 3, 1) := by decide +kernel
theorem dX2_below_4 : decode cX2_below 4 = .ok (.iload_n 3, 1) := by decide +kernel
theorem dX2_below_5 : decode cX2_below 5 = .ok (.iload_n 1, 1) := by decide +kernel
theorem dX2_below_6 : decode cX2_below 6 = .ok (.if_icmp .ge 27, 3) := by decide +kernel
theorem dX2_below_9 : decode cX2_below 9 = .ok (.iload_n 3, 1) := by decide +kernel
theorem dX2_below_10 : decode cX2_below 10 = .ok (.aload_n 0, 1) := by decide +kernel
theorem dX2_below_11 : decode cX2_below 11 = .ok (.getfield 9, 3) := by decide +kernel
theorem dX2_below_14 : decode cX2_below 14 = .ok (.arraylength, 1) := by decide +kernel
theorem dX2_below_15 : decode cX2_below 15 = .ok (.if_icmp .ge 18, 3) := by decide +kernel
theorem dX2_below_18 : decode cX2_below 18 = .ok (.iload_n 2, 1) := by decide +kernel
theorem dX2_below_19 : decode cX2_below 19 = .ok (.aload_n 0, 1) := by decide +kernel
theorem dX2_below_20 : decode cX2_below 20 = .ok (.getfield 9, 3) := by decide +kernel
theorem dX2_below_23 : decode cX2_below 23 = .ok (.iload_n 3, 1) := by decide +kernel
theorem dX2_below_24 : decode cX2_below 24 = .ok (.iaload, 1) := by decide +kernel
theorem dX2_below_25 : decode cX2_below 25 = .ok (.iadd, 1) := by decide +kernel
theorem dX2_below_26 : decode cX2_below 26 = .ok (.istore_n 2, 1) := by decide +kernel
theorem dX2_below_27 : decode cX2_below 27 = .ok (.iinc 3 1, 3) := by decide +kernel
theorem dX2_below_30 : decode cX2_below 30 = .ok (.goto (-26), 3) := by decide +kernel
theorem dX2_below_33 : decode cX2_below 33 = .ok (.iload_n 2, 1) := by decide +kernel
theorem dX2_below_34 : decode cX2_below 34 = .ok (.ireturn, 1) := by decide +kernel
theorem dX2_letterWith_0 : decode cX2_letterWith 0 = .ok (.iconst 0, 1) := by decide +kernel
theorem dX2_letterWith_1 : decode cX2_letterWith 1 = .ok (.istore_n 2, 1) := by decide +kernel
theorem dX2_letterWith_2 : decode cX2_letterWith 2 = .ok (.iconst 0, 1) := by decide +kernel
theorem dX2_letterWith_3 : decode cX2_letterWith 3 = .ok (.istore_n 3, 1) := by decide +kernel
theorem dX2_letterWith_4 : decode cX2_letterWith 4 = .ok (.iload_n 3, 1) := by decide +kernel
theorem dX2_letterWith_5 : decode cX2_letterWith 5 = .ok (.aload_n 0, 1) := by decide +kernel
theorem dX2_letterWith_6 : decode cX2_letterWith 6 = .ok (.getfield 9, 3) := by decide +kernel
theorem dX2_letterWith_9 : decode cX2_letterWith 9 = .ok (.arraylength, 1) := by decide +kernel
theorem dX2_letterWith_10 : decode cX2_letterWith 10 = .ok (.if_icmp .ge 25, 3) := by decide +kernel
theorem dX2_letterWith_13 : decode cX2_letterWith 13 = .ok (.iload_n 2, 1) := by decide +kernel
theorem dX2_letterWith_14 : decode cX2_letterWith 14 = .ok (.aload_n 0, 1) := by decide +kernel
theorem dX2_letterWith_15 : decode cX2_letterWith 15 = .ok (.getfield 9, 3) := by decide +kernel
theorem dX2_letterWith_18 : decode cX2_letterWith 18 = .ok (.iload_n 3, 1) := by decide +kernel
theorem dX2_letterWith_19 : decode cX2_letterWith 19 = .ok (.iaload, 1) := by decide +kernel
theorem dX2_letterWith_20 : decode cX2_letterWith 20 = .ok (.iadd, 1) := by decide +kernel
theorem dX2_letterWith_21 : decode cX2_letterWith 21 = .ok (.istore_n 2, 1) := by decide +kernel
theorem dX2_letterWith_22 : decode cX2_letterWith 22 = .ok (.iload_n 2, 1) := by decide +kernel
theorem dX2_letterWith_23 : decode cX2_letterWith 23 = .ok (.iload_n 1, 1) := by decide +kernel
theorem dX2_letterWith_24 : decode cX2_letterWith 24 = .ok (.if_icmp .le 5, 3) := by decide +kernel
theorem dX2_letterWith_27 : decode cX2_letterWith 27 = .ok (.iload_n 3, 1) := by decide +kernel
theorem dX2_letterWith_28 : decode cX2_letterWith 28 = .ok (.ireturn, 1) := by decide +kernel
theorem dX2_letterWith_29 : decode cX2_letterWith 29 = .ok (.iinc 3 1, 3) := by decide +kernel
theorem dX2_letterWith_32 : decode cX2_letterWith 32 = .ok (.goto (-28), 3) := by decide +kernel
theorem dX2_letterWith_35 : decode cX2_letterWith 35 = .ok (.bipush 8, 2) := by decide +kernel
theorem dX2_letterWith_37 : decode cX2_letterWith 37 = .ok (.ireturn, 1) := by decide +kernel
theorem dX2_learn_0 : decode cX2_learn 0 = .ok (.iload_n 1, 1) := by decide +kernel
theorem dX2_learn_1 : decode cX2_learn 1 = .ok (.ifCond .lt 12, 3) := by decide +kernel
theorem dX2_learn_4 : decode cX2_learn 4 = .ok (.iload_n 1, 1) := by decide +kernel
theorem dX2_learn_5 : decode cX2_learn 5 = .ok (.aload_n 0, 1) := by decide +kernel
theorem dX2_learn_6 : decode cX2_learn 6 = .ok (.getfield 9, 3) := by decide +kernel
theorem dX2_learn_9 : decode cX2_learn 9 = .ok (.arraylength, 1) := by decide +kernel
theorem dX2_learn_10 : decode cX2_learn 10 = .ok (.if_icmp .lt 4, 3) := by decide +kernel
theorem dX2_learn_13 : decode cX2_learn 13 = .ok (.return_, 1) := by decide +kernel
theorem dX2_learn_14 : decode cX2_learn 14 = .ok (.aload_n 0, 1) := by decide +kernel
theorem dX2_learn_15 : decode cX2_learn 15 = .ok (.getfield 9, 3) := by decide +kernel
theorem dX2_learn_18 : decode cX2_learn 18 = .ok (.iload_n 1, 1) := by decide +kernel
theorem dX2_learn_19 : decode cX2_learn 19 = .ok (.dup2, 1) := by decide +kernel
theorem dX2_learn_20 : decode cX2_learn 20 = .ok (.iaload, 1) := by decide +kernel
theorem dX2_learn_21 : decode cX2_learn 21 = .ok (.aload_n 0, 1) := by decide +kernel
theorem dX2_learn_22 : decode cX2_learn 22 = .ok (.getfield 22, 3) := by decide +kernel
theorem dX2_learn_25 : decode cX2_learn 25 = .ok (.iadd, 1) := by decide +kernel
theorem dX2_learn_26 : decode cX2_learn 26 = .ok (.iastore, 1) := by decide +kernel
theorem dX2_learn_27 : decode cX2_learn 27 = .ok (.aload_n 0, 1) := by decide +kernel
theorem dX2_learn_28 : decode cX2_learn 28 = .ok (.dup, 1) := by decide +kernel
theorem dX2_learn_29 : decode cX2_learn 29 = .ok (.getfield 15, 3) := by decide +kernel
theorem dX2_learn_32 : decode cX2_learn 32 = .ok (.aload_n 0, 1) := by decide +kernel
theorem dX2_learn_33 : decode cX2_learn 33 = .ok (.getfield 22, 3) := by decide +kernel
theorem dX2_learn_36 : decode cX2_learn 36 = .ok (.iadd, 1) := by decide +kernel
theorem dX2_learn_37 : decode cX2_learn 37 = .ok (.putfield 15, 3) := by decide +kernel
theorem dX2_learn_40 : decode cX2_learn 40 = .ok (.aload_n 0, 1) := by decide +kernel
theorem dX2_learn_41 : decode cX2_learn 41 = .ok (.getfield 15, 3) := by decide +kernel
theorem dX2_learn_44 : decode cX2_learn 44 = .ok (.aload_n 0, 1) := by decide +kernel
theorem dX2_learn_45 : decode cX2_learn 45 = .ok (.getfield 25, 3) := by decide +kernel
theorem dX2_learn_48 : decode cX2_learn 48 = .ok (.if_icmp .le 7, 3) := by decide +kernel
theorem dX2_learn_51 : decode cX2_learn 51 = .ok (.aload_n 0, 1) := by decide +kernel
theorem dX2_learn_52 : decode cX2_learn 52 = .ok (.invokevirtual 28, 3) := by decide +kernel
theorem dX2_learn_55 : decode cX2_learn 55 = .ok (.return_, 1) := by decide +kernel
theorem dX2_halve_0 : decode cX2_halve 0 = .ok (.aload_n 0, 1) := by decide +kernel
theorem dX2_halve_1 : decode cX2_halve 1 = .ok (.iconst 0, 1) := by decide +kernel
theorem dX2_halve_2 : decode cX2_halve 2 = .ok (.putfield 15, 3) := by decide +kernel
theorem dX2_halve_5 : decode cX2_halve 5 = .ok (.iconst 0, 1) := by decide +kernel
theorem dX2_halve_6 : decode cX2_halve 6 = .ok (.istore_n 1, 1) := by decide +kernel
theorem dX2_halve_7 : decode cX2_halve 7 = .ok (.iload_n 1, 1) := by decide +kernel
theorem dX2_halve_8 : decode cX2_halve 8 = .ok (.aload_n 0, 1) := by decide +kernel
theorem dX2_halve_9 : decode cX2_halve 9 = .ok (.getfield 9, 3) := by decide +kernel
theorem dX2_halve_12 : decode cX2_halve 12 = .ok (.arraylength, 1) := by decide +kernel
theorem dX2_halve_13 : decode cX2_halve 13 = .ok (.if_icmp .ge 40, 3) := by decide +kernel
theorem dX2_halve_16 : decode cX2_halve 16 = .ok (.aload_n 0, 1) := by decide +kernel
theorem dX2_halve_17 : decode cX2_halve 17 = .ok (.getfield 9, 3) := by decide +kernel
theorem dX2_halve_20 : decode cX2_halve 20 = .ok (.iload_n 1, 1) := by decide +kernel
theorem dX2_halve_21 : decode cX2_halve 21 = .ok (.aload_n 0, 1) := by decide +kernel
theorem dX2_halve_22 : decode cX2_halve 22 = .ok (.getfield 9, 3) := by decide +kernel
theorem dX2_halve_25 : decode cX2_halve 25 = .ok (.iload_n 1, 1) := by decide +kernel
theorem dX2_halve_26 : decode cX2_halve 26 = .ok (.iaload, 1) := by decide +kernel
theorem dX2_halve_27 : decode cX2_halve 27 = .ok (.iconst 1, 1) := by decide +kernel
theorem dX2_halve_28 : decode cX2_halve 28 = .ok (.iadd, 1) := by decide +kernel
theorem dX2_halve_29 : decode cX2_halve 29 = .ok (.iconst 2, 1) := by decide +kernel
theorem dX2_halve_30 : decode cX2_halve 30 = .ok (.idiv, 1) := by decide +kernel
theorem dX2_halve_31 : decode cX2_halve 31 = .ok (.iastore, 1) := by decide +kernel
theorem dX2_halve_32 : decode cX2_halve 32 = .ok (.aload_n 0, 1) := by decide +kernel
theorem dX2_halve_33 : decode cX2_halve 33 = .ok (.dup, 1) := by decide +kernel
theorem dX2_halve_34 : decode cX2_halve 34 = .ok (.getfield 15, 3) := by decide +kernel
theorem dX2_halve_37 : decode cX2_halve 37 = .ok (.aload_n 0, 1) := by decide +kernel
theorem dX2_halve_38 : decode cX2_halve 38 = .ok (.getfield 9, 3) := by decide +kernel
theorem dX2_halve_41 : decode cX2_halve 41 = .ok (.iload_n 1, 1) := by decide +kernel
theorem dX2_halve_42 : decode cX2_halve 42 = .ok (.iaload, 1) := by decide +kernel
theorem dX2_halve_43 : decode cX2_halve 43 = .ok (.iadd, 1) := by decide +kernel
theorem dX2_halve_44 : decode cX2_halve 44 = .ok (.putfield 15, 3) := by decide +kernel
theorem dX2_halve_47 : decode cX2_halve 47 = .ok (.iinc 1 1, 3) := by decide +kernel
theorem dX2_halve_50 : decode cX2_halve 50 = .ok (.goto (-43), 3) := by decide +kernel
theorem dX2_halve_53 : decode cX2_halve 53 = .ok (.aload_n 0, 1) := by decide +kernel
theorem dX2_halve_54 : decode cX2_halve 54 = .ok (.dup, 1) := by decide +kernel
theorem dX2_halve_55 : decode cX2_halve 55 = .ok (.getfield 19, 3) := by decide +kernel
theorem dX2_halve_58 : decode cX2_halve 58 = .ok (.iconst 1, 1) := by decide +kernel
theorem dX2_halve_59 : decode cX2_halve 59 = .ok (.iadd, 1) := by decide +kernel
theorem dX2_halve_60 : decode cX2_halve 60 = .ok (.putfield 19, 3) := by decide +kernel
theorem dX2_halve_63 : decode cX2_halve 63 = .ok (.return_, 1) := by decide +kernel
theorem dX3_init_0 : decode cX3_init 0 = .ok (.aload_n 0, 1) := by decide +kernel
theorem dX3_init_1 : decode cX3_init 1 = .ok (.invokespecial 3, 3) := by decide +kernel
theorem dX3_init_4 : decode cX3_init 4 = .ok (.aload_n 0, 1) := by decide +kernel
theorem dX3_init_5 : decode cX3_init 5 = .ok (.iconst 4, 1) := by decide +kernel
theorem dX3_init_6 : decode cX3_init 6 = .ok (.anewarray 9, 3) := by decide +kernel
theorem dX3_init_9 : decode cX3_init 9 = .ok (.putfield 11, 3) := by decide +kernel
theorem dX3_init_12 : decode cX3_init 12 = .ok (.aload_n 0, 1) := by decide +kernel
theorem dX3_init_13 : decode cX3_init 13 = .ok (.iconst 0, 1) := by decide +kernel
theorem dX3_init_14 : decode cX3_init 14 = .ok (.putfield 17, 3) := by decide +kernel
theorem dX3_init_17 : decode cX3_init 17 = .ok (.iconst 0, 1) := by decide +kernel
theorem dX3_init_18 : decode cX3_init 18 = .ok (.istore_n 1, 1) := by decide +kernel
theorem dX3_init_19 : decode cX3_init 19 = .ok (.iload_n 1, 1) := by decide +kernel
theorem dX3_init_20 : decode cX3_init 20 = .ok (.aload_n 0, 1) := by decide +kernel
theorem dX3_init_21 : decode cX3_init 21 = .ok (.getfield 11, 3) := by decide +kernel
theorem dX3_init_24 : decode cX3_init 24 = .ok (.arraylength, 1) := by decide +kernel
theorem dX3_init_25 : decode cX3_init 25 = .ok (.if_icmp .ge 22, 3) := by decide +kernel
theorem dX3_init_28 : decode cX3_init 28 = .ok (.aload_n 0, 1) := by decide +kernel
theorem dX3_init_29 : decode cX3_init 29 = .ok (.getfield 11, 3) := by decide +kernel
theorem dX3_init_32 : decode cX3_init 32 = .ok (.iload_n 1, 1) := by decide +kernel
theorem dX3_init_33 : decode cX3_init 33 = .ok (.new 9, 3) := by decide +kernel
theorem dX3_init_36 : decode cX3_init 36 = .ok (.dup, 1) := by decide +kernel
theorem dX3_init_37 : decode cX3_init 37 = .ok (.invokespecial 21, 3) := by decide +kernel
theorem dX3_init_40 : decode cX3_init 40 = .ok (.aastore, 1) := by decide +kernel
theorem dX3_init_41 : decode cX3_init 41 = .ok (.iinc 1 1, 3) := by decide +kernel
theorem dX3_init_44 : decode cX3_init 44 = .ok (.goto (-25), 3) := by decide +kernel
theorem dX3_init_47 : decode cX3_init 47 = .ok (.return_, 1) := by decide +kernel
theorem dX3_keep_0 : decode cX3_keep 0 = .ok (.aload_n 0, 1) := by decide +kernel
theorem dX3_keep_1 : decode cX3_keep 1 = .ok (.getfield 17, 3) := by decide +kernel
theorem dX3_keep_4 : decode cX3_keep 4 = .ok (.aload_n 0, 1) := by decide +kernel
theorem dX3_keep_5 : decode cX3_keep 5 = .ok (.getfield 11, 3) := by decide +kernel
theorem dX3_keep_8 : decode cX3_keep 8 = .ok (.arraylength, 1) := by decide +kernel
theorem dX3_keep_9 : decode cX3_keep 9 = .ok (.if_icmp .lt 7, 3) := by decide +kernel
theorem dX3_keep_12 : decode cX3_keep 12 = .ok (.aload_n 0, 1) := by decide +kernel
theorem dX3_keep_13 : decode cX3_keep 13 = .ok (.invokevirtual 22, 3) := by decide +kernel
theorem dX3_keep_16 : decode cX3_keep 16 = .ok (.aload_n 0, 1) := by decide +kernel
theorem dX3_keep_17 : decode cX3_keep 17 = .ok (.getfield 17, 3) := by decide +kernel
theorem dX3_keep_20 : decode cX3_keep 20 = .ok (.ifCond .lt 38, 3) := by decide +kernel
theorem dX3_keep_23 : decode cX3_keep 23 = .ok (.aload_n 0, 1) := by decide +kernel
theorem dX3_keep_24 : decode cX3_keep 24 = .ok (.getfield 17, 3) := by decide +kernel
theorem dX3_keep_27 : decode cX3_keep 27 = .ok (.aload_n 0, 1) := by decide +kernel
theorem dX3_keep_28 : decode cX3_keep 28 = .ok (.getfield 11, 3) := by decide +kernel
theorem dX3_keep_31 : decode cX3_keep 31 = .ok (.arraylength, 1) := by decide +kernel
theorem dX3_keep_32 : decode cX3_keep 32 = .ok (.if_icmp .ge 26, 3) := by decide +kernel
theorem dX3_keep_35 : decode cX3_keep 35 = .ok (.aload_n 1, 1) := by decide +kernel
theorem dX3_keep_36 : decode cX3_keep 36 = .ok (.aload_n 0, 1) := by decide +kernel
theorem dX3_keep_37 : decode cX3_keep 37 = .ok (.getfield 11, 3) := by decide +kernel
theorem dX3_keep_40 : decode cX3_keep 40 = .ok (.aload_n 0, 1) := by decide +kernel
theorem dX3_keep_41 : decode cX3_keep 41 = .ok (.getfield 17, 3) := by decide +kernel
theorem dX3_keep_44 : decode cX3_keep 44 = .ok (.aaload, 1) := by decide +kernel
theorem dX3_keep_45 : decode cX3_keep 45 = .ok (.invokestatic 25, 3) := by decide +kernel
theorem dX3_keep_48 : decode cX3_keep 48 = .ok (.aload_n 0, 1) := by decide +kernel
theorem dX3_keep_49 : decode cX3_keep 49 = .ok (.dup, 1) := by decide +kernel
theorem dX3_keep_50 : decode cX3_keep 50 = .ok (.getfield 17, 3) := by decide +kernel
theorem dX3_keep_53 : decode cX3_keep 53 = .ok (.iconst 1, 1) := by decide +kernel
theorem dX3_keep_54 : decode cX3_keep 54 = .ok (.iadd, 1) := by decide +kernel
theorem dX3_keep_55 : decode cX3_keep 55 = .ok (.putfield 17, 3) := by decide +kernel
theorem dX3_keep_58 : decode cX3_keep 58 = .ok (.return_, 1) := by decide +kernel
theorem dX3_restore_0 : decode cX3_restore 0 = .ok (.aload_n 0, 1) := by decide +kernel
theorem dX3_restore_1 : decode cX3_restore 1 = .ok (.getfield 17, 3) := by decide +kernel
theorem dX3_restore_4 : decode cX3_restore 4 = .ok (.ifCond .le 38, 3) := by decide +kernel
theorem dX3_restore_7 : decode cX3_restore 7 = .ok (.aload_n 0, 1) := by decide +kernel
theorem dX3_restore_8 : decode cX3_restore 8 = .ok (.getfield 17, 3) := by decide +kernel
theorem dX3_restore_11 : decode cX3_restore 11 = .ok (.aload_n 0, 1) := by decide +kernel
theorem dX3_restore_12 : decode cX3_restore 12 = .ok (.getfield 11, 3) := by decide +kernel
theorem dX3_restore_15 : decode cX3_restore 15 = .ok (.arraylength, 1) := by decide +kernel
theorem dX3_restore_16 : decode cX3_restore 16 = .ok (.if_icmp .gt 26, 3) := by decide +kernel
theorem dX3_restore_19 : decode cX3_restore 19 = .ok (.aload_n 0, 1) := by decide +kernel
theorem dX3_restore_20 : decode cX3_restore 20 = .ok (.dup, 1) := by decide +kernel
theorem dX3_restore_21 : decode cX3_restore 21 = .ok (.getfield 17, 3) := by decide +kernel
theorem dX3_restore_24 : decode cX3_restore 24 = .ok (.iconst 1, 1) := by decide +kernel
theorem dX3_restore_25 : decode cX3_restore 25 = .ok (.isub, 1) := by decide +kernel
theorem dX3_restore_26 : decode cX3_restore 26 = .ok (.putfield 17, 3) := by decide +kernel
theorem dX3_restore_29 : decode cX3_restore 29 = .ok (.aload_n 0, 1) := by decide +kernel
theorem dX3_restore_30 : decode cX3_restore 30 = .ok (.getfield 11, 3) := by decide +kernel
theorem dX3_restore_33 : decode cX3_restore 33 = .ok (.aload_n 0, 1) := by decide +kernel
theorem dX3_restore_34 : decode cX3_restore 34 = .ok (.getfield 17, 3) := by decide +kernel
theorem dX3_restore_37 : decode cX3_restore 37 = .ok (.aaload, 1) := by decide +kernel
theorem dX3_restore_38 : decode cX3_restore 38 = .ok (.aload_n 1, 1) := by decide +kernel
theorem dX3_restore_39 : decode cX3_restore 39 = .ok (.invokestatic 25, 3) := by decide +kernel
theorem dX3_restore_42 : decode cX3_restore 42 = .ok (.return_, 1) := by decide +kernel
theorem dX3_dropOldest_0 : decode cX3_dropOldest 0 = .ok (.iconst 1, 1) := by decide +kernel
theorem dX3_dropOldest_1 : decode cX3_dropOldest 1 = .ok (.istore_n 1, 1) := by decide +kernel
theorem dX3_dropOldest_2 : decode cX3_dropOldest 2 = .ok (.iload_n 1, 1) := by decide +kernel
theorem dX3_dropOldest_3 : decode cX3_dropOldest 3 = .ok (.aload_n 0, 1) := by decide +kernel
theorem dX3_dropOldest_4 : decode cX3_dropOldest 4 = .ok (.getfield 11, 3) := by decide +kernel
theorem dX3_dropOldest_7 : decode cX3_dropOldest 7 = .ok (.arraylength, 1) := by decide +kernel
theorem dX3_dropOldest_8 : decode cX3_dropOldest 8 = .ok (.if_icmp .ge 26, 3) := by decide +kernel
theorem dX3_dropOldest_11 : decode cX3_dropOldest 11 = .ok (.aload_n 0, 1) := by decide +kernel
theorem dX3_dropOldest_12 : decode cX3_dropOldest 12 = .ok (.getfield 11, 3) := by decide +kernel
theorem dX3_dropOldest_15 : decode cX3_dropOldest 15 = .ok (.iload_n 1, 1) := by decide +kernel
theorem dX3_dropOldest_16 : decode cX3_dropOldest 16 = .ok (.aaload, 1) := by decide +kernel
theorem dX3_dropOldest_17 : decode cX3_dropOldest 17 = .ok (.aload_n 0, 1) := by decide +kernel
theorem dX3_dropOldest_18 : decode cX3_dropOldest 18 = .ok (.getfield 11, 3) := by decide +kernel
theorem dX3_dropOldest_21 : decode cX3_dropOldest 21 = .ok (.iload_n 1, 1) := by decide +kernel
theorem dX3_dropOldest_22 : decode cX3_dropOldest 22 = .ok (.iconst 1, 1) := by decide +kernel
theorem dX3_dropOldest_23 : decode cX3_dropOldest 23 = .ok (.isub, 1) := by decide +kernel
theorem dX3_dropOldest_24 : decode cX3_dropOldest 24 = .ok (.aaload, 1) := by decide +kernel
theorem dX3_dropOldest_25 : decode cX3_dropOldest 25 = .ok (.invokestatic 25, 3) := by decide +kernel
theorem dX3_dropOldest_28 : decode cX3_dropOldest 28 = .ok (.iinc 1 1, 3) := by decide +kernel
theorem dX3_dropOldest_31 : decode cX3_dropOldest 31 = .ok (.goto (-29), 3) := by decide +kernel
theorem dX3_dropOldest_34 : decode cX3_dropOldest 34 = .ok (.aload_n 0, 1) := by decide +kernel
theorem dX3_dropOldest_35 : decode cX3_dropOldest 35 = .ok (.aload_n 0, 1) := by decide +kernel
theorem dX3_dropOldest_36 : decode cX3_dropOldest 36 = .ok (.getfield 11, 3) := by decide +kernel
theorem dX3_dropOldest_39 : decode cX3_dropOldest 39 = .ok (.arraylength, 1) := by decide +kernel
theorem dX3_dropOldest_40 : decode cX3_dropOldest 40 = .ok (.iconst 1, 1) := by decide +kernel
theorem dX3_dropOldest_41 : decode cX3_dropOldest 41 = .ok (.isub, 1) := by decide +kernel
theorem dX3_dropOldest_42 : decode cX3_dropOldest 42 = .ok (.putfield 17, 3) := by decide +kernel
theorem dX3_dropOldest_45 : decode cX3_dropOldest 45 = .ok (.return_, 1) := by decide +kernel
theorem dX3_copy_0 : decode cX3_copy 0 = .ok (.aload_n 0, 1) := by decide +kernel
theorem dX3_copy_1 : decode cX3_copy 1 = .ok (.ifnull 12, 3) := by decide +kernel
theorem dX3_copy_4 : decode cX3_copy 4 = .ok (.aload_n 1, 1) := by decide +kernel
theorem dX3_copy_5 : decode cX3_copy 5 = .ok (.ifnull 8, 3) := by decide +kernel
theorem dX3_copy_8 : decode cX3_copy 8 = .ok (.aload_n 1, 1) := by decide +kernel
theorem dX3_copy_9 : decode cX3_copy 9 = .ok (.aload_n 0, 1) := by decide +kernel
theorem dX3_copy_10 : decode cX3_copy 10 = .ok (.invokevirtual 29, 3) := by decide +kernel
theorem dX3_copy_13 : decode cX3_copy 13 = .ok (.return_, 1) := by decide +kernel
theorem dX4_init_0 : decode cX4_init 0 = .ok (.aload_n 0, 1) := by decide +kernel
theorem dX4_init_1 : decode cX4_init 1 = .ok (.invokespecial 3, 3) := by decide +kernel
theorem dX4_init_4 : decode cX4_init 4 = .ok (.aload_n 0, 1) := by decide +kernel
theorem dX4_init_5 : decode cX4_init 5 = .ok (.bipush 40, 2) := by decide +kernel
theorem dX4_init_7 : decode cX4_init 7 = .ok (.newarray .int, 2) := by decide +kernel
theorem dX4_init_9 : decode cX4_init 9 = .ok (.putfield 9, 3) := by decide +kernel
theorem dX4_init_12 : decode cX4_init 12 = .ok (.aload_n 0, 1) := by decide +kernel
theorem dX4_init_13 : decode cX4_init 13 = .ok (.iconst 0, 1) := by decide +kernel
theorem dX4_init_14 : decode cX4_init 14 = .ok (.putfield 15, 3) := by decide +kernel
theorem dX4_init_17 : decode cX4_init 17 = .ok (.aload_n 0, 1) := by decide +kernel
theorem dX4_init_18 : decode cX4_init 18 = .ok (.iconst 0, 1) := by decide +kernel
theorem dX4_init_19 : decode cX4_init 19 = .ok (.putfield 19, 3) := by decide +kernel
theorem dX4_init_22 : decode cX4_init 22 = .ok (.aload_n 0, 1) := by decide +kernel
theorem dX4_init_23 : decode cX4_init 23 = .ok (.bipush 8, 2) := by decide +kernel
theorem dX4_init_25 : decode cX4_init 25 = .ok (.putfield 23, 3) := by decide +kernel
theorem dX4_init_28 : decode cX4_init 28 = .ok (.aload_n 0, 1) := by decide +kernel
theorem dX4_init_29 : decode cX4_init 29 = .ok (.sipush 400, 3) := by decide +kernel
theorem dX4_init_32 : decode cX4_init 32 = .ok (.putfield 26, 3) := by decide +kernel
theorem dX4_init_35 : decode cX4_init 35 = .ok (.return_, 1) := by decide +kernel
theorem dX4_letterAt_0 : decode cX4_letterAt 0 = .ok (.iload_n 1, 1) := by decide +kernel
theorem dX4_letterAt_1 : decode cX4_letterAt 1 = .ok (.ifCond .lt 21, 3) := by decide +kernel
theorem dX4_letterAt_4 : decode cX4_letterAt 4 = .ok (.iload_n 1, 1) := by decide +kernel
theorem dX4_letterAt_5 : decode cX4_letterAt 5 = .ok (.aload_n 0, 1) := by decide +kernel
theorem dX4_letterAt_6 : decode cX4_letterAt 6 = .ok (.getfield 9, 3) := by decide +kernel
theorem dX4_letterAt_9 : decode cX4_letterAt 9 = .ok (.arraylength, 1) := by decide +kernel
theorem dX4_letterAt_10 : decode cX4_letterAt 10 = .ok (.if_icmp .ge 12, 3) := by decide +kernel
theorem dX4_letterAt_13 : decode cX4_letterAt 13 = .ok (.aload_n 0, 1) := by decide +kernel
theorem dX4_letterAt_14 : decode cX4_letterAt 14 = .ok (.getfield 9, 3) := by decide +kernel
theorem dX4_letterAt_17 : decode cX4_letterAt 17 = .ok (.iload_n 1, 1) := by decide +kernel
theorem dX4_letterAt_18 : decode cX4_letterAt 18 = .ok (.iaload, 1) := by decide +kernel
theorem dX4_letterAt_19 : decode cX4_letterAt 19 = .ok (.goto 4, 3) := by decide +kernel
theorem dX4_letterAt_22 : decode cX4_letterAt 22 = .ok (.iconst 0, 1) := by decide +kernel
theorem dX4_letterAt_23 : decode cX4_letterAt 23 = .ok (.ireturn, 1) := by decide +kernel
theorem dX4_append_0 : decode cX4_append 0 = .ok (.aload_n 0, 1) := by decide +kernel
theorem dX4_append_1 : decode cX4_append 1 = .ok (.getfield 15, 3) := by decide +kernel
theorem dX4_append_4 : decode cX4_append 4 = .ok (.ifCond .lt 35, 3) := by decide +kernel
theorem dX4_append_7 : decode cX4_append 7 = .ok (.aload_n 0, 1) := by decide +kernel
theorem dX4_append_8 : decode cX4_append 8 = .ok (.getfield 15, 3) := by decide +kernel
theorem dX4_append_11 : decode cX4_append 11 = .ok (.aload_n 0, 1) := by decide +kernel
theorem dX4_append_12 : decode cX4_append 12 = .ok (.getfield 9, 3) := by decide +kernel
theorem dX4_append_15 : decode cX4_append 15 = .ok (.arraylength, 1) := by decide +kernel
theorem dX4_append_16 : decode cX4_append 16 = .ok (.if_icmp .ge 23, 3) := by decide +kernel
theorem dX4_append_19 : decode cX4_append 19 = .ok (.aload_n 0, 1) := by decide +kernel
theorem dX4_append_20 : decode cX4_append 20 = .ok (.getfield 9, 3) := by decide +kernel
theorem dX4_append_23 : decode cX4_append 23 = .ok (.aload_n 0, 1) := by decide +kernel
theorem dX4_append_24 : decode cX4_append 24 = .ok (.getfield 15, 3) := by decide +kernel
theorem dX4_append_27 : decode cX4_append 27 = .ok (.iload_n 1, 1) := by decide +kernel
theorem dX4_append_28 : decode cX4_append 28 = .ok (.iastore, 1) := by decide +kernel
theorem dX4_append_29 : decode cX4_append 29 = .ok (.aload_n 0, 1) := by decide +kernel
theorem dX4_append_30 : decode cX4_append 30 = .ok (.dup, 1) := by decide +kernel
theorem dX4_append_31 : decode cX4_append 31 = .ok (.getfield 15, 3) := by decide +kernel
theorem dX4_append_34 : decode cX4_append 34 = .ok (.iconst 1, 1) := by decide +kernel
theorem dX4_append_35 : decode cX4_append 35 = .ok (.iadd, 1) := by decide +kernel
theorem dX4_append_36 : decode cX4_append 36 = .ok (.putfield 15, 3) := by decide +kernel
theorem dX4_append_39 : decode cX4_append 39 = .ok (.return_, 1) := by decide +kernel
theorem dX4_replace_0 : decode cX4_replace 0 = .ok (.iload_n 1, 1) := by decide +kernel
theorem dX4_replace_1 : decode cX4_replace 1 = .ok (.ifCond .lt 19, 3) := by decide +kernel
theorem dX4_replace_4 : decode cX4_replace 4 = .ok (.iload_n 1, 1) := by decide +kernel
theorem dX4_replace_5 : decode cX4_replace 5 = .ok (.aload_n 0, 1) := by decide +kernel
theorem dX4_replace_6 : decode cX4_replace 6 = .ok (.getfield 9, 3) := by decide +kernel
theorem dX4_replace_9 : decode cX4_replace 9 = .ok (.arraylength, 1) := by decide +kernel
theorem dX4_replace_10 : decode cX4_replace 10 = .ok (.if_icmp .ge 10, 3) := by decide +kernel
theorem dX4_replace_13 : decode cX4_replace 13 = .ok (.aload_n 0, 1) := by decide +kernel
theorem dX4_replace_14 : decode cX4_replace 14 = .ok (.getfield 9, 3) := by decide +kernel
theorem dX4_replace_17 : decode cX4_replace 17 = .ok (.iload_n 1, 1) := by decide +kernel
theorem dX4_replace_18 : decode cX4_replace 18 = .ok (.iload_n 2, 1) := by decide +kernel
theorem dX4_replace_19 : decode cX4_replace 19 = .ok (.iastore, 1) := by decide +kernel
theorem dX4_replace_20 : decode cX4_replace 20 = .ok (.return_, 1) := by decide +kernel
theorem dX4_shorten_0 : decode cX4_shorten 0 = .ok (.aload_n 0, 1) := by decide +kernel
theorem dX4_shorten_1 : decode cX4_shorten 1 = .ok (.iconst 0, 1) := by decide +kernel
theorem dX4_shorten_2 : decode cX4_shorten 2 = .ok (.aload_n 0, 1) := by decide +kernel
theorem dX4_shorten_3 : decode cX4_shorten 3 = .ok (.getfield 15, 3) := by decide +kernel
theorem dX4_shorten_6 : decode cX4_shorten 6 = .ok (.iload_n 1, 1) := by decide +kernel
theorem dX4_shorten_7 : decode cX4_shorten 7 = .ok (.isub, 1) := by decide +kernel
theorem dX4_shorten_8 : decode cX4_shorten 8 = .ok (.invokestatic 29, 3) := by decide +kernel
theorem dX4_shorten_11 : decode cX4_shorten 11 = .ok (.putfield 15, 3) := by decide +kernel
theorem dX4_shorten_14 : decode cX4_shorten 14 = .ok (.aload_n 0, 1) := by decide +kernel
theorem dX4_shorten_15 : decode cX4_shorten 15 = .ok (.iconst 0, 1) := by decide +kernel
theorem dX4_shorten_16 : decode cX4_shorten 16 = .ok (.putfield 19, 3) := by decide +kernel
theorem dX4_shorten_19 : decode cX4_shorten 19 = .ok (.return_, 1) := by decide +kernel
theorem dX4_empty_0 : decode cX4_empty 0 = .ok (.aload_n 0, 1) := by decide +kernel
theorem dX4_empty_1 : decode cX4_empty 1 = .ok (.iconst 0, 1) := by decide +kernel
theorem dX4_empty_2 : decode cX4_empty 2 = .ok (.putfield 15, 3) := by decide +kernel
theorem dX4_empty_5 : decode cX4_empty 5 = .ok (.aload_n 0, 1) := by decide +kernel
theorem dX4_empty_6 : decode cX4_empty 6 = .ok (.iconst 0, 1) := by decide +kernel
theorem dX4_empty_7 : decode cX4_empty 7 = .ok (.putfield 19, 3) := by decide +kernel
theorem dX4_empty_10 : decode cX4_empty 10 = .ok (.return_, 1) := by decide +kernel
theorem dX4_howOften_0 : decode cX4_howOften 0 = .ok (.iconst 0, 1) := by decide +kernel
theorem dX4_howOften_1 : decode cX4_howOften 1 = .ok (.istore_n 2, 1) := by decide +kernel
theorem dX4_howOften_2 : decode cX4_howOften 2 = .ok (.iconst 0, 1) := by decide +kernel
theorem dX4_howOften_3 : decode cX4_howOften 3 = .ok (.istore_n 3, 1) := by decide +kernel
theorem dX4_howOften_4 : decode cX4_howOften 4 = .ok (.iload_n 3, 1) := by decide +kernel
theorem dX4_howOften_5 : decode cX4_howOften 5 = .ok (.aload_n 0, 1) := by decide +kernel
theorem dX4_howOften_6 : decode cX4_howOften 6 = .ok (.getfield 15, 3) := by decide +kernel
theorem dX4_howOften_9 : decode cX4_howOften 9 = .ok (.if_icmp .ge 21, 3) := by decide +kernel
theorem dX4_howOften_12 : decode cX4_howOften 12 = .ok (.aload_n 0, 1) := by decide +kernel
theorem dX4_howOften_13 : decode cX4_howOften 13 = .ok (.iload_n 3, 1) := by decide +kernel
theorem dX4_howOften_14 : decode cX4_howOften 14 = .ok (.invokevirtual 35, 3) := by decide +kernel
theorem dX4_howOften_17 : decode cX4_howOften 17 = .ok (.iload_n 1, 1) := by decide +kernel
theorem dX4_howOften_18 : decode cX4_howOften 18 = .ok (.if_icmp .ne 6, 3) := by decide +kernel
theorem dX4_howOften_21 : decode cX4_howOften 21 = .ok (.iinc 2 1, 3) := by decide +kernel
theorem dX4_howOften_24 : decode cX4_howOften 24 = .ok (.iinc 3 1, 3) := by decide +kernel
theorem dX4_howOften_27 : decode cX4_howOften 27 = .ok (.goto (-23), 3) := by decide +kernel
theorem dX4_howOften_30 : decode cX4_howOften 30 = .ok (.iload_n 2, 1) := by decide +kernel
theorem dX4_howOften_31 : decode cX4_howOften 31 = .ok (.ireturn, 1) := by decide +kernel
theorem dX4_copyFrom_0 : decode cX4_copyFrom 0 = .ok (.iconst 0, 1) := by decide +kernel
theorem dX4_copyFrom_1 : decode cX4_copyFrom 1 = .ok (.istore_n 2, 1) := by decide +kernel
theorem dX4_copyFrom_2 : decode cX4_copyFrom 2 = .ok (.iload_n 2, 1) := by decide +kernel
theorem dX4_copyFrom_3 : decode cX4_copyFrom 3 = .ok (.aload_n 0, 1) := by decide +kernel
theorem dX4_copyFrom_4 : decode cX4_copyFrom 4 = .ok (.getfield 9, 3) := by decide +kernel
theorem dX4_copyFrom_7 : decode cX4_copyFrom 7 = .ok (.arraylength, 1) := by decide +kernel
theorem dX4_copyFrom_8 : decode cX4_copyFrom 8 = .ok (.if_icmp .ge 20, 3) := by decide +kernel
theorem dX4_copyFrom_11 : decode cX4_copyFrom 11 = .ok (.aload_n 0, 1) := by decide +kernel
theorem dX4_copyFrom_12 : decode cX4_copyFrom 12 = .ok (.getfield 9, 3) := by decide +kernel
theorem dX4_copyFrom_15 : decode cX4_copyFrom 15 = .ok (.iload_n 2, 1) := by decide +kernel
theorem dX4_copyFrom_16 : decode cX4_copyFrom 16 = .ok (.aload_n 1, 1) := by decide +kernel
theorem dX4_copyFrom_17 : decode cX4_copyFrom 17 = .ok (.iload_n 2, 1) := by decide +kernel
theorem dX4_copyFrom_18 : decode cX4_copyFrom 18 = .ok (.invokevirtual 35, 3) := by decide +kernel
theorem dX4_copyFrom_21 : decode cX4_copyFrom 21 = .ok (.iastore, 1) := by decide +kernel
theorem dX4_copyFrom_22 : decode cX4_copyFrom 22 = .ok (.iinc 2 1, 3) := by decide +kernel
theorem dX4_copyFrom_25 : decode cX4_copyFrom 25 = .ok (.goto (-23), 3) := by decide +kernel
theorem dX4_copyFrom_28 : decode cX4_copyFrom 28 = .ok (.aload_n 0, 1) := by decide +kernel
theorem dX4_copyFrom_29 : decode cX4_copyFrom 29 = .ok (.aload_n 1, 1) := by decide +kernel
theorem dX4_copyFrom_30 : decode cX4_copyFrom 30 = .ok (.getfield 15, 3) := by decide +kernel
theorem dX4_copyFrom_33 : decode cX4_copyFrom 33 = .ok (.putfield 15, 3) := by decide +kernel
theorem dX4_copyFrom_36 : decode cX4_copyFrom 36 = .ok (.aload_n 0, 1) := by decide +kernel
theorem dX4_copyFrom_37 : decode cX4_copyFrom 37 = .ok (.aload_n 1, 1) := by decide +kernel
theorem dX4_copyFrom_38 : decode cX4_copyFrom 38 = .ok (.getfield 19, 3) := by decide +kernel
theorem dX4_copyFrom_41 : decode cX4_copyFrom 41 = .ok (.putfield 19, 3) := by decide +kernel
theorem dX4_copyFrom_44 : decode cX4_copyFrom 44 = .ok (.aload_n 0, 1) := by decide +kernel
theorem dX4_copyFrom_45 : decode cX4_copyFrom 45 = .ok (.aload_n 1, 1) := by decide +kernel
theorem dX4_copyFrom_46 : decode cX4_copyFrom 46 = .ok (.getfield 23, 3) := by decide +kernel
theorem dX4_copyFrom_49 : decode cX4_copyFrom 49 = .ok (.putfield 23, 3) := by decide +kernel
theorem dX4_copyFrom_52 : decode cX4_copyFrom 52 = .ok (.aload_n 0, 1) := by decide +kernel
theorem dX4_copyFrom_53 : decode cX4_copyFrom 53 = .ok (.aload_n 1, 1) := by decide +kernel
theorem dX4_copyFrom_54 : decode cX4_copyFrom 54 = .ok (.getfield 26, 3) := by decide +kernel
theorem dX4_copyFrom_57 : decode cX4_copyFrom 57 = .ok (.putfield 26, 3) := by decide +kernel
theorem dX4_copyFrom_60 : decode cX4_copyFrom 60 = .ok (.return_, 1) := by decide +kernel
theorem dX5_init_0 : decode cX5_init 0 = .ok (.aload_n 0, 1) := by decide +kernel
theorem dX5_init_1 : decode cX5_init 1 = .ok (.invokespecial 3, 3) := by decide +kernel
theorem dX5_init_4 : decode cX5_init 4 = .ok (.aload_n 0, 1) := by decide +kernel
theorem dX5_init_5 : decode cX5_init 5 = .ok (.new 9, 3) := by decide +kernel
theorem dX5_init_8 : decode cX5_init 8 = .ok (.dup, 1) := by decide +kernel
theorem dX5_init_9 : decode cX5_init 9 = .ok (.invokespecial 11, 3) := by decide +kernel
theorem dX5_init_12 : decode cX5_init 12 = .ok (.putfield 12, 3) := by decide +kernel
theorem dX5_init_15 : decode cX5_init 15 = .ok (.aload_n 0, 1) := by decide +kernel
theorem dX5_init_16 : decode cX5_init 16 = .ok (.new 18, 3) := by decide +kernel
theorem dX5_init_19 : decode cX5_init 19 = .ok (.dup, 1) := by decide +kernel
theorem dX5_init_20 : decode cX5_init 20 = .ok (.invokespecial 20, 3) := by decide +kernel
theorem dX5_init_23 : decode cX5_init 23 = .ok (.putfield 21, 3) := by decide +kernel
theorem dX5_init_26 : decode cX5_init 26 = .ok (.aload_n 0, 1) := by decide +kernel
theorem dX5_init_27 : decode cX5_init 27 = .ok (.bipush 40, 2) := by decide +kernel
theorem dX5_init_29 : decode cX5_init 29 = .ok (.newarray .int, 2) := by decide +kernel
theorem dX5_init_31 : decode cX5_init 31 = .ok (.putfield 25, 3) := by decide +kernel
theorem dX5_init_34 : decode cX5_init 34 = .ok (.aload_n 0, 1) := by decide +kernel
theorem dX5_init_35 : decode cX5_init 35 = .ok (.iconst 0, 1) := by decide +kernel
theorem dX5_init_36 : decode cX5_init 36 = .ok (.putfield 29, 3) := by decide +kernel
theorem dX5_init_39 : decode cX5_init 39 = .ok (.aload_n 0, 1) := by decide +kernel
theorem dX5_init_40 : decode cX5_init 40 = .ok (.iconst 0, 1) := by decide +kernel
theorem dX5_init_41 : decode cX5_init 41 = .ok (.putfield 33, 3) := by decide +kernel
theorem dX5_init_44 : decode cX5_init 44 = .ok (.aload_n 0, 1) := by decide +kernel
theorem dX5_init_45 : decode cX5_init 45 = .ok (.iconst 0, 1) := by decide +kernel
theorem dX5_init_46 : decode cX5_init 46 = .ok (.putfield 36, 3) := by decide +kernel
theorem dX5_init_49 : decode cX5_init 49 = .ok (.aload_n 0, 1) := by decide +kernel
theorem dX5_init_50 : decode cX5_init 50 = .ok (.iconst 0, 1) := by decide +kernel
theorem dX5_init_51 : decode cX5_init 51 = .ok (.putfield 39, 3) := by decide +kernel
theorem dX5_init_54 : decode cX5_init 54 = .ok (.return_, 1) := by decide +kernel
theorem dX5_letterAt_0 : decode cX5_letterAt 0 = .ok (.iload_n 1, 1) := by decide +kernel
theorem dX5_letterAt_1 : decode cX5_letterAt 1 = .ok (.ifCond .lt 21, 3) := by decide +kernel
theorem dX5_letterAt_4 : decode cX5_letterAt 4 = .ok (.iload_n 1, 1) := by decide +kernel
theorem dX5_letterAt_5 : decode cX5_letterAt 5 = .ok (.aload_n 0, 1) := by decide +kernel
theorem dX5_letterAt_6 : decode cX5_letterAt 6 = .ok (.getfield 25, 3) := by decide +kernel
theorem dX5_letterAt_9 : decode cX5_letterAt 9 = .ok (.arraylength, 1) := by decide +kernel
theorem dX5_letterAt_10 : decode cX5_letterAt 10 = .ok (.if_icmp .ge 12, 3) := by decide +kernel
theorem dX5_letterAt_13 : decode cX5_letterAt 13 = .ok (.aload_n 0, 1) := by decide +kernel
theorem dX5_letterAt_14 : decode cX5_letterAt 14 = .ok (.getfield 25, 3) := by decide +kernel
theorem dX5_letterAt_17 : decode cX5_letterAt 17 = .ok (.iload_n 1, 1) := by decide +kernel
theorem dX5_letterAt_18 : decode cX5_letterAt 18 = .ok (.iaload, 1) := by decide +kernel
theorem dX5_letterAt_19 : decode cX5_letterAt 19 = .ok (.goto 4, 3) := by decide +kernel
theorem dX5_letterAt_22 : decode cX5_letterAt 22 = .ok (.iconst 0, 1) := by decide +kernel
theorem dX5_letterAt_23 : decode cX5_letterAt 23 = .ok (.ireturn, 1) := by decide +kernel
theorem dX5_read_0 : decode cX5_read 0 = .ok (.aload_n 0, 1) := by decide +kernel
theorem dX5_read_1 : decode cX5_read 1 = .ok (.getfield 12, 3) := by decide +kernel
theorem dX5_read_4 : decode cX5_read 4 = .ok (.iload_n 2, 1) := by decide +kernel
theorem dX5_read_5 : decode cX5_read 5 = .ok (.iload_n 3, 1) := by decide +kernel
theorem dX5_read_6 : decode cX5_read 6 = .ok (.invokevirtual 43, 3) := by decide +kernel
theorem dX5_read_9 : decode cX5_read 9 = .ok (.aload_n 0, 1) := by decide +kernel
theorem dX5_read_10 : decode cX5_read 10 = .ok (.getfield 21, 3) := by decide +kernel
theorem dX5_read_13 : decode cX5_read 13 = .ok (.invokevirtual 47, 3) := by decide +kernel
theorem dX5_read_16 : decode cX5_read 16 = .ok (.aload_n 0, 1) := by decide +kernel
theorem dX5_read_17 : decode cX5_read 17 = .ok (.iconst 0, 1) := by decide +kernel
theorem dX5_read_18 : decode cX5_read 18 = .ok (.putfield 29, 3) := by decide +kernel
theorem dX5_read_21 : decode cX5_read 21 = .ok (.aload_n 0, 1) := by decide +kernel
theorem dX5_read_22 : decode cX5_read 22 = .ok (.iconst 0, 1) := by decide +kernel
theorem dX5_read_23 : decode cX5_read 23 = .ok (.putfield 33, 3) := by decide +kernel
theorem dX5_read_26 : decode cX5_read 26 = .ok (.aload_n 0, 1) := by decide +kernel
theorem dX5_read_27 : decode cX5_read 27 = .ok (.iconst 0, 1) := by decide +kernel
theorem dX5_read_28 : decode cX5_read 28 = .ok (.putfield 36, 3) := by decide +kernel
theorem dX5_read_31 : decode cX5_read 31 = .ok (.aload_n 0, 1) := by decide +kernel
theorem dX5_read_32 : decode cX5_read 32 = .ok (.iconst 0, 1) := by decide +kernel
theorem dX5_read_33 : decode cX5_read 33 = .ok (.putfield 39, 3) := by decide +kernel
theorem dX5_read_36 : decode cX5_read 36 = .ok (.iconst 0, 1) := by decide +kernel
theorem dX5_read_37 : decode cX5_read 37 = .ok (.istore 4, 2) := by decide +kernel
theorem dX5_read_39 : decode cX5_read 39 = .ok (.iload 4, 2) := by decide +kernel
theorem dX5_read_41 : decode cX5_read 41 = .ok (.bipush 16, 2) := by decide +kernel
theorem dX5_read_43 : decode cX5_read 43 = .ok (.if_icmp .ge 14, 3) := by decide +kernel
theorem dX5_read_46 : decode cX5_read 46 = .ok (.aload_n 0, 1) := by decide +kernel
theorem dX5_read_47 : decode cX5_read 47 = .ok (.aload_n 1, 1) := by decide +kernel
theorem dX5_read_48 : decode cX5_read 48 = .ok (.invokevirtual 49, 3) := by decide +kernel
theorem dX5_read_51 : decode cX5_read 51 = .ok (.iinc 4 1, 3) := by decide +kernel
theorem dX5_read_54 : decode cX5_read 54 = .ok (.goto (-15), 3) := by decide +kernel
theorem dX5_read_57 : decode cX5_read 57 = .ok (.iconst 0, 1) := by decide +kernel
theorem dX5_read_58 : decode cX5_read 58 = .ok (.istore 4, 2) := by decide +kernel
theorem dX5_read_60 : decode cX5_read 60 = .ok (.iload 4, 2) := by decide +kernel
theorem dX5_read_62 : decode cX5_read 62 = .ok (.bipush 40, 2) := by decide +kernel
theorem dX5_read_64 : decode cX5_read 64 = .ok (.if_icmp .gt 21, 3) := by decide +kernel
theorem dX5_read_67 : decode cX5_read 67 = .ok (.aload_n 0, 1) := by decide +kernel
theorem dX5_read_68 : decode cX5_read 68 = .ok (.getfield 39, 3) := by decide +kernel
theorem dX5_read_71 : decode cX5_read 71 = .ok (.ifCond .ne 14, 3) := by decide +kernel
theorem dX5_read_74 : decode cX5_read 74 = .ok (.aload_n 0, 1) := by decide +kernel
theorem dX5_read_75 : decode cX5_read 75 = .ok (.aload_n 1, 1) := by decide +kernel
theorem dX5_read_76 : decode cX5_read 76 = .ok (.invokevirtual 53, 3) := by decide +kernel
theorem dX5_read_79 : decode cX5_read 79 = .ok (.iinc 4 1, 3) := by decide +kernel
theorem dX5_read_82 : decode cX5_read 82 = .ok (.goto (-22), 3) := by decide +kernel
theorem dX5_read_85 : decode cX5_read 85 = .ok (.return_, 1) := by decide +kernel
theorem dX5_readLetter_0 : decode cX5_readLetter 0 = .ok (.aload_n 0, 1) := by decide +kernel
theorem dX5_readLetter_1 : decode cX5_readLetter 1 = .ok (.getfield 21, 3) := by decide +kernel
theorem dX5_readLetter_4 : decode cX5_readLetter 4 = .ok (.aload_n 0, 1) := by decide +kernel
theorem dX5_readLetter_5 : decode cX5_readLetter 5 = .ok (.getfield 33, 3) := by decide +kernel
theorem dX5_readLetter_8 : decode cX5_readLetter 8 = .ok (.aload_n 0, 1) := by decide +kernel
theorem dX5_readLetter_9 : decode cX5_readLetter 9 = .ok (.getfield 12, 3) := by decide +kernel
theorem dX5_readLetter_12 : decode cX5_readLetter 12 = .ok (.invokevirtual 56, 3) := by decide +kernel
theorem dX5_readLetter_15 : decode cX5_readLetter 15 = .ok (.istore_n 2, 1) := by decide +kernel
theorem dX5_readLetter_16 : decode cX5_readLetter 16 = .ok (.iload_n 2, 1) := by decide +kernel
theorem dX5_readLetter_17 : decode cX5_readLetter 17 = .ok (.bipush 8, 2) := by decide +kernel
theorem dX5_readLetter_19 : decode cX5_readLetter 19 = .ok (.if_icmp .ne 11, 3) := by decide +kernel
theorem dX5_readLetter_22 : decode cX5_readLetter 22 = .ok (.aload_n 0, 1) := by decide +kernel
theorem dX5_readLetter_23 : decode cX5_readLetter 23 = .ok (.iconst 1, 1) := by decide +kernel
theorem dX5_readLetter_24 : decode cX5_readLetter 24 = .ok (.putfield 39, 3) := by decide +kernel
theorem dX5_readLetter_27 : decode cX5_readLetter 27 = .ok (.goto 56, 3) := by decide +kernel
theorem dX5_readLetter_30 : decode cX5_readLetter 30 = .ok (.aload_n 0, 1) := by decide +kernel
theorem dX5_readLetter_31 : decode cX5_readLetter 31 = .ok (.getfield 29, 3) := by decide +kernel
theorem dX5_readLetter_34 : decode cX5_readLetter 34 = .ok (.ifCond .lt 49, 3) := by decide +kernel
theorem dX5_readLetter_37 : decode cX5_readLetter 37 = .ok (.aload_n 0, 1) := by decide +kernel
theorem dX5_readLetter_38 : decode cX5_readLetter 38 = .ok (.getfield 29, 3) := by decide +kernel
theorem dX5_readLetter_41 : decode cX5_readLetter 41 = .ok (.aload_n 0, 1) := by decide +kernel
theorem dX5_readLetter_42 : decode cX5_readLetter 42 = .ok (.getfield 25, 3) := by decide +kernel
theorem dX5_readLetter_45 : decode cX5_readLetter 45 = .ok (.arraylength, 1) := by decide +kernel
theorem dX5_readLetter_46 : decode cX5_readLetter 46 = .ok (.if_icmp .ge 37, 3) := by decide +kernel
theorem dX5_readLetter_49 : decode cX5_readLetter 49 = .ok (.aload_n 0, 1) := by decide +kernel
theorem dX5_readLetter_50 : decode cX5_readLetter 50 = .ok (.getfield 25, 3) := by decide +kernel
theorem dX5_readLetter_53 : decode cX5_readLetter 53 = .ok (.aload_n 0, 1) := by decide +kernel
theorem dX5_readLetter_54 : decode cX5_readLetter 54 = .ok (.getfield 29, 3) := by decide +kernel
theorem dX5_readLetter_57 : decode cX5_readLetter 57 = .ok (.iload_n 2, 1) := by decide +kernel
theorem dX5_readLetter_58 : decode cX5_readLetter 58 = .ok (.iastore, 1) := by decide +kernel
theorem dX5_readLetter_59 : decode cX5_readLetter 59 = .ok (.aload_n 0, 1) := by decide +kernel
theorem dX5_readLetter_60 : decode cX5_readLetter 60 = .ok (.dup, 1) := by decide +kernel
theorem dX5_readLetter_61 : decode cX5_readLetter 61 = .ok (.getfield 29, 3) := by decide +kernel
theorem dX5_readLetter_64 : decode cX5_readLetter 64 = .ok (.iconst 1, 1) := by decide +kernel
theorem dX5_readLetter_65 : decode cX5_readLetter 65 = .ok (.iadd, 1) := by decide +kernel
theorem dX5_readLetter_66 : decode cX5_readLetter 66 = .ok (.putfield 29, 3) := by decide +kernel
theorem dX5_readLetter_69 : decode cX5_readLetter 69 = .ok (.aload_n 0, 1) := by decide +kernel
theorem dX5_readLetter_70 : decode cX5_readLetter 70 = .ok (.iload_n 2, 1) := by decide +kernel
theorem dX5_readLetter_71 : decode cX5_readLetter 71 = .ok (.aload_n 1, 1) := by decide +kernel
theorem dX5_readLetter_72 : decode cX5_readLetter 72 = .ok (.invokevirtual 60, 3) := by decide +kernel
theorem dX5_readLetter_75 : decode cX5_readLetter 75 = .ok (.aload_n 0, 1) := by decide +kernel
theorem dX5_readLetter_76 : decode cX5_readLetter 76 = .ok (.getfield 12, 3) := by decide +kernel
theorem dX5_readLetter_79 : decode cX5_readLetter 79 = .ok (.iload_n 2, 1) := by decide +kernel
theorem dX5_readLetter_80 : decode cX5_readLetter 80 = .ok (.invokevirtual 64, 3) := by decide +kernel
theorem dX5_readLetter_83 : decode cX5_readLetter 83 = .ok (.return_, 1) := by decide +kernel
theorem dX5_narrow_0 : decode cX5_narrow 0 = .ok (.aload_n 0, 1) := by decide +kernel
theorem dX5_narrow_1 : decode cX5_narrow 1 = .ok (.getfield 21, 3) := by decide +kernel
theorem dX5_narrow_4 : decode cX5_narrow 4 = .ok (.aload_n 0, 1) := by decide +kernel
theorem dX5_narrow_5 : decode cX5_narrow 5 = .ok (.getfield 12, 3) := by decide +kernel
theorem dX5_narrow_8 : decode cX5_narrow 8 = .ok (.iload_n 1, 1) := by decide +kernel
theorem dX5_narrow_9 : decode cX5_narrow 9 = .ok (.invokevirtual 68, 3) := by decide +kernel
theorem dX5_narrow_12 : decode cX5_narrow 12 = .ok (.iconst 0, 1) := by decide +kernel
theorem dX5_narrow_13 : decode cX5_narrow 13 = .ok (.istore_n 3, 1) := by decide +kernel
theorem dX5_narrow_14 : decode cX5_narrow 14 = .ok (.iload_n 3, 1) := by decide +kernel
theorem dX5_narrow_15 : decode cX5_narrow 15 = .ok (.bipush 16, 2) := by decide +kernel
theorem dX5_narrow_17 : decode cX5_narrow 17 = .ok (.if_icmp .ge 41, 3) := by decide +kernel
theorem dX5_narrow_20 : decode cX5_narrow 20 = .ok (.aload_n 0, 1) := by decide +kernel
theorem dX5_narrow_21 : decode cX5_narrow 21 = .ok (.getfield 21, 3) := by decide +kernel
theorem dX5_narrow_24 : decode cX5_narrow 24 = .ok (.invokevirtual 72, 3) := by decide +kernel
theorem dX5_narrow_27 : decode cX5_narrow 27 = .ok (.istore 4, 2) := by decide +kernel
theorem dX5_narrow_29 : decode cX5_narrow 29 = .ok (.iload 4, 2) := by decide +kernel
theorem dX5_narrow_31 : decode cX5_narrow 31 = .ok (.iconst (-1), 1) := by decide +kernel
theorem dX5_narrow_32 : decode cX5_narrow 32 = .ok (.if_icmp .ne 4, 3) := by decide +kernel
theorem dX5_narrow_35 : decode cX5_narrow 35 = .ok (.return_, 1) := by decide +kernel
theorem dX5_narrow_36 : decode cX5_narrow 36 = .ok (.aload_n 0, 1) := by decide +kernel
theorem dX5_narrow_37 : decode cX5_narrow 37 = .ok (.dup, 1) := by decide +kernel
theorem dX5_narrow_38 : decode cX5_narrow 38 = .ok (.getfield 33, 3) := by decide +kernel
theorem dX5_narrow_41 : decode cX5_narrow 41 = .ok (.iload 4, 2) := by decide +kernel
theorem dX5_narrow_43 : decode cX5_narrow 43 = .ok (.isub, 1) := by decide +kernel
theorem dX5_narrow_44 : decode cX5_narrow 44 = .ok (.putfield 33, 3) := by decide +kernel
theorem dX5_narrow_47 : decode cX5_narrow 47 = .ok (.aload_n 0, 1) := by decide +kernel
theorem dX5_narrow_48 : decode cX5_narrow 48 = .ok (.aload_n 2, 1) := by decide +kernel
theorem dX5_narrow_49 : decode cX5_narrow 49 = .ok (.invokevirtual 49, 3) := by decide +kernel
theorem dX5_narrow_52 : decode cX5_narrow 52 = .ok (.iinc 3 1, 3) := by decide +kernel
theorem dX5_narrow_55 : decode cX5_narrow 55 = .ok (.goto (-41), 3) := by decide +kernel
theorem dX5_narrow_58 : decode cX5_narrow 58 = .ok (.return_, 1) := by decide +kernel
theorem dX5_takeBit_0 : decode cX5_takeBit 0 = .ok (.aload_n 0, 1) := by decide +kernel
theorem dX5_takeBit_1 : decode cX5_takeBit 1 = .ok (.aload_n 0, 1) := by decide +kernel
theorem dX5_takeBit_2 : decode cX5_takeBit 2 = .ok (.getfield 33, 3) := by decide +kernel
theorem dX5_takeBit_5 : decode cX5_takeBit 5 = .ok (.iconst 2, 1) := by decide +kernel
theorem dX5_takeBit_6 : decode cX5_takeBit 6 = .ok (.imul, 1) := by decide +kernel
theorem dX5_takeBit_7 : decode cX5_takeBit 7 = .ok (.aload_n 1, 1) := by decide +kernel
theorem dX5_takeBit_8 : decode cX5_takeBit 8 = .ok (.aload_n 0, 1) := by decide +kernel
theorem dX5_takeBit_9 : decode cX5_takeBit 9 = .ok (.getfield 36, 3) := by decide +kernel
theorem dX5_takeBit_12 : decode cX5_takeBit 12 = .ok (.invokevirtual 76, 3) := by decide +kernel
theorem dX5_takeBit_15 : decode cX5_takeBit 15 = .ok (.iadd, 1) := by decide +kernel
theorem dX5_takeBit_16 : decode cX5_takeBit 16 = .ok (.putfield 33, 3) := by decide +kernel
theorem dX5_takeBit_19 : decode cX5_takeBit 19 = .ok (.aload_n 0, 1) := by decide +kernel
theorem dX5_takeBit_20 : decode cX5_takeBit 20 = .ok (.dup, 1) := by decide +kernel
theorem dX5_takeBit_21 : decode cX5_takeBit 21 = .ok (.getfield 36, 3) := by decide +kernel
theorem dX5_takeBit_24 : decode cX5_takeBit 24 = .ok (.iconst 1, 1) := by decide +kernel
theorem dX5_takeBit_25 : decode cX5_takeBit 25 = .ok (.iadd, 1) := by decide +kernel
theorem dX5_takeBit_26 : decode cX5_takeBit 26 = .ok (.putfield 36, 3) := by decide +kernel
theorem dX5_takeBit_29 : decode cX5_takeBit 29 = .ok (.return_, 1) := by decide +kernel
theorem dX6_init_0 : decode cX6_init 0 = .ok (.aload_n 0, 1) := by decide +kernel
theorem dX6_init_1 : decode cX6_init 1 = .ok (.invokespecial 3, 3) := by decide +kernel
theorem dX6_init_4 : decode cX6_init 4 = .ok (.aload_n 0, 1) := by decide +kernel
theorem dX6_init_5 : decode cX6_init 5 = .ok (.iconst 0, 1) := by decide +kernel
theorem dX6_init_6 : decode cX6_init 6 = .ok (.putfield 9, 3) := by decide +kernel
theorem dX6_init_9 : decode cX6_init 9 = .ok (.aload_n 0, 1) := by decide +kernel
theorem dX6_init_10 : decode cX6_init 10 = .ok (.ldc 15, 2) := by decide +kernel
theorem dX6_init_12 : decode cX6_init 12 = .ok (.putfield 16, 3) := by decide +kernel
theorem dX6_init_15 : decode cX6_init 15 = .ok (.return_, 1) := by decide +kernel
theorem dX6_start_0 : decode cX6_start 0 = .ok (.aload_n 0, 1) := by decide +kernel
theorem dX6_start_1 : decode cX6_start 1 = .ok (.iconst 0, 1) := by decide +kernel
theorem dX6_start_2 : decode cX6_start 2 = .ok (.putfield 9, 3) := by decide +kernel
theorem dX6_start_5 : decode cX6_start 5 = .ok (.aload_n 0, 1) := by decide +kernel
theorem dX6_start_6 : decode cX6_start 6 = .ok (.ldc 15, 2) := by decide +kernel
theorem dX6_start_8 : decode cX6_start 8 = .ok (.putfield 16, 3) := by decide +kernel
theorem dX6_start_11 : decode cX6_start 11 = .ok (.return_, 1) := by decide +kernel
theorem dX6_shrink_0 : decode cX6_shrink 0 = .ok (.aload_n 1, 1) := by decide +kernel
theorem dX6_shrink_1 : decode cX6_shrink 1 = .ok (.getfield 19, 3) := by decide +kernel
theorem dX6_shrink_4 : decode cX6_shrink 4 = .ok (.istore_n 3, 1) := by decide +kernel
theorem dX6_shrink_5 : decode cX6_shrink 5 = .ok (.iload_n 3, 1) := by decide +kernel
theorem dX6_shrink_6 : decode cX6_shrink 6 = .ok (.iconst 1, 1) := by decide +kernel
theorem dX6_shrink_7 : decode cX6_shrink 7 = .ok (.if_icmp .ge 4, 3) := by decide +kernel
theorem dX6_shrink_10 : decode cX6_shrink 10 = .ok (.return_, 1) := by decide +kernel
theorem dX6_shrink_11 : decode cX6_shrink 11 = .ok (.aload_n 0, 1) := by decide +kernel
theorem dX6_shrink_12 : decode cX6_shrink 12 = .ok (.getfield 16, 3) := by decide +kernel
theorem dX6_shrink_15 : decode cX6_shrink 15 = .ok (.aload_n 0, 1) := by decide +kernel
theorem dX6_shrink_16 : decode cX6_shrink 16 = .ok (.getfield 9, 3) := by decide +kernel
theorem dX6_shrink_19 : decode cX6_shrink 19 = .ok (.isub, 1) := by decide +kernel
theorem dX6_shrink_20 : decode cX6_shrink 20 = .ok (.iconst 1, 1) := by decide +kernel
theorem dX6_shrink_21 : decode cX6_shrink 21 = .ok (.iadd, 1) := by decide +kernel
