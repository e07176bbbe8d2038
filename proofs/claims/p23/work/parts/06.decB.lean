theorem dX6_shrink_22 : decode cX6_shrink 22 = .ok (.istore 4, 2) := by decide +kernel
theorem dX6_shrink_24 : decode cX6_shrink 24 = .ok (.aload_n 1, 1) := by decide +kernel
theorem dX6_shrink_25 : decode cX6_shrink 25 = .ok (.iload_n 2, 1) := by decide +kernel
theorem dX6_shrink_26 : decode cX6_shrink 26 = .ok (.invokevirtual 24, 3) := by decide +kernel
theorem dX6_shrink_29 : decode cX6_shrink 29 = .ok (.istore 5, 2) := by decide +kernel
theorem dX6_shrink_31 : decode cX6_shrink 31 = .ok (.iload 5, 2) := by decide +kernel
theorem dX6_shrink_33 : decode cX6_shrink 33 = .ok (.aload_n 1, 1) := by decide +kernel
theorem dX6_shrink_34 : decode cX6_shrink 34 = .ok (.iload_n 2, 1) := by decide +kernel
theorem dX6_shrink_35 : decode cX6_shrink 35 = .ok (.invokevirtual 28, 3) := by decide +kernel
theorem dX6_shrink_38 : decode cX6_shrink 38 = .ok (.iadd, 1) := by decide +kernel
theorem dX6_shrink_39 : decode cX6_shrink 39 = .ok (.istore 6, 2) := by decide +kernel
theorem dX6_shrink_41 : decode cX6_shrink 41 = .ok (.aload_n 0, 1) := by decide +kernel
theorem dX6_shrink_42 : decode cX6_shrink 42 = .ok (.aload_n 0, 1) := by decide +kernel
theorem dX6_shrink_43 : decode cX6_shrink 43 = .ok (.getfield 9, 3) := by decide +kernel
theorem dX6_shrink_46 : decode cX6_shrink 46 = .ok (.iload 4, 2) := by decide +kernel
theorem dX6_shrink_48 : decode cX6_shrink 48 = .ok (.iload 6, 2) := by decide +kernel
theorem dX6_shrink_50 : decode cX6_shrink 50 = .ok (.imul, 1) := by decide +kernel
theorem dX6_shrink_51 : decode cX6_shrink 51 = .ok (.iload_n 3, 1) := by decide +kernel
theorem dX6_shrink_52 : decode cX6_shrink 52 = .ok (.idiv, 1) := by decide +kernel
theorem dX6_shrink_53 : decode cX6_shrink 53 = .ok (.iadd, 1) := by decide +kernel
theorem dX6_shrink_54 : decode cX6_shrink 54 = .ok (.iconst 1, 1) := by decide +kernel
theorem dX6_shrink_55 : decode cX6_shrink 55 = .ok (.isub, 1) := by decide +kernel
theorem dX6_shrink_56 : decode cX6_shrink 56 = .ok (.putfield 16, 3) := by decide +kernel
theorem dX6_shrink_59 : decode cX6_shrink 59 = .ok (.aload_n 0, 1) := by decide +kernel
theorem dX6_shrink_60 : decode cX6_shrink 60 = .ok (.aload_n 0, 1) := by decide +kernel
theorem dX6_shrink_61 : decode cX6_shrink 61 = .ok (.getfield 9, 3) := by decide +kernel
theorem dX6_shrink_64 : decode cX6_shrink 64 = .ok (.iload 4, 2) := by decide +kernel
theorem dX6_shrink_66 : decode cX6_shrink 66 = .ok (.iload 5, 2) := by decide +kernel
theorem dX6_shrink_68 : decode cX6_shrink 68 = .ok (.imul, 1) := by decide +kernel
theorem dX6_shrink_69 : decode cX6_shrink 69 = .ok (.iload_n 3, 1) := by decide +kernel
theorem dX6_shrink_70 : decode cX6_shrink 70 = .ok (.idiv, 1) := by decide +kernel
theorem dX6_shrink_71 : decode cX6_shrink 71 = .ok (.iadd, 1) := by decide +kernel
theorem dX6_shrink_72 : decode cX6_shrink 72 = .ok (.putfield 9, 3) := by decide +kernel
theorem dX6_shrink_75 : decode cX6_shrink 75 = .ok (.return_, 1) := by decide +kernel
theorem dX6_widen_0 : decode cX6_widen 0 = .ok (.aload_n 0, 1) := by decide +kernel
theorem dX6_widen_1 : decode cX6_widen 1 = .ok (.getfield 16, 3) := by decide +kernel
theorem dX6_widen_4 : decode cX6_widen 4 = .ok (.ldc 31, 2) := by decide +kernel
theorem dX6_widen_6 : decode cX6_widen 6 = .ok (.if_icmp .ge 8, 3) := by decide +kernel
theorem dX6_widen_9 : decode cX6_widen 9 = .ok (.iconst 0, 1) := by decide +kernel
theorem dX6_widen_10 : decode cX6_widen 10 = .ok (.istore_n 1, 1) := by decide +kernel
theorem dX6_widen_11 : decode cX6_widen 11 = .ok (.goto 46, 3) := by decide +kernel
theorem dX6_widen_14 : decode cX6_widen 14 = .ok (.aload_n 0, 1) := by decide +kernel
theorem dX6_widen_15 : decode cX6_widen 15 = .ok (.getfield 9, 3) := by decide +kernel
theorem dX6_widen_18 : decode cX6_widen 18 = .ok (.ldc 31, 2) := by decide +kernel
theorem dX6_widen_20 : decode cX6_widen 20 = .ok (.if_icmp .lt 9, 3) := by decide +kernel
theorem dX6_widen_23 : decode cX6_widen 23 = .ok (.ldc 31, 2) := by decide +kernel
theorem dX6_widen_25 : decode cX6_widen 25 = .ok (.istore_n 1, 1) := by decide +kernel
theorem dX6_widen_26 : decode cX6_widen 26 = .ok (.goto 31, 3) := by decide +kernel
theorem dX6_widen_29 : decode cX6_widen 29 = .ok (.aload_n 0, 1) := by decide +kernel
theorem dX6_widen_30 : decode cX6_widen 30 = .ok (.getfield 9, 3) := by decide +kernel
theorem dX6_widen_33 : decode cX6_widen 33 = .ok (.sipush 16384, 3) := by decide +kernel
theorem dX6_widen_36 : decode cX6_widen 36 = .ok (.if_icmp .lt 19, 3) := by decide +kernel
theorem dX6_widen_39 : decode cX6_widen 39 = .ok (.aload_n 0, 1) := by decide +kernel
theorem dX6_widen_40 : decode cX6_widen 40 = .ok (.getfield 16, 3) := by decide +kernel
theorem dX6_widen_43 : decode cX6_widen 43 = .ok (.ldc 32, 2) := by decide +kernel
theorem dX6_widen_45 : decode cX6_widen 45 = .ok (.if_icmp .ge 10, 3) := by decide +kernel
theorem dX6_widen_48 : decode cX6_widen 48 = .ok (.sipush 16384, 3) := by decide +kernel
theorem dX6_widen_51 : decode cX6_widen 51 = .ok (.istore_n 1, 1) := by decide +kernel
theorem dX6_widen_52 : decode cX6_widen 52 = .ok (.goto 5, 3) := by decide +kernel
theorem dX6_widen_55 : decode cX6_widen 55 = .ok (.iconst (-1), 1) := by decide +kernel
theorem dX6_widen_56 : decode cX6_widen 56 = .ok (.ireturn, 1) := by decide +kernel
theorem dX6_widen_57 : decode cX6_widen 57 = .ok (.aload_n 0, 1) := by decide +kernel
theorem dX6_widen_58 : decode cX6_widen 58 = .ok (.aload_n 0, 1) := by decide +kernel
theorem dX6_widen_59 : decode cX6_widen 59 = .ok (.getfield 9, 3) := by decide +kernel
theorem dX6_widen_62 : decode cX6_widen 62 = .ok (.iload_n 1, 1) := by decide +kernel
theorem dX6_widen_63 : decode cX6_widen 63 = .ok (.isub, 1) := by decide +kernel
theorem dX6_widen_64 : decode cX6_widen 64 = .ok (.iconst 2, 1) := by decide +kernel
theorem dX6_widen_65 : decode cX6_widen 65 = .ok (.imul, 1) := by decide +kernel
theorem dX6_widen_66 : decode cX6_widen 66 = .ok (.putfield 9, 3) := by decide +kernel
theorem dX6_widen_69 : decode cX6_widen 69 = .ok (.aload_n 0, 1) := by decide +kernel
theorem dX6_widen_70 : decode cX6_widen 70 = .ok (.aload_n 0, 1) := by decide +kernel
theorem dX6_widen_71 : decode cX6_widen 71 = .ok (.getfield 16, 3) := by decide +kernel
theorem dX6_widen_74 : decode cX6_widen 74 = .ok (.iload_n 1, 1) := by decide +kernel
theorem dX6_widen_75 : decode cX6_widen 75 = .ok (.isub, 1) := by decide +kernel
theorem dX6_widen_76 : decode cX6_widen 76 = .ok (.iconst 2, 1) := by decide +kernel
theorem dX6_widen_77 : decode cX6_widen 77 = .ok (.imul, 1) := by decide +kernel
theorem dX6_widen_78 : decode cX6_widen 78 = .ok (.iconst 1, 1) := by decide +kernel
theorem dX6_widen_79 : decode cX6_widen 79 = .ok (.iadd, 1) := by decide +kernel
theorem dX6_widen_80 : decode cX6_widen 80 = .ok (.putfield 16, 3) := by decide +kernel
theorem dX6_widen_83 : decode cX6_widen 83 = .ok (.iload_n 1, 1) := by decide +kernel
theorem dX6_widen_84 : decode cX6_widen 84 = .ok (.ireturn, 1) := by decide +kernel
theorem dX6_letterAround_0 : decode cX6_letterAround 0 = .ok (.aload_n 0, 1) := by decide +kernel
theorem dX6_letterAround_1 : decode cX6_letterAround 1 = .ok (.getfield 16, 3) := by decide +kernel
theorem dX6_letterAround_4 : decode cX6_letterAround 4 = .ok (.aload_n 0, 1) := by decide +kernel
theorem dX6_letterAround_5 : decode cX6_letterAround 5 = .ok (.getfield 9, 3) := by decide +kernel
theorem dX6_letterAround_8 : decode cX6_letterAround 8 = .ok (.isub, 1) := by decide +kernel
theorem dX6_letterAround_9 : decode cX6_letterAround 9 = .ok (.iconst 1, 1) := by decide +kernel
theorem dX6_letterAround_10 : decode cX6_letterAround 10 = .ok (.iadd, 1) := by decide +kernel
theorem dX6_letterAround_11 : decode cX6_letterAround 11 = .ok (.istore_n 3, 1) := by decide +kernel
theorem dX6_letterAround_12 : decode cX6_letterAround 12 = .ok (.iload_n 3, 1) := by decide +kernel
theorem dX6_letterAround_13 : decode cX6_letterAround 13 = .ok (.iconst 1, 1) := by decide +kernel
theorem dX6_letterAround_14 : decode cX6_letterAround 14 = .ok (.if_icmp .ge 6, 3) := by decide +kernel
theorem dX6_letterAround_17 : decode cX6_letterAround 17 = .ok (.bipush 8, 2) := by decide +kernel
theorem dX6_letterAround_19 : decode cX6_letterAround 19 = .ok (.ireturn, 1) := by decide +kernel
theorem dX6_letterAround_20 : decode cX6_letterAround 20 = .ok (.aload_n 2, 1) := by decide +kernel
theorem dX6_letterAround_21 : decode cX6_letterAround 21 = .ok (.iload_n 1, 1) := by decide +kernel
theorem dX6_letterAround_22 : decode cX6_letterAround 22 = .ok (.aload_n 0, 1) := by decide +kernel
theorem dX6_letterAround_23 : decode cX6_letterAround 23 = .ok (.getfield 9, 3) := by decide +kernel
theorem dX6_letterAround_26 : decode cX6_letterAround 26 = .ok (.isub, 1) := by decide +kernel
theorem dX6_letterAround_27 : decode cX6_letterAround 27 = .ok (.iconst 1, 1) := by decide +kernel
theorem dX6_letterAround_28 : decode cX6_letterAround 28 = .ok (.iadd, 1) := by decide +kernel
theorem dX6_letterAround_29 : decode cX6_letterAround 29 = .ok (.aload_n 2, 1) := by decide +kernel
theorem dX6_letterAround_30 : decode cX6_letterAround 30 = .ok (.getfield 19, 3) := by decide +kernel
theorem dX6_letterAround_33 : decode cX6_letterAround 33 = .ok (.imul, 1) := by decide +kernel
theorem dX6_letterAround_34 : decode cX6_letterAround 34 = .ok (.iconst 1, 1) := by decide +kernel
theorem dX6_letterAround_35 : decode cX6_letterAround 35 = .ok (.isub, 1) := by decide +kernel
theorem dX6_letterAround_36 : decode cX6_letterAround 36 = .ok (.iload_n 3, 1) := by decide +kernel
theorem dX6_letterAround_37 : decode cX6_letterAround 37 = .ok (.idiv, 1) := by decide +kernel
theorem dX6_letterAround_38 : decode cX6_letterAround 38 = .ok (.invokevirtual 33, 3) := by decide +kernel
theorem dX6_letterAround_41 : decode cX6_letterAround 41 = .ok (.ireturn, 1) := by decide +kernel
theorem dX7_init_0 : decode cX7_init 0 = .ok (.aload_n 0, 1) := by decide +kernel
theorem dX7_init_1 : decode cX7_init 1 = .ok (.invokespecial 3, 3) := by decide +kernel
theorem dX7_init_4 : decode cX7_init 4 = .ok (.aload_n 0, 1) := by decide +kernel
theorem dX7_init_5 : decode cX7_init 5 = .ok (.bipush 120, 2) := by decide +kernel
theorem dX7_init_7 : decode cX7_init 7 = .ok (.newarray .int, 2) := by decide +kernel
theorem dX7_init_9 : decode cX7_init 9 = .ok (.putfield 9, 3) := by decide +kernel
theorem dX7_init_12 : decode cX7_init 12 = .ok (.aload_n 0, 1) := by decide +kernel
theorem dX7_init_13 : decode cX7_init 13 = .ok (.iconst 0, 1) := by decide +kernel
theorem dX7_init_14 : decode cX7_init 14 = .ok (.putfield 15, 3) := by decide +kernel
theorem dX7_init_17 : decode cX7_init 17 = .ok (.return_, 1) := by decide +kernel
theorem dX7_empty_0 : decode cX7_empty 0 = .ok (.aload_n 0, 1) := by decide +kernel
theorem dX7_empty_1 : decode cX7_empty 1 = .ok (.iconst 0, 1) := by decide +kernel
theorem dX7_empty_2 : decode cX7_empty 2 = .ok (.putfield 15, 3) := by decide +kernel
theorem dX7_empty_5 : decode cX7_empty 5 = .ok (.return_, 1) := by decide +kernel
theorem dX7_append_0 : decode cX7_append 0 = .ok (.aload_n 0, 1) := by decide +kernel
theorem dX7_append_1 : decode cX7_append 1 = .ok (.getfield 15, 3) := by decide +kernel
theorem dX7_append_4 : decode cX7_append 4 = .ok (.ifCond .lt 35, 3) := by decide +kernel
theorem dX7_append_7 : decode cX7_append 7 = .ok (.aload_n 0, 1) := by decide +kernel
theorem dX7_append_8 : decode cX7_append 8 = .ok (.getfield 15, 3) := by decide +kernel
theorem dX7_append_11 : decode cX7_append 11 = .ok (.aload_n 0, 1) := by decide +kernel
theorem dX7_append_12 : decode cX7_append 12 = .ok (.getfield 9, 3) := by decide +kernel
theorem dX7_append_15 : decode cX7_append 15 = .ok (.arraylength, 1) := by decide +kernel
theorem dX7_append_16 : decode cX7_append 16 = .ok (.if_icmp .ge 23, 3) := by decide +kernel
theorem dX7_append_19 : decode cX7_append 19 = .ok (.aload_n 0, 1) := by decide +kernel
theorem dX7_append_20 : decode cX7_append 20 = .ok (.getfield 9, 3) := by decide +kernel
theorem dX7_append_23 : decode cX7_append 23 = .ok (.aload_n 0, 1) := by decide +kernel
theorem dX7_append_24 : decode cX7_append 24 = .ok (.getfield 15, 3) := by decide +kernel
theorem dX7_append_27 : decode cX7_append 27 = .ok (.iload_n 1, 1) := by decide +kernel
theorem dX7_append_28 : decode cX7_append 28 = .ok (.iastore, 1) := by decide +kernel
theorem dX7_append_29 : decode cX7_append 29 = .ok (.aload_n 0, 1) := by decide +kernel
theorem dX7_append_30 : decode cX7_append 30 = .ok (.dup, 1) := by decide +kernel
theorem dX7_append_31 : decode cX7_append 31 = .ok (.getfield 15, 3) := by decide +kernel
theorem dX7_append_34 : decode cX7_append 34 = .ok (.iconst 1, 1) := by decide +kernel
theorem dX7_append_35 : decode cX7_append 35 = .ok (.iadd, 1) := by decide +kernel
theorem dX7_append_36 : decode cX7_append 36 = .ok (.putfield 15, 3) := by decide +kernel
theorem dX7_append_39 : decode cX7_append 39 = .ok (.return_, 1) := by decide +kernel
theorem dX7_copyFrom_0 : decode cX7_copyFrom 0 = .ok (.aload_n 0, 1) := by decide +kernel
theorem dX7_copyFrom_1 : decode cX7_copyFrom 1 = .ok (.invokevirtual 19, 3) := by decide +kernel
theorem dX7_copyFrom_4 : decode cX7_copyFrom 4 = .ok (.iconst 0, 1) := by decide +kernel
theorem dX7_copyFrom_5 : decode cX7_copyFrom 5 = .ok (.istore_n 2, 1) := by decide +kernel
theorem dX7_copyFrom_6 : decode cX7_copyFrom 6 = .ok (.iload_n 2, 1) := by decide +kernel
theorem dX7_copyFrom_7 : decode cX7_copyFrom 7 = .ok (.aload_n 1, 1) := by decide +kernel
theorem dX7_copyFrom_8 : decode cX7_copyFrom 8 = .ok (.getfield 22, 3) := by decide +kernel
theorem dX7_copyFrom_11 : decode cX7_copyFrom 11 = .ok (.if_icmp .ge 29, 3) := by decide +kernel
theorem dX7_copyFrom_14 : decode cX7_copyFrom 14 = .ok (.aload_n 0, 1) := by decide +kernel
theorem dX7_copyFrom_15 : decode cX7_copyFrom 15 = .ok (.aload_n 1, 1) := by decide +kernel
theorem dX7_copyFrom_16 : decode cX7_copyFrom 16 = .ok (.iload_n 2, 1) := by decide +kernel
theorem dX7_copyFrom_17 : decode cX7_copyFrom 17 = .ok (.invokevirtual 25, 3) := by decide +kernel
theorem dX7_copyFrom_20 : decode cX7_copyFrom 20 = .ok (.iconst 1, 1) := by decide +kernel
theorem dX7_copyFrom_21 : decode cX7_copyFrom 21 = .ok (.if_icmp .ne 8, 3) := by decide +kernel
theorem dX7_copyFrom_24 : decode cX7_copyFrom 24 = .ok (.bipush 49, 2) := by decide +kernel
theorem dX7_copyFrom_26 : decode cX7_copyFrom 26 = .ok (.goto 5, 3) := by decide +kernel
theorem dX7_copyFrom_29 : decode cX7_copyFrom 29 = .ok (.bipush 48, 2) := by decide +kernel
theorem dX7_copyFrom_31 : decode cX7_copyFrom 31 = .ok (.invokevirtual 29, 3) := by decide +kernel
theorem dX7_copyFrom_34 : decode cX7_copyFrom 34 = .ok (.iinc 2 1, 3) := by decide +kernel
theorem dX7_copyFrom_37 : decode cX7_copyFrom 37 = .ok (.goto (-31), 3) := by decide +kernel
theorem dX7_copyFrom_40 : decode cX7_copyFrom 40 = .ok (.return_, 1) := by decide +kernel
theorem dX7_copyTo_0 : decode cX7_copyTo 0 = .ok (.aload_n 1, 1) := by decide +kernel
theorem dX7_copyTo_1 : decode cX7_copyTo 1 = .ok (.invokevirtual 33, 3) := by decide +kernel
theorem dX7_copyTo_4 : decode cX7_copyTo 4 = .ok (.iconst 0, 1) := by decide +kernel
theorem dX7_copyTo_5 : decode cX7_copyTo 5 = .ok (.istore_n 2, 1) := by decide +kernel
theorem dX7_copyTo_6 : decode cX7_copyTo 6 = .ok (.iload_n 2, 1) := by decide +kernel
theorem dX7_copyTo_7 : decode cX7_copyTo 7 = .ok (.aload_n 0, 1) := by decide +kernel
theorem dX7_copyTo_8 : decode cX7_copyTo 8 = .ok (.getfield 15, 3) := by decide +kernel
theorem dX7_copyTo_11 : decode cX7_copyTo 11 = .ok (.if_icmp .ge 38, 3) := by decide +kernel
theorem dX7_copyTo_14 : decode cX7_copyTo 14 = .ok (.iload_n 2, 1) := by decide +kernel
theorem dX7_copyTo_15 : decode cX7_copyTo 15 = .ok (.aload_n 0, 1) := by decide +kernel
theorem dX7_copyTo_16 : decode cX7_copyTo 16 = .ok (.getfield 9, 3) := by decide +kernel
theorem dX7_copyTo_19 : decode cX7_copyTo 19 = .ok (.arraylength, 1) := by decide +kernel
theorem dX7_copyTo_20 : decode cX7_copyTo 20 = .ok (.if_icmp .ge 29, 3) := by decide +kernel
theorem dX7_copyTo_23 : decode cX7_copyTo 23 = .ok (.aload_n 1, 1) := by decide +kernel
theorem dX7_copyTo_24 : decode cX7_copyTo 24 = .ok (.aload_n 0, 1) := by decide +kernel
theorem dX7_copyTo_25 : decode cX7_copyTo 25 = .ok (.getfield 9, 3) := by decide +kernel
theorem dX7_copyTo_28 : decode cX7_copyTo 28 = .ok (.iload_n 2, 1) := by decide +kernel
theorem dX7_copyTo_29 : decode cX7_copyTo 29 = .ok (.iaload, 1) := by decide +kernel
theorem dX7_copyTo_30 : decode cX7_copyTo 30 = .ok (.bipush 49, 2) := by decide +kernel
theorem dX7_copyTo_32 : decode cX7_copyTo 32 = .ok (.if_icmp .ne 7, 3) := by decide +kernel
theorem dX7_copyTo_35 : decode cX7_copyTo 35 = .ok (.iconst 1, 1) := by decide +kernel
theorem dX7_copyTo_36 : decode cX7_copyTo 36 = .ok (.goto 4, 3) := by decide +kernel
theorem dX7_copyTo_39 : decode cX7_copyTo 39 = .ok (.iconst 0, 1) := by decide +kernel
theorem dX7_copyTo_40 : decode cX7_copyTo 40 = .ok (.invokevirtual 34, 3) := by decide +kernel
theorem dX7_copyTo_43 : decode cX7_copyTo 43 = .ok (.iinc 2 1, 3) := by decide +kernel
theorem dX7_copyTo_46 : decode cX7_copyTo 46 = .ok (.goto (-40), 3) := by decide +kernel
theorem dX7_copyTo_49 : decode cX7_copyTo 49 = .ok (.return_, 1) := by decide +kernel
theorem dX7_firstStrange_0 : decode cX7_firstStrange 0 = .ok (.iconst 0, 1) := by decide +kernel
theorem dX7_firstStrange_1 : decode cX7_firstStrange 1 = .ok (.istore_n 1, 1) := by decide +kernel
theorem dX7_firstStrange_2 : decode cX7_firstStrange 2 = .ok (.iload_n 1, 1) := by decide +kernel
theorem dX7_firstStrange_3 : decode cX7_firstStrange 3 = .ok (.aload_n 0, 1) := by decide +kernel
theorem dX7_firstStrange_4 : decode cX7_firstStrange 4 = .ok (.getfield 15, 3) := by decide +kernel
theorem dX7_firstStrange_7 : decode cX7_firstStrange 7 = .ok (.if_icmp .ge 42, 3) := by decide +kernel
theorem dX7_firstStrange_10 : decode cX7_firstStrange 10 = .ok (.iload_n 1, 1) := by decide +kernel
theorem dX7_firstStrange_11 : decode cX7_firstStrange 11 = .ok (.aload_n 0, 1) := by decide +kernel
theorem dX7_firstStrange_12 : decode cX7_firstStrange 12 = .ok (.getfield 9, 3) := by decide +kernel
theorem dX7_firstStrange_15 : decode cX7_firstStrange 15 = .ok (.arraylength, 1) := by decide +kernel
theorem dX7_firstStrange_16 : decode cX7_firstStrange 16 = .ok (.if_icmp .ge 33, 3) := by decide +kernel
theorem dX7_firstStrange_19 : decode cX7_firstStrange 19 = .ok (.aload_n 0, 1) := by decide +kernel
theorem dX7_firstStrange_20 : decode cX7_firstStrange 20 = .ok (.getfield 9, 3) := by decide +kernel
theorem dX7_firstStrange_23 : decode cX7_firstStrange 23 = .ok (.iload_n 1, 1) := by decide +kernel
theorem dX7_firstStrange_24 : decode cX7_firstStrange 24 = .ok (.iaload, 1) := by decide +kernel
theorem dX7_firstStrange_25 : decode cX7_firstStrange 25 = .ok (.bipush 48, 2) := by decide +kernel
theorem dX7_firstStrange_27 : decode cX7_firstStrange 27 = .ok (.if_icmp .eq 16, 3) := by decide +kernel
theorem dX7_firstStrange_30 : decode cX7_firstStrange 30 = .ok (.aload_n 0, 1) := by decide +kernel
theorem dX7_firstStrange_31 : decode cX7_firstStrange 31 = .ok (.getfield 9, 3) := by decide +kernel
theorem dX7_firstStrange_34 : decode cX7_firstStrange 34 = .ok (.iload_n 1, 1) := by decide +kernel
theorem dX7_firstStrange_35 : decode cX7_firstStrange 35 = .ok (.iaload, 1) := by decide +kernel
theorem dX7_firstStrange_36 : decode cX7_firstStrange 36 = .ok (.bipush 49, 2) := by decide +kernel
theorem dX7_firstStrange_38 : decode cX7_firstStrange 38 = .ok (.if_icmp .eq 5, 3) := by decide +kernel
theorem dX7_firstStrange_41 : decode cX7_firstStrange 41 = .ok (.iload_n 1, 1) := by decide +kernel
theorem dX7_firstStrange_42 : decode cX7_firstStrange 42 = .ok (.ireturn, 1) := by decide +kernel
theorem dX7_firstStrange_43 : decode cX7_firstStrange 43 = .ok (.iinc 1 1, 3) := by decide +kernel
theorem dX7_firstStrange_46 : decode cX7_firstStrange 46 = .ok (.goto (-44), 3) := by decide +kernel
theorem dX7_firstStrange_49 : decode cX7_firstStrange 49 = .ok (.aload_n 0, 1) := by decide +kernel
theorem dX7_firstStrange_50 : decode cX7_firstStrange 50 = .ok (.getfield 15, 3) := by decide +kernel
theorem dX7_firstStrange_53 : decode cX7_firstStrange 53 = .ok (.ireturn, 1) := by decide +kernel
theorem dX8_init_0 : decode cX8_init 0 = .ok (.aload_n 0, 1) := by decide +kernel
theorem dX8_init_1 : decode cX8_init 1 = .ok (.invokespecial 3, 3) := by decide +kernel
theorem dX8_init_4 : decode cX8_init 4 = .ok (.aload_n 0, 1) := by decide +kernel
theorem dX8_init_5 : decode cX8_init 5 = .ok (.new 9, 3) := by decide +kernel
theorem dX8_init_8 : decode cX8_init 8 = .ok (.dup, 1) := by decide +kernel
theorem dX8_init_9 : decode cX8_init 9 = .ok (.invokespecial 11, 3) := by decide +kernel
theorem dX8_init_12 : decode cX8_init 12 = .ok (.putfield 12, 3) := by decide +kernel
theorem dX8_init_15 : decode cX8_init 15 = .ok (.aload_n 0, 1) := by decide +kernel
theorem dX8_init_16 : decode cX8_init 16 = .ok (.new 16, 3) := by decide +kernel
theorem dX8_init_19 : decode cX8_init 19 = .ok (.dup, 1) := by decide +kernel
theorem dX8_init_20 : decode cX8_init 20 = .ok (.invokespecial 18, 3) := by decide +kernel
theorem dX8_init_23 : decode cX8_init 23 = .ok (.putfield 19, 3) := by decide +kernel
theorem dX8_init_26 : decode cX8_init 26 = .ok (.aload_n 0, 1) := by decide +kernel
theorem dX8_init_27 : decode cX8_init 27 = .ok (.new 16, 3) := by decide +kernel
theorem dX8_init_30 : decode cX8_init 30 = .ok (.dup, 1) := by decide +kernel
theorem dX8_init_31 : decode cX8_init 31 = .ok (.invokespecial 18, 3) := by decide +kernel
theorem dX8_init_34 : decode cX8_init 34 = .ok (.putfield 23, 3) := by decide +kernel
theorem dX8_init_37 : decode cX8_init 37 = .ok (.aload_n 0, 1) := by decide +kernel
theorem dX8_init_38 : decode cX8_init 38 = .ok (.new 26, 3) := by decide +kernel
theorem dX8_init_41 : decode cX8_init 41 = .ok (.dup, 1) := by decide +kernel
theorem dX8_init_42 : decode cX8_init 42 = .ok (.invokespecial 28, 3) := by decide +kernel
theorem dX8_init_45 : decode cX8_init 45 = .ok (.putfield 29, 3) := by decide +kernel
theorem dX8_init_48 : decode cX8_init 48 = .ok (.aload_n 0, 1) := by decide +kernel
theorem dX8_init_49 : decode cX8_init 49 = .ok (.new 33, 3) := by decide +kernel
theorem dX8_init_52 : decode cX8_init 52 = .ok (.dup, 1) := by decide +kernel
theorem dX8_init_53 : decode cX8_init 53 = .ok (.invokespecial 35, 3) := by decide +kernel
theorem dX8_init_56 : decode cX8_init 56 = .ok (.putfield 36, 3) := by decide +kernel
theorem dX8_init_59 : decode cX8_init 59 = .ok (.aload_n 0, 1) := by decide +kernel
theorem dX8_init_60 : decode cX8_init 60 = .ok (.new 40, 3) := by decide +kernel
theorem dX8_init_63 : decode cX8_init 63 = .ok (.dup, 1) := by decide +kernel
theorem dX8_init_64 : decode cX8_init 64 = .ok (.invokespecial 42, 3) := by decide +kernel
theorem dX8_init_67 : decode cX8_init 67 = .ok (.putfield 43, 3) := by decide +kernel
theorem dX8_init_70 : decode cX8_init 70 = .ok (.aload_n 0, 1) := by decide +kernel
theorem dX8_init_71 : decode cX8_init 71 = .ok (.new 47, 3) := by decide +kernel
theorem dX8_init_74 : decode cX8_init 74 = .ok (.dup, 1) := by decide +kernel
theorem dX8_init_75 : decode cX8_init 75 = .ok (.invokespecial 49, 3) := by decide +kernel
theorem dX8_init_78 : decode cX8_init 78 = .ok (.putfield 50, 3) := by decide +kernel
theorem dX8_init_81 : decode cX8_init 81 = .ok (.return_, 1) := by decide +kernel
theorem dX8_put_0 : decode cX8_put 0 = .ok (.iload_n 1, 1) := by decide +kernel
theorem dX8_put_1 : decode cX8_put 1 = .ok (.invokestatic 54, 3) := by decide +kernel
theorem dX8_put_4 : decode cX8_put 4 = .ok (.ifCond .ne 5, 3) := by decide +kernel
theorem dX8_put_7 : decode cX8_put 7 = .ok (.iconst (-1), 1) := by decide +kernel
theorem dX8_put_8 : decode cX8_put 8 = .ok (.ireturn, 1) := by decide +kernel
theorem dX8_put_9 : decode cX8_put 9 = .ok (.aload_n 0, 1) := by decide +kernel
theorem dX8_put_10 : decode cX8_put 10 = .ok (.getfield 12, 3) := by decide +kernel
theorem dX8_put_13 : decode cX8_put 13 = .ok (.getfield 58, 3) := by decide +kernel
theorem dX8_put_16 : decode cX8_put 16 = .ok (.ifCond .eq 6, 3) := by decide +kernel
theorem dX8_put_19 : decode cX8_put 19 = .ok (.bipush (-2), 2) := by decide +kernel
theorem dX8_put_21 : decode cX8_put 21 = .ok (.ireturn, 1) := by decide +kernel
theorem dX8_put_22 : decode cX8_put 22 = .ok (.aload_n 0, 1) := by decide +kernel
theorem dX8_put_23 : decode cX8_put 23 = .ok (.getfield 12, 3) := by decide +kernel
theorem dX8_put_26 : decode cX8_put 26 = .ok (.getfield 62, 3) := by decide +kernel
theorem dX8_put_29 : decode cX8_put 29 = .ok (.bipush 40, 2) := by decide +kernel
theorem dX8_put_31 : decode cX8_put 31 = .ok (.if_icmp .lt 6, 3) := by decide +kernel
theorem dX8_put_34 : decode cX8_put 34 = .ok (.bipush (-3), 2) := by decide +kernel
theorem dX8_put_36 : decode cX8_put 36 = .ok (.ireturn, 1) := by decide +kernel
theorem dX8_put_37 : decode cX8_put 37 = .ok (.aload_n 0, 1) := by decide +kernel
theorem dX8_put_38 : decode cX8_put 38 = .ok (.getfield 50, 3) := by decide +kernel
theorem dX8_put_41 : decode cX8_put 41 = .ok (.aload_n 0, 1) := by decide +kernel
theorem dX8_put_42 : decode cX8_put 42 = .ok (.getfield 12, 3) := by decide +kernel
theorem dX8_put_45 : decode cX8_put 45 = .ok (.invokevirtual 66, 3) := by decide +kernel
theorem dX8_put_48 : decode cX8_put 48 = .ok (.aload_n 0, 1) := by decide +kernel
theorem dX8_put_49 : decode cX8_put 49 = .ok (.getfield 12, 3) := by decide +kernel
theorem dX8_put_52 : decode cX8_put 52 = .ok (.iload_n 1, 1) := by decide +kernel
theorem dX8_put_53 : decode cX8_put 53 = .ok (.invokevirtual 70, 3) := by decide +kernel
theorem dX8_put_56 : decode cX8_put 56 = .ok (.aload_n 0, 1) := by decide +kernel
theorem dX8_put_57 : decode cX8_put 57 = .ok (.getfield 19, 3) := by decide +kernel
theorem dX8_put_60 : decode cX8_put 60 = .ok (.iload_n 1, 1) := by decide +kernel
theorem dX8_put_61 : decode cX8_put 61 = .ok (.invokevirtual 74, 3) := by decide +kernel
theorem dX8_put_64 : decode cX8_put 64 = .ok (.ireturn, 1) := by decide +kernel
theorem dX8_end_0 : decode cX8_end 0 = .ok (.aload_n 0, 1) := by decide +kernel
theorem dX8_end_1 : decode cX8_end 1 = .ok (.getfield 12, 3) := by decide +kernel
theorem dX8_end_4 : decode cX8_end 4 = .ok (.getfield 58, 3) := by decide +kernel
theorem dX8_end_7 : decode cX8_end 7 = .ok (.ifCond .eq 6, 3) := by decide +kernel
theorem dX8_end_10 : decode cX8_end 10 = .ok (.bipush (-2), 2) := by decide +kernel
theorem dX8_end_12 : decode cX8_end 12 = .ok (.ireturn, 1) := by decide +kernel
theorem dX8_end_13 : decode cX8_end 13 = .ok (.aload_n 0, 1) := by decide +kernel
theorem dX8_end_14 : decode cX8_end 14 = .ok (.getfield 50, 3) := by decide +kernel
theorem dX8_end_17 : decode cX8_end 17 = .ok (.aload_n 0, 1) := by decide +kernel
theorem dX8_end_18 : decode cX8_end 18 = .ok (.getfield 12, 3) := by decide +kernel
theorem dX8_end_21 : decode cX8_end 21 = .ok (.invokevirtual 66, 3) := by decide +kernel
theorem dX8_end_24 : decode cX8_end 24 = .ok (.aload_n 0, 1) := by decide +kernel
theorem dX8_end_25 : decode cX8_end 25 = .ok (.getfield 12, 3) := by decide +kernel
theorem dX8_end_28 : decode cX8_end 28 = .ok (.iconst 1, 1) := by decide +kernel
theorem dX8_end_29 : decode cX8_end 29 = .ok (.putfield 58, 3) := by decide +kernel
theorem dX8_end_32 : decode cX8_end 32 = .ok (.aload_n 0, 1) := by decide +kernel
theorem dX8_end_33 : decode cX8_end 33 = .ok (.getfield 19, 3) := by decide +kernel
theorem dX8_end_36 : decode cX8_end 36 = .ok (.invokevirtual 78, 3) := by decide +kernel
theorem dX8_end_39 : decode cX8_end 39 = .ok (.aload_n 0, 1) := by decide +kernel
theorem dX8_end_40 : decode cX8_end 40 = .ok (.getfield 19, 3) := by decide +kernel
theorem dX8_end_43 : decode cX8_end 43 = .ok (.getfield 81, 3) := by decide +kernel
theorem dX8_end_46 : decode cX8_end 46 = .ok (.getfield 84, 3) := by decide +kernel
theorem dX8_end_49 : decode cX8_end 49 = .ok (.ireturn, 1) := by decide +kernel
theorem dX8_drop_0 : decode cX8_drop 0 = .ok (.iload_n 1, 1) := by decide +kernel
theorem dX8_drop_1 : decode cX8_drop 1 = .ok (.iconst 1, 1) := by decide +kernel
theorem dX8_drop_2 : decode cX8_drop 2 = .ok (.if_icmp .lt 9, 3) := by decide +kernel
theorem dX8_drop_5 : decode cX8_drop 5 = .ok (.iload_n 1, 1) := by decide +kernel
theorem dX8_drop_6 : decode cX8_drop 6 = .ok (.bipush 40, 2) := by decide +kernel
theorem dX8_drop_8 : decode cX8_drop 8 = .ok (.if_icmp .le 5, 3) := by decide +kernel
theorem dX8_drop_11 : decode cX8_drop 11 = .ok (.iconst (-1), 1) := by decide +kernel
theorem dX8_drop_12 : decode cX8_drop 12 = .ok (.ireturn, 1) := by decide +kernel
theorem dX8_drop_13 : decode cX8_drop 13 = .ok (.iload_n 1, 1) := by decide +kernel
theorem dX8_drop_14 : decode cX8_drop 14 = .ok (.aload_n 0, 1) := by decide +kernel
theorem dX8_drop_15 : decode cX8_drop 15 = .ok (.getfield 12, 3) := by decide +kernel
theorem dX8_drop_18 : decode cX8_drop 18 = .ok (.getfield 62, 3) := by decide +kernel
theorem dX8_drop_21 : decode cX8_drop 21 = .ok (.if_icmp .le 6, 3) := by decide +kernel
theorem dX8_drop_24 : decode cX8_drop 24 = .ok (.bipush (-2), 2) := by decide +kernel
theorem dX8_drop_26 : decode cX8_drop 26 = .ok (.ireturn, 1) := by decide +kernel
theorem dX8_drop_27 : decode cX8_drop 27 = .ok (.aload_n 0, 1) := by decide +kernel
theorem dX8_drop_28 : decode cX8_drop 28 = .ok (.getfield 50, 3) := by decide +kernel
theorem dX8_drop_31 : decode cX8_drop 31 = .ok (.aload_n 0, 1) := by decide +kernel
theorem dX8_drop_32 : decode cX8_drop 32 = .ok (.getfield 12, 3) := by decide +kernel
theorem dX8_drop_35 : decode cX8_drop 35 = .ok (.invokevirtual 66, 3) := by decide +kernel
theorem dX8_drop_38 : decode cX8_drop 38 = .ok (.aload_n 0, 1) := by decide +kernel
theorem dX8_drop_39 : decode cX8_drop 39 = .ok (.getfield 12, 3) := by decide +kernel
theorem dX8_drop_42 : decode cX8_drop 42 = .ok (.iload_n 1, 1) := by decide +kernel
theorem dX8_drop_43 : decode cX8_drop 43 = .ok (.invokevirtual 91, 3) := by decide +kernel
theorem dX8_drop_46 : decode cX8_drop 46 = .ok (.aload_n 0, 1) := by decide +kernel
theorem dX8_drop_47 : decode cX8_drop 47 = .ok (.invokevirtual 88, 3) := by decide +kernel
theorem dX8_drop_50 : decode cX8_drop 50 = .ok (.aload_n 0, 1) := by decide +kernel
theorem dX8_drop_51 : decode cX8_drop 51 = .ok (.getfield 19, 3) := by decide +kernel
theorem dX8_drop_54 : decode cX8_drop 54 = .ok (.getfield 81, 3) := by decide +kernel
theorem dX8_drop_57 : decode cX8_drop 57 = .ok (.getfield 84, 3) := by decide +kernel
theorem dX8_drop_60 : decode cX8_drop 60 = .ok (.ireturn, 1) := by decide +kernel
theorem dX8_mend_0 : decode cX8_mend 0 = .ok (.iload_n 1, 1) := by decide +kernel
theorem dX8_mend_1 : decode cX8_mend 1 = .ok (.ifCond .lt 10, 3) := by decide +kernel
theorem dX8_mend_4 : decode cX8_mend 4 = .ok (.iload_n 2, 1) := by decide +kernel
theorem dX8_mend_5 : decode cX8_mend 5 = .ok (.invokestatic 54, 3) := by decide +kernel
theorem dX8_mend_8 : decode cX8_mend 8 = .ok (.ifCond .ne 5, 3) := by decide +kernel
theorem dX8_mend_11 : decode cX8_mend 11 = .ok (.iconst (-1), 1) := by decide +kernel
theorem dX8_mend_12 : decode cX8_mend 12 = .ok (.ireturn, 1) := by decide +kernel
theorem dX8_mend_13 : decode cX8_mend 13 = .ok (.iload_n 1, 1) := by decide +kernel
theorem dX8_mend_14 : decode cX8_mend 14 = .ok (.aload_n 0, 1) := by decide +kernel
theorem dX8_mend_15 : decode cX8_mend 15 = .ok (.getfield 12, 3) := by decide +kernel
theorem dX8_mend_18 : decode cX8_mend 18 = .ok (.getfield 62, 3) := by decide +kernel
theorem dX8_mend_21 : decode cX8_mend 21 = .ok (.if_icmp .lt 6, 3) := by decide +kernel
theorem dX8_mend_24 : decode cX8_mend 24 = .ok (.bipush (-2), 2) := by decide +kernel
theorem dX8_mend_26 : decode cX8_mend 26 = .ok (.ireturn, 1) := by decide +kernel
theorem dX8_mend_27 : decode cX8_mend 27 = .ok (.aload_n 0, 1) := by decide +kernel
theorem dX8_mend_28 : decode cX8_mend 28 = .ok (.getfield 50, 3) := by decide +kernel
theorem dX8_mend_31 : decode cX8_mend 31 = .ok (.aload_n 0, 1) := by decide +kernel
theorem dX8_mend_32 : decode cX8_mend 32 = .ok (.getfield 12, 3) := by decide +kernel
theorem dX8_mend_35 : decode cX8_mend 35 = .ok (.invokevirtual 66, 3) := by decide +kernel
theorem dX8_mend_38 : decode cX8_mend 38 = .ok (.aload_n 0, 1) := by decide +kernel
theorem dX8_mend_39 : decode cX8_mend 39 = .ok (.getfield 12, 3) := by decide +kernel
theorem dX8_mend_42 : decode cX8_mend 42 = .ok (.iload_n 1, 1) := by decide +kernel
theorem dX8_mend_43 : decode cX8_mend 43 = .ok (.iload_n 2, 1) := by decide +kernel
theorem dX8_mend_44 : decode cX8_mend 44 = .ok (.invokevirtual 94, 3) := by decide +kernel
theorem dX8_mend_47 : decode cX8_mend 47 = .ok (.aload_n 0, 1) := by decide +kernel
theorem dX8_mend_48 : decode cX8_mend 48 = .ok (.invokevirtual 88, 3) := by decide +kernel
theorem dX8_mend_51 : decode cX8_mend 51 = .ok (.aload_n 0, 1) := by decide +kernel
theorem dX8_mend_52 : decode cX8_mend 52 = .ok (.getfield 19, 3) := by decide +kernel
theorem dX8_mend_55 : decode cX8_mend 55 = .ok (.getfield 81, 3) := by decide +kernel
theorem dX8_mend_58 : decode cX8_mend 58 = .ok (.getfield 84, 3) := by decide +kernel
theorem dX8_mend_61 : decode cX8_mend 61 = .ok (.ireturn, 1) := by decide +kernel
theorem dX8_set_0 : decode cX8_set 0 = .ok (.iload_n 1, 1) := by decide +kernel
theorem dX8_set_1 : decode cX8_set 1 = .ok (.iload_n 2, 1) := by decide +kernel
theorem dX8_set_2 : decode cX8_set 2 = .ok (.invokestatic 98, 3) := by decide +kernel
theorem dX8_set_5 : decode cX8_set 5 = .ok (.ifCond .ne 5, 3) := by decide +kernel
theorem dX8_set_8 : decode cX8_set 8 = .ok (.iconst (-1), 1) := by decide +kernel
theorem dX8_set_9 : decode cX8_set 9 = .ok (.ireturn, 1) := by decide +kernel
theorem dX8_set_10 : decode cX8_set 10 = .ok (.aload_n 0, 1) := by decide +kernel
theorem dX8_set_11 : decode cX8_set 11 = .ok (.getfield 50, 3) := by decide +kernel
theorem dX8_set_14 : decode cX8_set 14 = .ok (.aload_n 0, 1) := by decide +kernel
theorem dX8_set_15 : decode cX8_set 15 = .ok (.getfield 12, 3) := by decide +kernel
theorem dX8_set_18 : decode cX8_set 18 = .ok (.invokevirtual 66, 3) := by decide +kernel
theorem dX8_set_21 : decode cX8_set 21 = .ok (.iload_n 1, 1) := by decide +kernel
theorem dX8_set_22 : decode cX8_set 22 = .ok (.ifCond .ne 13, 3) := by decide +kernel
theorem dX8_set_25 : decode cX8_set 25 = .ok (.aload_n 0, 1) := by decide +kernel
theorem dX8_set_26 : decode cX8_set 26 = .ok (.getfield 12, 3) := by decide +kernel
theorem dX8_set_29 : decode cX8_set 29 = .ok (.getfield 102, 3) := by decide +kernel
theorem dX8_set_32 : decode cX8_set 32 = .ok (.goto 10, 3) := by decide +kernel
theorem dX8_set_35 : decode cX8_set 35 = .ok (.aload_n 0, 1) := by decide +kernel
theorem dX8_set_36 : decode cX8_set 36 = .ok (.getfield 12, 3) := by decide +kernel
theorem dX8_set_39 : decode cX8_set 39 = .ok (.getfield 105, 3) := by decide +kernel
theorem dX8_set_42 : decode cX8_set 42 = .ok (.istore_n 3, 1) := by decide +kernel
theorem dX8_set_43 : decode cX8_set 43 = .ok (.iload_n 1, 1) := by decide +kernel
theorem dX8_set_44 : decode cX8_set 44 = .ok (.ifCond .ne 14, 3) := by decide +kernel
theorem dX8_set_47 : decode cX8_set 47 = .ok (.aload_n 0, 1) := by decide +kernel
theorem dX8_set_48 : decode cX8_set 48 = .ok (.getfield 12, 3) := by decide +kernel
theorem dX8_set_51 : decode cX8_set 51 = .ok (.iload_n 2, 1) := by decide +kernel
theorem dX8_set_52 : decode cX8_set 52 = .ok (.putfield 102, 3) := by decide +kernel
theorem dX8_set_55 : decode cX8_set 55 = .ok (.goto 11, 3) := by decide +kernel
theorem dX8_set_58 : decode cX8_set 58 = .ok (.aload_n 0, 1) := by decide +kernel
theorem dX8_set_59 : decode cX8_set 59 = .ok (.getfield 12, 3) := by decide +kernel
theorem dX8_set_62 : decode cX8_set 62 = .ok (.iload_n 2, 1) := by decide +kernel
theorem dX8_set_63 : decode cX8_set 63 = .ok (.putfield 105, 3) := by decide +kernel
theorem dX8_set_66 : decode cX8_set 66 = .ok (.aload_n 0, 1) := by decide +kernel
theorem dX8_set_67 : decode cX8_set 67 = .ok (.getfield 12, 3) := by decide +kernel
theorem dX8_set_70 : decode cX8_set 70 = .ok (.invokevirtual 85, 3) := by decide +kernel
theorem dX8_set_73 : decode cX8_set 73 = .ok (.aload_n 0, 1) := by decide +kernel
theorem dX8_set_74 : decode cX8_set 74 = .ok (.invokevirtual 88, 3) := by decide +kernel
theorem dX8_set_77 : decode cX8_set 77 = .ok (.iload_n 3, 1) := by decide +kernel
theorem dX8_set_78 : decode cX8_set 78 = .ok (.ireturn, 1) := by decide +kernel
theorem dX8_letter_0 : decode cX8_letter 0 = .ok (.iload_n 1, 1) := by decide +kernel
theorem dX8_letter_1 : decode cX8_letter 1 = .ok (.ifCond .ge 5, 3) := by decide +kernel
theorem dX8_letter_4 : decode cX8_letter 4 = .ok (.iconst (-1), 1) := by decide +kernel
theorem dX8_letter_5 : decode cX8_letter 5 = .ok (.ireturn, 1) := by decide +kernel
theorem dX8_letter_6 : decode cX8_letter 6 = .ok (.iload_n 1, 1) := by decide +kernel
theorem dX8_letter_7 : decode cX8_letter 7 = .ok (.aload_n 0, 1) := by decide +kernel
theorem dX8_letter_8 : decode cX8_letter 8 = .ok (.getfield 12, 3) := by decide +kernel
theorem dX8_letter_11 : decode cX8_letter 11 = .ok (.getfield 62, 3) := by decide +kernel
theorem dX8_letter_14 : decode cX8_letter 14 = .ok (.if_icmp .ge 14, 3) := by decide +kernel
theorem dX8_letter_17 : decode cX8_letter 17 = .ok (.aload_n 0, 1) := by decide +kernel
theorem dX8_letter_18 : decode cX8_letter 18 = .ok (.getfield 12, 3) := by decide +kernel
theorem dX8_letter_21 : decode cX8_letter 21 = .ok (.iload_n 1, 1) := by decide +kernel
theorem dX8_letter_22 : decode cX8_letter 22 = .ok (.invokevirtual 108, 3) := by decide +kernel
theorem dX8_letter_25 : decode cX8_letter 25 = .ok (.goto 5, 3) := by decide +kernel
theorem dX8_letter_28 : decode cX8_letter 28 = .ok (.bipush (-4), 2) := by decide +kernel
theorem dX8_letter_30 : decode cX8_letter 30 = .ok (.ireturn, 1) := by decide +kernel
theorem dX8_bit_0 : decode cX8_bit 0 = .ok (.iload_n 1, 1) := by decide +kernel
theorem dX8_bit_1 : decode cX8_bit 1 = .ok (.ifCond .ge 5, 3) := by decide +kernel
theorem dX8_bit_4 : decode cX8_bit 4 = .ok (.iconst (-1), 1) := by decide +kernel
theorem dX8_bit_5 : decode cX8_bit 5 = .ok (.ireturn, 1) := by decide +kernel
theorem dX8_bit_6 : decode cX8_bit 6 = .ok (.iload_n 1, 1) := by decide +kernel
theorem dX8_bit_7 : decode cX8_bit 7 = .ok (.aload_n 0, 1) := by decide +kernel
theorem dX8_bit_8 : decode cX8_bit 8 = .ok (.getfield 19, 3) := by decide +kernel
theorem dX8_bit_11 : decode cX8_bit 11 = .ok (.getfield 81, 3) := by decide +kernel
theorem dX8_bit_14 : decode cX8_bit 14 = .ok (.getfield 84, 3) := by decide +kernel
theorem dX8_bit_17 : decode cX8_bit 17 = .ok (.if_icmp .ge 17, 3) := by decide +kernel
theorem dX8_bit_20 : decode cX8_bit 20 = .ok (.aload_n 0, 1) := by decide +kernel
theorem dX8_bit_21 : decode cX8_bit 21 = .ok (.getfield 19, 3) := by decide +kernel
theorem dX8_bit_24 : decode cX8_bit 24 = .ok (.getfield 81, 3) := by decide +kernel
theorem dX8_bit_27 : decode cX8_bit 27 = .ok (.iload_n 1, 1) := by decide +kernel
theorem dX8_bit_28 : decode cX8_bit 28 = .ok (.invokevirtual 111, 3) := by decide +kernel
theorem dX8_bit_31 : decode cX8_bit 31 = .ok (.goto 5, 3) := by decide +kernel
theorem dX8_bit_34 : decode cX8_bit 34 = .ok (.bipush (-4), 2) := by decide +kernel
theorem dX8_bit_36 : decode cX8_bit 36 = .ok (.ireturn, 1) := by decide +kernel
theorem dX8_letterOf_0 : decode cX8_letterOf 0 = .ok (.iload_n 1, 1) := by decide +kernel
theorem dX8_letterOf_1 : decode cX8_letterOf 1 = .ok (.ifCond .lt 18, 3) := by decide +kernel
theorem dX8_letterOf_4 : decode cX8_letterOf 4 = .ok (.iload_n 1, 1) := by decide +kernel
theorem dX8_letterOf_5 : decode cX8_letterOf 5 = .ok (.bipush 8, 2) := by decide +kernel
theorem dX8_letterOf_7 : decode cX8_letterOf 7 = .ok (.if_icmp .gt 12, 3) := by decide +kernel
theorem dX8_letterOf_10 : decode cX8_letterOf 10 = .ok (.iload_n 2, 1) := by decide +kernel
theorem dX8_letterOf_11 : decode cX8_letterOf 11 = .ok (.ifCond .lt 8, 3) := by decide +kernel
theorem dX8_letterOf_14 : decode cX8_letterOf 14 = .ok (.iload_n 2, 1) := by decide +kernel
theorem dX8_letterOf_15 : decode cX8_letterOf 15 = .ok (.iconst 3, 1) := by decide +kernel
theorem dX8_letterOf_16 : decode cX8_letterOf 16 = .ok (.if_icmp .le 5, 3) := by decide +kernel
theorem dX8_letterOf_19 : decode cX8_letterOf 19 = .ok (.iconst (-1), 1) := by decide +kernel
theorem dX8_letterOf_20 : decode cX8_letterOf 20 = .ok (.ireturn, 1) := by decide +kernel
theorem dX8_letterOf_21 : decode cX8_letterOf 21 = .ok (.iload_n 2, 1) := by decide +kernel
theorem dX8_letterOf_22 : decode cX8_letterOf 22 = .ok (.ifCond .ne 15, 3) := by decide +kernel
theorem dX8_letterOf_25 : decode cX8_letterOf 25 = .ok (.aload_n 0, 1) := by decide +kernel
theorem dX8_letterOf_26 : decode cX8_letterOf 26 = .ok (.getfield 19, 3) := by decide +kernel
theorem dX8_letterOf_29 : decode cX8_letterOf 29 = .ok (.getfield 114, 3) := by decide +kernel
theorem dX8_letterOf_32 : decode cX8_letterOf 32 = .ok (.iload_n 1, 1) := by decide +kernel
theorem dX8_letterOf_33 : decode cX8_letterOf 33 = .ok (.invokevirtual 118, 3) := by decide +kernel
theorem dX8_letterOf_36 : decode cX8_letterOf 36 = .ok (.ireturn, 1) := by decide +kernel
theorem dX8_letterOf_37 : decode cX8_letterOf 37 = .ok (.iload_n 2, 1) := by decide +kernel
theorem dX8_letterOf_38 : decode cX8_letterOf 38 = .ok (.iconst 1, 1) := by decide +kernel
theorem dX8_letterOf_39 : decode cX8_letterOf 39 = .ok (.if_icmp .ne 15, 3) := by decide +kernel
theorem dX8_letterOf_42 : decode cX8_letterOf 42 = .ok (.aload_n 0, 1) := by decide +kernel
theorem dX8_letterOf_43 : decode cX8_letterOf 43 = .ok (.getfield 19, 3) := by decide +kernel
theorem dX8_letterOf_46 : decode cX8_letterOf 46 = .ok (.getfield 114, 3) := by decide +kernel
theorem dX8_letterOf_49 : decode cX8_letterOf 49 = .ok (.iload_n 1, 1) := by decide +kernel
theorem dX8_letterOf_50 : decode cX8_letterOf 50 = .ok (.invokevirtual 123, 3) := by decide +kernel
theorem dX8_letterOf_53 : decode cX8_letterOf 53 = .ok (.ireturn, 1) := by decide +kernel
theorem dX8_letterOf_54 : decode cX8_letterOf 54 = .ok (.iload_n 2, 1) := by decide +kernel
theorem dX8_letterOf_55 : decode cX8_letterOf 55 = .ok (.iconst 2, 1) := by decide +kernel
theorem dX8_letterOf_56 : decode cX8_letterOf 56 = .ok (.if_icmp .ne 12, 3) := by decide +kernel
theorem dX8_letterOf_59 : decode cX8_letterOf 59 = .ok (.aload_n 0, 1) := by decide +kernel
theorem dX8_letterOf_60 : decode cX8_letterOf 60 = .ok (.getfield 12, 3) := by decide +kernel
theorem dX8_letterOf_63 : decode cX8_letterOf 63 = .ok (.iload_n 1, 1) := by decide +kernel
theorem dX8_letterOf_64 : decode cX8_letterOf 64 = .ok (.invokevirtual 126, 3) := by decide +kernel
theorem dX8_letterOf_67 : decode cX8_letterOf 67 = .ok (.ireturn, 1) := by decide +kernel
theorem dX8_letterOf_68 : decode cX8_letterOf 68 = .ok (.aload_n 0, 1) := by decide +kernel
theorem dX8_letterOf_69 : decode cX8_letterOf 69 = .ok (.getfield 12, 3) := by decide +kernel
theorem dX8_letterOf_72 : decode cX8_letterOf 72 = .ok (.getfield 58, 3) := by decide +kernel
theorem dX8_letterOf_75 : decode cX8_letterOf 75 = .ok (.ifCond .eq 8, 3) := by decide +kernel
theorem dX8_letterOf_78 : decode cX8_letterOf 78 = .ok (.bipush (-2), 2) := by decide +kernel
theorem dX8_letterOf_80 : decode cX8_letterOf 80 = .ok (.goto 8, 3) := by decide +kernel
theorem dX8_letterOf_83 : decode cX8_letterOf 83 = .ok (.aload_n 0, 1) := by decide +kernel
theorem dX8_letterOf_84 : decode cX8_letterOf 84 = .ok (.iload_n 1, 1) := by decide +kernel
theorem dX8_letterOf_85 : decode cX8_letterOf 85 = .ok (.invokevirtual 129, 3) := by decide +kernel
theorem dX8_letterOf_88 : decode cX8_letterOf 88 = .ok (.ireturn, 1) := by decide +kernel
theorem dX8_count_0 : decode cX8_count 0 = .ok (.iload_n 1, 1) := by decide +kernel
theorem dX8_count_1 : decode cX8_count 1 = .ok (.tableswitch 194 0 12 #[67, 75, 86, 94, 105, 116, 127, 138, 154, 162, 170, 178, 186], 67) := by decide +kernel
theorem dX8_count_68 : decode cX8_count 68 = .ok (.aload_n 0, 1) := by decide +kernel
theorem dX8_count_69 : decode cX8_count 69 = .ok (.getfield 12, 3) := by decide +kernel
theorem dX8_count_72 : decode cX8_count 72 = .ok (.getfield 62, 3) := by decide +kernel
theorem dX8_count_75 : decode cX8_count 75 = .ok (.ireturn, 1) := by decide +kernel
theorem dX8_count_76 : decode cX8_count 76 = .ok (.aload_n 0, 1) := by decide +kernel
theorem dX8_count_77 : decode cX8_count 77 = .ok (.getfield 19, 3) := by decide +kernel
theorem dX8_count_80 : decode cX8_count 80 = .ok (.getfield 81, 3) := by decide +kernel
theorem dX8_count_83 : decode cX8_count 83 = .ok (.getfield 84, 3) := by decide +kernel
theorem dX8_count_86 : decode cX8_count 86 = .ok (.ireturn, 1) := by decide +kernel
theorem dX8_count_87 : decode cX8_count 87 = .ok (.aload_n 0, 1) := by decide +kernel
theorem dX8_count_88 : decode cX8_count 88 = .ok (.getfield 19, 3) := by decide +kernel
theorem dX8_count_91 : decode cX8_count 91 = .ok (.getfield 132, 3) := by decide +kernel
theorem dX8_count_94 : decode cX8_count 94 = .ok (.ireturn, 1) := by decide +kernel
theorem dX8_count_95 : decode cX8_count 95 = .ok (.aload_n 0, 1) := by decide +kernel
theorem dX8_count_96 : decode cX8_count 96 = .ok (.getfield 19, 3) := by decide +kernel
theorem dX8_count_99 : decode cX8_count 99 = .ok (.getfield 135, 3) := by decide +kernel
theorem dX8_count_102 : decode cX8_count 102 = .ok (.getfield 139, 3) := by decide +kernel
theorem dX8_count_105 : decode cX8_count 105 = .ok (.ireturn, 1) := by decide +kernel
theorem dX8_count_106 : decode cX8_count 106 = .ok (.aload_n 0, 1) := by decide +kernel
theorem dX8_count_107 : decode cX8_count 107 = .ok (.getfield 19, 3) := by decide +kernel
theorem dX8_count_110 : decode cX8_count 110 = .ok (.getfield 135, 3) := by decide +kernel
theorem dX8_count_113 : decode cX8_count 113 = .ok (.getfield 144, 3) := by decide +kernel
theorem dX8_count_116 : decode cX8_count 116 = .ok (.ireturn, 1) := by decide +kernel
theorem dX8_count_117 : decode cX8_count 117 = .ok (.aload_n 0, 1) := by decide +kernel
theorem dX8_count_118 : decode cX8_count 118 = .ok (.getfield 19, 3) := by decide +kernel
theorem dX8_count_121 : decode cX8_count 121 = .ok (.getfield 114, 3) := by decide +kernel
theorem dX8_count_124 : decode cX8_count 124 = .ok (.getfield 147, 3) := by decide +kernel
theorem dX8_count_127 : decode cX8_count 127 = .ok (.ireturn, 1) := by decide +kernel
theorem dX8_count_128 : decode cX8_count 128 = .ok (.aload_n 0, 1) := by decide +kernel
theorem dX8_count_129 : decode cX8_count 129 = .ok (.getfield 19, 3) := by decide +kernel
theorem dX8_count_132 : decode cX8_count 132 = .ok (.getfield 114, 3) := by decide +kernel
theorem dX8_count_135 : decode cX8_count 135 = .ok (.getfield 150, 3) := by decide +kernel
theorem dX8_count_138 : decode cX8_count 138 = .ok (.ireturn, 1) := by decide +kernel
theorem dX8_count_139 : decode cX8_count 139 = .ok (.aload_n 0, 1) := by decide +kernel
theorem dX8_count_140 : decode cX8_count 140 = .ok (.getfield 12, 3) := by decide +kernel
theorem dX8_count_143 : decode cX8_count 143 = .ok (.getfield 58, 3) := by decide +kernel
theorem dX8_count_146 : decode cX8_count 146 = .ok (.ifCond .eq 7, 3) := by decide +kernel
theorem dX8_count_149 : decode cX8_count 149 = .ok (.iconst 1, 1) := by decide +kernel
theorem dX8_count_150 : decode cX8_count 150 = .ok (.goto 4, 3) := by decide +kernel
theorem dX8_count_153 : decode cX8_count 153 = .ok (.iconst 0, 1) := by decide +kernel
theorem dX8_count_154 : decode cX8_count 154 = .ok (.ireturn, 1) := by decide +kernel
theorem dX8_count_155 : decode cX8_count 155 = .ok (.aload_n 0, 1) := by decide +kernel
theorem dX8_count_156 : decode cX8_count 156 = .ok (.getfield 50, 3) := by decide +kernel
theorem dX8_count_159 : decode cX8_count 159 = .ok (.getfield 153, 3) := by decide +kernel
theorem dX8_count_162 : decode cX8_count 162 = .ok (.ireturn, 1) := by decide +kernel
theorem dX8_count_163 : decode cX8_count 163 = .ok (.aload_n 0, 1) := by decide +kernel
theorem dX8_count_164 : decode cX8_count 164 = .ok (.getfield 36, 3) := by decide +kernel
theorem dX8_count_167 : decode cX8_count 167 = .ok (.getfield 154, 3) := by decide +kernel
theorem dX8_count_170 : decode cX8_count 170 = .ok (.ireturn, 1) := by decide +kernel
theorem dX8_count_171 : decode cX8_count 171 = .ok (.aload_n 0, 1) := by decide +kernel
theorem dX8_count_172 : decode cX8_count 172 = .ok (.getfield 12, 3) := by decide +kernel
theorem dX8_count_175 : decode cX8_count 175 = .ok (.getfield 102, 3) := by decide +kernel
theorem dX8_count_178 : decode cX8_count 178 = .ok (.ireturn, 1) := by decide +kernel
theorem dX8_count_179 : decode cX8_count 179 = .ok (.aload_n 0, 1) := by decide +kernel
theorem dX8_count_180 : decode cX8_count 180 = .ok (.getfield 12, 3) := by decide +kernel
theorem dX8_count_183 : decode cX8_count 183 = .ok (.getfield 105, 3) := by decide +kernel
theorem dX8_count_186 : decode cX8_count 186 = .ok (.ireturn, 1) := by decide +kernel
theorem dX8_count_187 : decode cX8_count 187 = .ok (.aload_n 0, 1) := by decide +kernel
theorem dX8_count_188 : decode cX8_count 188 = .ok (.getfield 19, 3) := by decide +kernel
theorem dX8_count_191 : decode cX8_count 191 = .ok (.invokevirtual 155, 3) := by decide +kernel
theorem dX8_count_194 : decode cX8_count 194 = .ok (.ireturn, 1) := by decide +kernel
theorem dX8_count_195 : decode cX8_count 195 = .ok (.iconst (-1), 1) := by decide +kernel
theorem dX8_count_196 : decode cX8_count 196 = .ok (.ireturn, 1) := by decide +kernel
theorem dX8_cost_0 : decode cX8_cost 0 = .ok (.iload_n 1, 1) := by decide +kernel
theorem dX8_cost_1 : decode cX8_cost 1 = .ok (.ifCond .ge 5, 3) := by decide +kernel
theorem dX8_cost_4 : decode cX8_cost 4 = .ok (.iconst (-1), 1) := by decide +kernel
theorem dX8_cost_5 : decode cX8_cost 5 = .ok (.ireturn, 1) := by decide +kernel
theorem dX8_cost_6 : decode cX8_cost 6 = .ok (.iload_n 1, 1) := by decide +kernel
theorem dX8_cost_7 : decode cX8_cost 7 = .ok (.aload_n 0, 1) := by decide +kernel
theorem dX8_cost_8 : decode cX8_cost 8 = .ok (.getfield 12, 3) := by decide +kernel
theorem dX8_cost_11 : decode cX8_cost 11 = .ok (.getfield 62, 3) := by decide +kernel
theorem dX8_cost_14 : decode cX8_cost 14 = .ok (.if_icmp .ge 14, 3) := by decide +kernel
theorem dX8_cost_17 : decode cX8_cost 17 = .ok (.aload_n 0, 1) := by decide +kernel
theorem dX8_cost_18 : decode cX8_cost 18 = .ok (.getfield 19, 3) := by decide +kernel
theorem dX8_cost_21 : decode cX8_cost 21 = .ok (.iload_n 1, 1) := by decide +kernel
theorem dX8_cost_22 : decode cX8_cost 22 = .ok (.invokevirtual 159, 3) := by decide +kernel
theorem dX8_cost_25 : decode cX8_cost 25 = .ok (.goto 5, 3) := by decide +kernel
theorem dX8_cost_28 : decode cX8_cost 28 = .ok (.bipush (-4), 2) := by decide +kernel
theorem dX8_cost_30 : decode cX8_cost 30 = .ok (.ireturn, 1) := by decide +kernel
theorem dX8_bitsBy_0 : decode cX8_bitsBy 0 = .ok (.iload_n 1, 1) := by decide +kernel
theorem dX8_bitsBy_1 : decode cX8_bitsBy 1 = .ok (.invokestatic 162, 3) := by decide +kernel
theorem dX8_bitsBy_4 : decode cX8_bitsBy 4 = .ok (.ifCond .ne 5, 3) := by decide +kernel
theorem dX8_bitsBy_7 : decode cX8_bitsBy 7 = .ok (.iconst (-1), 1) := by decide +kernel
theorem dX8_bitsBy_8 : decode cX8_bitsBy 8 = .ok (.ireturn, 1) := by decide +kernel
theorem dX8_bitsBy_9 : decode cX8_bitsBy 9 = .ok (.aload_n 0, 1) := by decide +kernel
theorem dX8_bitsBy_10 : decode cX8_bitsBy 10 = .ok (.iload_n 1, 1) := by decide +kernel
theorem dX8_bitsBy_11 : decode cX8_bitsBy 11 = .ok (.invokevirtual 165, 3) := by decide +kernel
theorem dX8_bitsBy_14 : decode cX8_bitsBy 14 = .ok (.ireturn, 1) := by decide +kernel
theorem dX8_bestPace_0 : decode cX8_bestPace 0 = .ok (.iconst 1, 1) := by decide +kernel
theorem dX8_bestPace_1 : decode cX8_bestPace 1 = .ok (.istore_n 1, 1) := by decide +kernel
theorem dX8_bestPace_2 : decode cX8_bestPace 2 = .ok (.aload_n 0, 1) := by decide +kernel
theorem dX8_bestPace_3 : decode cX8_bestPace 3 = .ok (.iload_n 1, 1) := by decide +kernel
theorem dX8_bestPace_4 : decode cX8_bestPace 4 = .ok (.invokevirtual 165, 3) := by decide +kernel
theorem dX8_bestPace_7 : decode cX8_bestPace 7 = .ok (.istore_n 2, 1) := by decide +kernel
theorem dX8_bestPace_8 : decode cX8_bestPace 8 = .ok (.iconst 2, 1) := by decide +kernel
theorem dX8_bestPace_9 : decode cX8_bestPace 9 = .ok (.istore_n 3, 1) := by decide +kernel
theorem dX8_bestPace_10 : decode cX8_bestPace 10 = .ok (.iload_n 3, 1) := by decide +kernel
theorem dX8_bestPace_11 : decode cX8_bestPace 11 = .ok (.bipush 64, 2) := by decide +kernel
theorem dX8_bestPace_13 : decode cX8_bestPace 13 = .ok (.if_icmp .gt 27, 3) := by decide +kernel
theorem dX8_bestPace_16 : decode cX8_bestPace 16 = .ok (.aload_n 0, 1) := by decide +kernel
theorem dX8_bestPace_17 : decode cX8_bestPace 17 = .ok (.iload_n 3, 1) := by decide +kernel
theorem dX8_bestPace_18 : decode cX8_bestPace 18 = .ok (.invokevirtual 165, 3) := by decide +kernel
theorem dX8_bestPace_21 : decode cX8_bestPace 21 = .ok (.istore 4, 2) := by decide +kernel
theorem dX8_bestPace_23 : decode cX8_bestPace 23 = .ok (.iload 4, 2) := by decide +kernel
theorem dX8_bestPace_25 : decode cX8_bestPace 25 = .ok (.iload_n 2, 1) := by decide +kernel
theorem dX8_bestPace_26 : decode cX8_bestPace 26 = .ok (.if_icmp .ge 8, 3) := by decide +kernel
theorem dX8_bestPace_29 : decode cX8_bestPace 29 = .ok (.iload 4, 2) := by decide +kernel
theorem dX8_bestPace_31 : decode cX8_bestPace 31 = .ok (.istore_n 2, 1) := by decide +kernel
theorem dX8_bestPace_32 : decode cX8_bestPace 32 = .ok (.iload_n 3, 1) := by decide +kernel
theorem dX8_bestPace_33 : decode cX8_bestPace 33 = .ok (.istore_n 1, 1) := by decide +kernel
theorem dX8_bestPace_34 : decode cX8_bestPace 34 = .ok (.iinc 3 1, 3) := by decide +kernel
theorem dX8_bestPace_37 : decode cX8_bestPace 37 = .ok (.goto (-27), 3) := by decide +kernel
theorem dX8_bestPace_40 : decode cX8_bestPace 40 = .ok (.iload_n 1, 1) := by decide +kernel
theorem dX8_bestPace_41 : decode cX8_bestPace 41 = .ok (.ireturn, 1) := by decide +kernel
theorem dX8_readBack_0 : decode cX8_readBack 0 = .ok (.iload_n 1, 1) := by decide +kernel
theorem dX8_readBack_1 : decode cX8_readBack 1 = .ok (.ifCond .lt 8, 3) := by decide +kernel
theorem dX8_readBack_4 : decode cX8_readBack 4 = .ok (.iload_n 1, 1) := by decide +kernel
theorem dX8_readBack_5 : decode cX8_readBack 5 = .ok (.iconst 2, 1) := by decide +kernel
theorem dX8_readBack_6 : decode cX8_readBack 6 = .ok (.if_icmp .le 5, 3) := by decide +kernel
theorem dX8_readBack_9 : decode cX8_readBack 9 = .ok (.iconst (-1), 1) := by decide +kernel
theorem dX8_readBack_10 : decode cX8_readBack 10 = .ok (.ireturn, 1) := by decide +kernel
theorem dX8_readBack_11 : decode cX8_readBack 11 = .ok (.aload_n 0, 1) := by decide +kernel
theorem dX8_readBack_12 : decode cX8_readBack 12 = .ok (.getfield 29, 3) := by decide +kernel
theorem dX8_readBack_15 : decode cX8_readBack 15 = .ok (.aload_n 0, 1) := by decide +kernel
theorem dX8_readBack_16 : decode cX8_readBack 16 = .ok (.getfield 19, 3) := by decide +kernel
theorem dX8_readBack_19 : decode cX8_readBack 19 = .ok (.getfield 81, 3) := by decide +kernel
theorem dX8_readBack_22 : decode cX8_readBack 22 = .ok (.aload_n 0, 1) := by decide +kernel
theorem dX8_readBack_23 : decode cX8_readBack 23 = .ok (.getfield 12, 3) := by decide +kernel
theorem dX8_readBack_26 : decode cX8_readBack 26 = .ok (.getfield 102, 3) := by decide +kernel
theorem dX8_readBack_29 : decode cX8_readBack 29 = .ok (.aload_n 0, 1) := by decide +kernel
theorem dX8_readBack_30 : decode cX8_readBack 30 = .ok (.getfield 12, 3) := by decide +kernel
theorem dX8_readBack_33 : decode cX8_readBack 33 = .ok (.getfield 105, 3) := by decide +kernel
theorem dX8_readBack_36 : decode cX8_readBack 36 = .ok (.invokevirtual 168, 3) := by decide +kernel
theorem dX8_readBack_39 : decode cX8_readBack 39 = .ok (.iload_n 1, 1) := by decide +kernel
theorem dX8_readBack_40 : decode cX8_readBack 40 = .ok (.ifCond .ne 11, 3) := by decide +kernel
theorem dX8_readBack_43 : decode cX8_readBack 43 = .ok (.aload_n 0, 1) := by decide +kernel
theorem dX8_readBack_44 : decode cX8_readBack 44 = .ok (.getfield 29, 3) := by decide +kernel
theorem dX8_readBack_47 : decode cX8_readBack 47 = .ok (.getfield 172, 3) := by decide +kernel
theorem dX8_readBack_50 : decode cX8_readBack 50 = .ok (.ireturn, 1) := by decide +kernel
theorem dX8_readBack_51 : decode cX8_readBack 51 = .ok (.iload_n 1, 1) := by decide +kernel
theorem dX8_readBack_52 : decode cX8_readBack 52 = .ok (.iconst 1, 1) := by decide +kernel
theorem dX8_readBack_53 : decode cX8_readBack 53 = .ok (.if_icmp .ne 19, 3) := by decide +kernel
theorem dX8_readBack_56 : decode cX8_readBack 56 = .ok (.aload_n 0, 1) := by decide +kernel
theorem dX8_readBack_57 : decode cX8_readBack 57 = .ok (.getfield 29, 3) := by decide +kernel
theorem dX8_readBack_60 : decode cX8_readBack 60 = .ok (.getfield 173, 3) := by decide +kernel
theorem dX8_readBack_63 : decode cX8_readBack 63 = .ok (.ifCond .eq 7, 3) := by decide +kernel
theorem dX8_readBack_66 : decode cX8_readBack 66 = .ok (.iconst 1, 1) := by decide +kernel
theorem dX8_readBack_67 : decode cX8_readBack 67 = .ok (.goto 4, 3) := by decide +kernel
theorem dX8_readBack_70 : decode cX8_readBack 70 = .ok (.iconst 0, 1) := by decide +kernel
theorem dX8_readBack_71 : decode cX8_readBack 71 = .ok (.ireturn, 1) := by decide +kernel
theorem dX8_readBack_72 : decode cX8_readBack 72 = .ok (.aload_n 0, 1) := by decide +kernel
theorem dX8_readBack_73 : decode cX8_readBack 73 = .ok (.invokevirtual 176, 3) := by decide +kernel
theorem dX8_readBack_76 : decode cX8_readBack 76 = .ok (.ireturn, 1) := by decide +kernel
theorem dX8_undo_0 : decode cX8_undo 0 = .ok (.aload_n 0, 1) := by decide +kernel
theorem dX8_undo_1 : decode cX8_undo 1 = .ok (.getfield 50, 3) := by decide +kernel
theorem dX8_undo_4 : decode cX8_undo 4 = .ok (.getfield 153, 3) := by decide +kernel
theorem dX8_undo_7 : decode cX8_undo 7 = .ok (.ifCond .ne 6, 3) := by decide +kernel
theorem dX8_undo_10 : decode cX8_undo 10 = .ok (.bipush (-2), 2) := by decide +kernel
theorem dX8_undo_12 : decode cX8_undo 12 = .ok (.ireturn, 1) := by decide +kernel
theorem dX8_undo_13 : decode cX8_undo 13 = .ok (.aload_n 0, 1) := by decide +kernel
theorem dX8_undo_14 : decode cX8_undo 14 = .ok (.getfield 50, 3) := by decide +kernel
theorem dX8_undo_17 : decode cX8_undo 17 = .ok (.aload_n 0, 1) := by decide +kernel
theorem dX8_undo_18 : decode cX8_undo 18 = .ok (.getfield 12, 3) := by decide +kernel
theorem dX8_undo_21 : decode cX8_undo 21 = .ok (.invokevirtual 179, 3) := by decide +kernel
theorem dX8_undo_24 : decode cX8_undo 24 = .ok (.aload_n 0, 1) := by decide +kernel
theorem dX8_undo_25 : decode cX8_undo 25 = .ok (.invokevirtual 88, 3) := by decide +kernel
theorem dX8_undo_28 : decode cX8_undo 28 = .ok (.aload_n 0, 1) := by decide +kernel
theorem dX8_undo_29 : decode cX8_undo 29 = .ok (.getfield 50, 3) := by decide +kernel
theorem dX8_undo_32 : decode cX8_undo 32 = .ok (.getfield 153, 3) := by decide +kernel
theorem dX8_undo_35 : decode cX8_undo 35 = .ok (.ireturn, 1) := by decide +kernel
theorem dX8_type_0 : decode cX8_type 0 = .ok (.iload_n 1, 1) := by decide +kernel
theorem dX8_type_1 : decode cX8_type 1 = .ok (.bipush 32, 2) := by decide +kernel
theorem dX8_type_3 : decode cX8_type 3 = .ok (.if_icmp .lt 9, 3) := by decide +kernel
theorem dX8_type_6 : decode cX8_type 6 = .ok (.iload_n 1, 1) := by decide +kernel
theorem dX8_type_7 : decode cX8_type 7 = .ok (.bipush 126, 2) := by decide +kernel
theorem dX8_type_9 : decode cX8_type 9 = .ok (.if_icmp .le 5, 3) := by decide +kernel
theorem dX8_type_12 : decode cX8_type 12 = .ok (.iconst (-1), 1) := by decide +kernel
theorem dX8_type_13 : decode cX8_type 13 = .ok (.ireturn, 1) := by decide +kernel
theorem dX8_type_14 : decode cX8_type 14 = .ok (.aload_n 0, 1) := by decide +kernel
theorem dX8_type_15 : decode cX8_type 15 = .ok (.getfield 36, 3) := by decide +kernel
theorem dX8_type_18 : decode cX8_type 18 = .ok (.getfield 154, 3) := by decide +kernel
theorem dX8_type_21 : decode cX8_type 21 = .ok (.bipush 120, 2) := by decide +kernel
theorem dX8_type_23 : decode cX8_type 23 = .ok (.if_icmp .lt 6, 3) := by decide +kernel
theorem dX8_type_26 : decode cX8_type 26 = .ok (.bipush (-3), 2) := by decide +kernel
theorem dX8_type_28 : decode cX8_type 28 = .ok (.ireturn, 1) := by decide +kernel
theorem dX8_type_29 : decode cX8_type 29 = .ok (.aload_n 0, 1) := by decide +kernel
theorem dX8_type_30 : decode cX8_type 30 = .ok (.getfield 36, 3) := by decide +kernel
theorem dX8_type_33 : decode cX8_type 33 = .ok (.iload_n 1, 1) := by decide +kernel
theorem dX8_type_34 : decode cX8_type 34 = .ok (.invokevirtual 182, 3) := by decide +kernel
theorem dX8_type_37 : decode cX8_type 37 = .ok (.aload_n 0, 1) := by decide +kernel
theorem dX8_type_38 : decode cX8_type 38 = .ok (.getfield 36, 3) := by decide +kernel
theorem dX8_type_41 : decode cX8_type 41 = .ok (.getfield 154, 3) := by decide +kernel
theorem dX8_type_44 : decode cX8_type 44 = .ok (.ireturn, 1) := by decide +kernel
theorem dX8_clearText_0 : decode cX8_clearText 0 = .ok (.aload_n 0, 1) := by decide +kernel
theorem dX8_clearText_1 : decode cX8_clearText 1 = .ok (.getfield 36, 3) := by decide +kernel
theorem dX8_clearText_4 : decode cX8_clearText 4 = .ok (.getfield 154, 3) := by decide +kernel
theorem dX8_clearText_7 : decode cX8_clearText 7 = .ok (.istore_n 1, 1) := by decide +kernel
theorem dX8_clearText_8 : decode cX8_clearText 8 = .ok (.aload_n 0, 1) := by decide +kernel
theorem dX8_clearText_9 : decode cX8_clearText 9 = .ok (.getfield 36, 3) := by decide +kernel
theorem dX8_clearText_12 : decode cX8_clearText 12 = .ok (.invokevirtual 183, 3) := by decide +kernel
theorem dX8_clearText_15 : decode cX8_clearText 15 = .ok (.iload_n 1, 1) := by decide +kernel
theorem dX8_clearText_16 : decode cX8_clearText 16 = .ok (.ireturn, 1) := by decide +kernel
theorem dX8_write_0 : decode cX8_write 0 = .ok (.aload_n 0, 1) := by decide +kernel
theorem dX8_write_1 : decode cX8_write 1 = .ok (.getfield 19, 3) := by decide +kernel
theorem dX8_write_4 : decode cX8_write 4 = .ok (.getfield 81, 3) := by decide +kernel
theorem dX8_write_7 : decode cX8_write 7 = .ok (.getfield 84, 3) := by decide +kernel
theorem dX8_write_10 : decode cX8_write 10 = .ok (.bipush 120, 2) := by decide +kernel
theorem dX8_write_12 : decode cX8_write 12 = .ok (.if_icmp .le 6, 3) := by decide +kernel
theorem dX8_write_15 : decode cX8_write 15 = .ok (.bipush (-3), 2) := by decide +kernel
theorem dX8_write_17 : decode cX8_write 17 = .ok (.ireturn, 1) := by decide +kernel
theorem dX8_write_18 : decode cX8_write 18 = .ok (.aload_n 0, 1) := by decide +kernel
theorem dX8_write_19 : decode cX8_write 19 = .ok (.getfield 36, 3) := by decide +kernel
theorem dX8_write_22 : decode cX8_write 22 = .ok (.aload_n 0, 1) := by decide +kernel
theorem dX8_write_23 : decode cX8_write 23 = .ok (.getfield 19, 3) := by decide +kernel
theorem dX8_write_26 : decode cX8_write 26 = .ok (.getfield 81, 3) := by decide +kernel
theorem dX8_write_29 : decode cX8_write 29 = .ok (.invokevirtual 184, 3) := by decide +kernel
theorem dX8_write_32 : decode cX8_write 32 = .ok (.aload_n 0, 1) := by decide +kernel
theorem dX8_write_33 : decode cX8_write 33 = .ok (.getfield 36, 3) := by decide +kernel
theorem dX8_write_36 : decode cX8_write 36 = .ok (.getfield 154, 3) := by decide +kernel
theorem dX8_write_39 : decode cX8_write 39 = .ok (.ireturn, 1) := by decide +kernel
theorem dX8_fault_0 : decode cX8_fault 0 = .ok (.iload_n 1, 1) := by decide +kernel
theorem dX8_fault_1 : decode cX8_fault 1 = .ok (.ifCond .lt 8, 3) := by decide +kernel
theorem dX8_fault_4 : decode cX8_fault 4 = .ok (.iload_n 1, 1) := by decide +kernel
theorem dX8_fault_5 : decode cX8_fault 5 = .ok (.iconst 1, 1) := by decide +kernel
theorem dX8_fault_6 : decode cX8_fault 6 = .ok (.if_icmp .le 5, 3) := by decide +kernel
theorem dX8_fault_9 : decode cX8_fault 9 = .ok (.iconst (-1), 1) := by decide +kernel
theorem dX8_fault_10 : decode cX8_fault 10 = .ok (.ireturn, 1) := by decide +kernel
theorem dX8_fault_11 : decode cX8_fault 11 = .ok (.aload_n 0, 1) := by decide +kernel
theorem dX8_fault_12 : decode cX8_fault 12 = .ok (.invokevirtual 188, 3) := by decide +kernel
theorem dX8_fault_15 : decode cX8_fault 15 = .ok (.istore_n 2, 1) := by decide +kernel
theorem dX8_fault_16 : decode cX8_fault 16 = .ok (.iload_n 2, 1) := by decide +kernel
theorem dX8_fault_17 : decode cX8_fault 17 = .ok (.ifCond .ne 6, 3) := by decide +kernel
theorem dX8_fault_20 : decode cX8_fault 20 = .ok (.bipush (-4), 2) := by decide +kernel
theorem dX8_fault_22 : decode cX8_fault 22 = .ok (.ireturn, 1) := by decide +kernel
theorem dX8_fault_23 : decode cX8_fault 23 = .ok (.iload_n 1, 1) := by decide +kernel
theorem dX8_fault_24 : decode cX8_fault 24 = .ok (.ifCond .ne 11, 3) := by decide +kernel
theorem dX8_fault_27 : decode cX8_fault 27 = .ok (.aload_n 0, 1) := by decide +kernel
theorem dX8_fault_28 : decode cX8_fault 28 = .ok (.iload_n 2, 1) := by decide +kernel
theorem dX8_fault_29 : decode cX8_fault 29 = .ok (.invokevirtual 191, 3) := by decide +kernel
theorem dX8_fault_32 : decode cX8_fault 32 = .ok (.goto 4, 3) := by decide +kernel
theorem dX8_fault_35 : decode cX8_fault 35 = .ok (.iload_n 2, 1) := by decide +kernel
theorem dX8_fault_36 : decode cX8_fault 36 = .ok (.ireturn, 1) := by decide +kernel
theorem dX8_told_0 : decode cX8_told 0 = .ok (.iload_n 1, 1) := by decide +kernel
theorem dX8_told_1 : decode cX8_told 1 = .ok (.ifCond .ge 5, 3) := by decide +kernel
theorem dX8_told_4 : decode cX8_told 4 = .ok (.iconst (-1), 1) := by decide +kernel
theorem dX8_told_5 : decode cX8_told 5 = .ok (.ireturn, 1) := by decide +kernel
theorem dX8_told_6 : decode cX8_told 6 = .ok (.aload_n 0, 1) := by decide +kernel
theorem dX8_told_7 : decode cX8_told 7 = .ok (.invokevirtual 188, 3) := by decide +kernel
theorem dX8_told_10 : decode cX8_told 10 = .ok (.ifCond .eq 6, 3) := by decide +kernel
theorem dX8_told_13 : decode cX8_told 13 = .ok (.bipush (-2), 2) := by decide +kernel
theorem dX8_told_15 : decode cX8_told 15 = .ok (.ireturn, 1) := by decide +kernel
theorem dX8_told_16 : decode cX8_told 16 = .ok (.iload_n 1, 1) := by decide +kernel
theorem dX8_told_17 : decode cX8_told 17 = .ok (.aload_n 0, 1) := by decide +kernel
theorem dX8_told_18 : decode cX8_told 18 = .ok (.getfield 29, 3) := by decide +kernel
theorem dX8_told_21 : decode cX8_told 21 = .ok (.getfield 172, 3) := by decide +kernel
theorem dX8_told_24 : decode cX8_told 24 = .ok (.if_icmp .ge 14, 3) := by decide +kernel
theorem dX8_told_27 : decode cX8_told 27 = .ok (.aload_n 0, 1) := by decide +kernel
theorem dX8_told_28 : decode cX8_told 28 = .ok (.getfield 29, 3) := by decide +kernel
theorem dX8_told_31 : decode cX8_told 31 = .ok (.iload_n 1, 1) := by decide +kernel
theorem dX8_told_32 : decode cX8_told 32 = .ok (.invokevirtual 194, 3) := by decide +kernel
theorem dX8_told_35 : decode cX8_told 35 = .ok (.goto 5, 3) := by decide +kernel
theorem dX8_told_38 : decode cX8_told 38 = .ok (.bipush (-4), 2) := by decide +kernel
theorem dX8_told_40 : decode cX8_told 40 = .ok (.ireturn, 1) := by decide +kernel
theorem dX8_isLetter_0 : decode cX8_isLetter 0 = .ok (.iload_n 0, 1) := by decide +kernel
theorem dX8_isLetter_1 : decode cX8_isLetter 1 = .ok (.ifCond .lt 13, 3) := by decide +kernel
theorem dX8_isLetter_4 : decode cX8_isLetter 4 = .ok (.iload_n 0, 1) := by decide +kernel
theorem dX8_isLetter_5 : decode cX8_isLetter 5 = .ok (.bipush 8, 2) := by decide +kernel
theorem dX8_isLetter_7 : decode cX8_isLetter 7 = .ok (.if_icmp .ge 7, 3) := by decide +kernel
theorem dX8_isLetter_10 : decode cX8_isLetter 10 = .ok (.iconst 1, 1) := by decide +kernel
theorem dX8_isLetter_11 : decode cX8_isLetter 11 = .ok (.goto 4, 3) := by decide +kernel
theorem dX8_isLetter_14 : decode cX8_isLetter 14 = .ok (.iconst 0, 1) := by decide +kernel
theorem dX8_isLetter_15 : decode cX8_isLetter 15 = .ok (.ireturn, 1) := by decide +kernel
theorem dX8_isPace_0 : decode cX8_isPace 0 = .ok (.iload_n 0, 1) := by decide +kernel
theorem dX8_isPace_1 : decode cX8_isPace 1 = .ok (.iconst 1, 1) := by decide +kernel
theorem dX8_isPace_2 : decode cX8_isPace 2 = .ok (.if_icmp .lt 13, 3) := by decide +kernel
theorem dX8_isPace_5 : decode cX8_isPace 5 = .ok (.iload_n 0, 1) := by decide +kernel
theorem dX8_isPace_6 : decode cX8_isPace 6 = .ok (.bipush 64, 2) := by decide +kernel
theorem dX8_isPace_8 : decode cX8_isPace 8 = .ok (.if_icmp .gt 7, 3) := by decide +kernel
theorem dX8_isPace_11 : decode cX8_isPace 11 = .ok (.iconst 1, 1) := by decide +kernel
theorem dX8_isPace_12 : decode cX8_isPace 12 = .ok (.goto 4, 3) := by decide +kernel
theorem dX8_isPace_15 : decode cX8_isPace 15 = .ok (.iconst 0, 1) := by decide +kernel
theorem dX8_isPace_16 : decode cX8_isPace 16 = .ok (.ireturn, 1) := by decide +kernel
theorem dX8_isSetting_0 : decode cX8_isSetting 0 = .ok (.iload_n 0, 1) := by decide +kernel
theorem dX8_isSetting_1 : decode cX8_isSetting 1 = .ok (.ifCond .ne 8, 3) := by decide +kernel
theorem dX8_isSetting_4 : decode cX8_isSetting 4 = .ok (.iload_n 1, 1) := by decide +kernel
theorem dX8_isSetting_5 : decode cX8_isSetting 5 = .ok (.invokestatic 162, 3) := by decide +kernel
theorem dX8_isSetting_8 : decode cX8_isSetting 8 = .ok (.ireturn, 1) := by decide +kernel
theorem dX8_isSetting_9 : decode cX8_isSetting 9 = .ok (.iload_n 0, 1) := by decide +kernel
theorem dX8_isSetting_10 : decode cX8_isSetting 10 = .ok (.iconst 1, 1) := by decide +kernel
theorem dX8_isSetting_11 : decode cX8_isSetting 11 = .ok (.if_icmp .ne 20, 3) := by decide +kernel
theorem dX8_isSetting_14 : decode cX8_isSetting 14 = .ok (.iload_n 1, 1) := by decide +kernel
theorem dX8_isSetting_15 : decode cX8_isSetting 15 = .ok (.bipush 32, 2) := by decide +kernel
theorem dX8_isSetting_17 : decode cX8_isSetting 17 = .ok (.if_icmp .lt 14, 3) := by decide +kernel
theorem dX8_isSetting_20 : decode cX8_isSetting 20 = .ok (.iload_n 1, 1) := by decide +kernel
theorem dX8_isSetting_21 : decode cX8_isSetting 21 = .ok (.sipush 2000, 3) := by decide +kernel
theorem dX8_isSetting_24 : decode cX8_isSetting 24 = .ok (.if_icmp .gt 7, 3) := by decide +kernel
theorem dX8_isSetting_27 : decode cX8_isSetting 27 = .ok (.iconst 1, 1) := by decide +kernel
theorem dX8_isSetting_28 : decode cX8_isSetting 28 = .ok (.goto 4, 3) := by decide +kernel
theorem dX8_isSetting_31 : decode cX8_isSetting 31 = .ok (.iconst 0, 1) := by decide +kernel
theorem dX8_isSetting_32 : decode cX8_isSetting 32 = .ok (.ireturn, 1) := by decide +kernel
theorem dX8_writeAnew_0 : decode cX8_writeAnew 0 = .ok (.aload_n 0, 1) := by decide +kernel
theorem dX8_writeAnew_1 : decode cX8_writeAnew 1 = .ok (.getfield 19, 3) := by decide +kernel
theorem dX8_writeAnew_4 : decode cX8_writeAnew 4 = .ok (.aload_n 0, 1) := by decide +kernel
theorem dX8_writeAnew_5 : decode cX8_writeAnew 5 = .ok (.getfield 12, 3) := by decide +kernel
theorem dX8_writeAnew_8 : decode cX8_writeAnew 8 = .ok (.getfield 102, 3) := by decide +kernel
theorem dX8_writeAnew_11 : decode cX8_writeAnew 11 = .ok (.aload_n 0, 1) := by decide +kernel
theorem dX8_writeAnew_12 : decode cX8_writeAnew 12 = .ok (.getfield 12, 3) := by decide +kernel
theorem dX8_writeAnew_15 : decode cX8_writeAnew 15 = .ok (.getfield 105, 3) := by decide +kernel
theorem dX8_writeAnew_18 : decode cX8_writeAnew 18 = .ok (.invokevirtual 195, 3) := by decide +kernel
theorem dX8_writeAnew_21 : decode cX8_writeAnew 21 = .ok (.aload_n 0, 1) := by decide +kernel
theorem dX8_writeAnew_22 : decode cX8_writeAnew 22 = .ok (.getfield 19, 3) := by decide +kernel
theorem dX8_writeAnew_25 : decode cX8_writeAnew 25 = .ok (.aload_n 0, 1) := by decide +kernel
theorem dX8_writeAnew_26 : decode cX8_writeAnew 26 = .ok (.getfield 12, 3) := by decide +kernel
theorem dX8_writeAnew_29 : decode cX8_writeAnew 29 = .ok (.invokevirtual 198, 3) := by decide +kernel
theorem dX8_writeAnew_32 : decode cX8_writeAnew 32 = .ok (.aload_n 0, 1) := by decide +kernel
theorem dX8_writeAnew_33 : decode cX8_writeAnew 33 = .ok (.getfield 12, 3) := by decide +kernel
theorem dX8_writeAnew_36 : decode cX8_writeAnew 36 = .ok (.getfield 58, 3) := by decide +kernel
theorem dX8_writeAnew_39 : decode cX8_writeAnew 39 = .ok (.ifCond .eq 10, 3) := by decide +kernel
theorem dX8_writeAnew_42 : decode cX8_writeAnew 42 = .ok (.aload_n 0, 1) := by decide +kernel
theorem dX8_writeAnew_43 : decode cX8_writeAnew 43 = .ok (.getfield 19, 3) := by decide +kernel
theorem dX8_writeAnew_46 : decode cX8_writeAnew 46 = .ok (.invokevirtual 78, 3) := by decide +kernel
theorem dX8_writeAnew_49 : decode cX8_writeAnew 49 = .ok (.return_, 1) := by decide +kernel
theorem dX8_bitsMoreWith_0 : decode cX8_bitsMoreWith 0 = .ok (.aload_n 0, 1) := by decide +kernel
theorem dX8_bitsMoreWith_1 : decode cX8_bitsMoreWith 1 = .ok (.getfield 23, 3) := by decide +kernel
theorem dX8_bitsMoreWith_4 : decode cX8_bitsMoreWith 4 = .ok (.aload_n 0, 1) := by decide +kernel
theorem dX8_bitsMoreWith_5 : decode cX8_bitsMoreWith 5 = .ok (.getfield 12, 3) := by decide +kernel
theorem dX8_bitsMoreWith_8 : decode cX8_bitsMoreWith 8 = .ok (.getfield 102, 3) := by decide +kernel
theorem dX8_bitsMoreWith_11 : decode cX8_bitsMoreWith 11 = .ok (.aload_n 0, 1) := by decide +kernel
theorem dX8_bitsMoreWith_12 : decode cX8_bitsMoreWith 12 = .ok (.getfield 12, 3) := by decide +kernel
theorem dX8_bitsMoreWith_15 : decode cX8_bitsMoreWith 15 = .ok (.getfield 105, 3) := by decide +kernel
theorem dX8_bitsMoreWith_18 : decode cX8_bitsMoreWith 18 = .ok (.invokevirtual 195, 3) := by decide +kernel
theorem dX8_bitsMoreWith_21 : decode cX8_bitsMoreWith 21 = .ok (.aload_n 0, 1) := by decide +kernel
theorem dX8_bitsMoreWith_22 : decode cX8_bitsMoreWith 22 = .ok (.getfield 23, 3) := by decide +kernel
theorem dX8_bitsMoreWith_25 : decode cX8_bitsMoreWith 25 = .ok (.aload_n 0, 1) := by decide +kernel
theorem dX8_bitsMoreWith_26 : decode cX8_bitsMoreWith 26 = .ok (.getfield 12, 3) := by decide +kernel
theorem dX8_bitsMoreWith_29 : decode cX8_bitsMoreWith 29 = .ok (.invokevirtual 198, 3) := by decide +kernel
theorem dX8_bitsMoreWith_32 : decode cX8_bitsMoreWith 32 = .ok (.iload_n 1, 1) := by decide +kernel
theorem dX8_bitsMoreWith_33 : decode cX8_bitsMoreWith 33 = .ok (.bipush 8, 2) := by decide +kernel
theorem dX8_bitsMoreWith_35 : decode cX8_bitsMoreWith 35 = .ok (.if_icmp .eq 12, 3) := by decide +kernel
theorem dX8_bitsMoreWith_38 : decode cX8_bitsMoreWith 38 = .ok (.aload_n 0, 1) := by decide +kernel
theorem dX8_bitsMoreWith_39 : decode cX8_bitsMoreWith 39 = .ok (.getfield 23, 3) := by decide +kernel
theorem dX8_bitsMoreWith_42 : decode cX8_bitsMoreWith 42 = .ok (.iload_n 1, 1) := by decide +kernel
theorem dX8_bitsMoreWith_43 : decode cX8_bitsMoreWith 43 = .ok (.invokevirtual 74, 3) := by decide +kernel
theorem dX8_bitsMoreWith_46 : decode cX8_bitsMoreWith 46 = .ok (.ireturn, 1) := by decide +kernel
theorem dX8_bitsMoreWith_47 : decode cX8_bitsMoreWith 47 = .ok (.aload_n 0, 1) := by decide +kernel
theorem dX8_bitsMoreWith_48 : decode cX8_bitsMoreWith 48 = .ok (.getfield 23, 3) := by decide +kernel
theorem dX8_bitsMoreWith_51 : decode cX8_bitsMoreWith 51 = .ok (.getfield 81, 3) := by decide +kernel
theorem dX8_bitsMoreWith_54 : decode cX8_bitsMoreWith 54 = .ok (.getfield 84, 3) := by decide +kernel
theorem dX8_bitsMoreWith_57 : decode cX8_bitsMoreWith 57 = .ok (.istore_n 2, 1) := by decide +kernel
theorem dX8_bitsMoreWith_58 : decode cX8_bitsMoreWith 58 = .ok (.aload_n 0, 1) := by decide +kernel
theorem dX8_bitsMoreWith_59 : decode cX8_bitsMoreWith 59 = .ok (.getfield 23, 3) := by decide +kernel
theorem dX8_bitsMoreWith_62 : decode cX8_bitsMoreWith 62 = .ok (.invokevirtual 78, 3) := by decide +kernel
theorem dX8_bitsMoreWith_65 : decode cX8_bitsMoreWith 65 = .ok (.aload_n 0, 1) := by decide +kernel
theorem dX8_bitsMoreWith_66 : decode cX8_bitsMoreWith 66 = .ok (.getfield 23, 3) := by decide +kernel
theorem dX8_bitsMoreWith_69 : decode cX8_bitsMoreWith 69 = .ok (.getfield 81, 3) := by decide +kernel
theorem dX8_bitsMoreWith_72 : decode cX8_bitsMoreWith 72 = .ok (.getfield 84, 3) := by decide +kernel
theorem dX8_bitsMoreWith_75 : decode cX8_bitsMoreWith 75 = .ok (.iload_n 2, 1) := by decide +kernel
theorem dX8_bitsMoreWith_76 : decode cX8_bitsMoreWith 76 = .ok (.isub, 1) := by decide +kernel
theorem dX8_bitsMoreWith_77 : decode cX8_bitsMoreWith 77 = .ok (.ireturn, 1) := by decide +kernel
theorem dX8_bitsEnded_0 : decode cX8_bitsEnded 0 = .ok (.aload_n 0, 1) := by decide +kernel
theorem dX8_bitsEnded_1 : decode cX8_bitsEnded 1 = .ok (.getfield 23, 3) := by decide +kernel
theorem dX8_bitsEnded_4 : decode cX8_bitsEnded 4 = .ok (.iload_n 1, 1) := by decide +kernel
theorem dX8_bitsEnded_5 : decode cX8_bitsEnded 5 = .ok (.aload_n 0, 1) := by decide +kernel
theorem dX8_bitsEnded_6 : decode cX8_bitsEnded 6 = .ok (.getfield 12, 3) := by decide +kernel
theorem dX8_bitsEnded_9 : decode cX8_bitsEnded 9 = .ok (.getfield 105, 3) := by decide +kernel
theorem dX8_bitsEnded_12 : decode cX8_bitsEnded 12 = .ok (.invokevirtual 195, 3) := by decide +kernel
theorem dX8_bitsEnded_15 : decode cX8_bitsEnded 15 = .ok (.aload_n 0, 1) := by decide +kernel
theorem dX8_bitsEnded_16 : decode cX8_bitsEnded 16 = .ok (.getfield 23, 3) := by decide +kernel
theorem dX8_bitsEnded_19 : decode cX8_bitsEnded 19 = .ok (.aload_n 0, 1) := by decide +kernel
theorem dX8_bitsEnded_20 : decode cX8_bitsEnded 20 = .ok (.getfield 12, 3) := by decide +kernel
theorem dX8_bitsEnded_23 : decode cX8_bitsEnded 23 = .ok (.invokevirtual 198, 3) := by decide +kernel
theorem dX8_bitsEnded_26 : decode cX8_bitsEnded 26 = .ok (.aload_n 0, 1) := by decide +kernel
theorem dX8_bitsEnded_27 : decode cX8_bitsEnded 27 = .ok (.getfield 23, 3) := by decide +kernel
theorem dX8_bitsEnded_30 : decode cX8_bitsEnded 30 = .ok (.invokevirtual 78, 3) := by decide +kernel
theorem dX8_bitsEnded_33 : decode cX8_bitsEnded 33 = .ok (.aload_n 0, 1) := by decide +kernel
theorem dX8_bitsEnded_34 : decode cX8_bitsEnded 34 = .ok (.getfield 23, 3) := by decide +kernel
theorem dX8_bitsEnded_37 : decode cX8_bitsEnded 37 = .ok (.getfield 81, 3) := by decide +kernel
theorem dX8_bitsEnded_40 : decode cX8_bitsEnded 40 = .ok (.getfield 84, 3) := by decide +kernel
theorem dX8_bitsEnded_43 : decode cX8_bitsEnded 43 = .ok (.ireturn, 1) := by decide +kernel
theorem dX8_alikeFromFirst_0 : decode cX8_alikeFromFirst 0 = .ok (.aload_n 0, 1) := by decide +kernel
theorem dX8_alikeFromFirst_1 : decode cX8_alikeFromFirst 1 = .ok (.getfield 29, 3) := by decide +kernel
theorem dX8_alikeFromFirst_4 : decode cX8_alikeFromFirst 4 = .ok (.getfield 172, 3) := by decide +kernel
theorem dX8_alikeFromFirst_7 : decode cX8_alikeFromFirst 7 = .ok (.aload_n 0, 1) := by decide +kernel
theorem dX8_alikeFromFirst_8 : decode cX8_alikeFromFirst 8 = .ok (.getfield 12, 3) := by decide +kernel
theorem dX8_alikeFromFirst_11 : decode cX8_alikeFromFirst 11 = .ok (.getfield 62, 3) := by decide +kernel
theorem dX8_alikeFromFirst_14 : decode cX8_alikeFromFirst 14 = .ok (.invokestatic 201, 3) := by decide +kernel
theorem dX8_alikeFromFirst_17 : decode cX8_alikeFromFirst 17 = .ok (.istore_n 1, 1) := by decide +kernel
theorem dX8_alikeFromFirst_18 : decode cX8_alikeFromFirst 18 = .ok (.iconst 0, 1) := by decide +kernel
theorem dX8_alikeFromFirst_19 : decode cX8_alikeFromFirst 19 = .ok (.istore_n 2, 1) := by decide +kernel
theorem dX8_alikeFromFirst_20 : decode cX8_alikeFromFirst 20 = .ok (.iload_n 2, 1) := by decide +kernel
theorem dX8_alikeFromFirst_21 : decode cX8_alikeFromFirst 21 = .ok (.iload_n 1, 1) := by decide +kernel
theorem dX8_alikeFromFirst_22 : decode cX8_alikeFromFirst 22 = .ok (.if_icmp .ge 30, 3) := by decide +kernel
theorem dX8_alikeFromFirst_25 : decode cX8_alikeFromFirst 25 = .ok (.aload_n 0, 1) := by decide +kernel
theorem dX8_alikeFromFirst_26 : decode cX8_alikeFromFirst 26 = .ok (.getfield 29, 3) := by decide +kernel
theorem dX8_alikeFromFirst_29 : decode cX8_alikeFromFirst 29 = .ok (.iload_n 2, 1) := by decide +kernel
theorem dX8_alikeFromFirst_30 : decode cX8_alikeFromFirst 30 = .ok (.invokevirtual 194, 3) := by decide +kernel
theorem dX8_alikeFromFirst_33 : decode cX8_alikeFromFirst 33 = .ok (.aload_n 0, 1) := by decide +kernel
theorem dX8_alikeFromFirst_34 : decode cX8_alikeFromFirst 34 = .ok (.getfield 12, 3) := by decide +kernel
theorem dX8_alikeFromFirst_37 : decode cX8_alikeFromFirst 37 = .ok (.iload_n 2, 1) := by decide +kernel
theorem dX8_alikeFromFirst_38 : decode cX8_alikeFromFirst 38 = .ok (.invokevirtual 108, 3) := by decide +kernel
theorem dX8_alikeFromFirst_41 : decode cX8_alikeFromFirst 41 = .ok (.if_icmp .eq 5, 3) := by decide +kernel
theorem dX8_alikeFromFirst_44 : decode cX8_alikeFromFirst 44 = .ok (.iload_n 2, 1) := by decide +kernel
theorem dX8_alikeFromFirst_45 : decode cX8_alikeFromFirst 45 = .ok (.ireturn, 1) := by decide +kernel
theorem dX8_alikeFromFirst_46 : decode cX8_alikeFromFirst 46 = .ok (.iinc 2 1, 3) := by decide +kernel
theorem dX8_alikeFromFirst_49 : decode cX8_alikeFromFirst 49 = .ok (.goto (-29), 3) := by decide +kernel
theorem dX8_alikeFromFirst_52 : decode cX8_alikeFromFirst 52 = .ok (.iload_n 1, 1) := by decide +kernel
theorem dX8_alikeFromFirst_53 : decode cX8_alikeFromFirst 53 = .ok (.ireturn, 1) := by decide +kernel
theorem dX8_faultReason_0 : decode cX8_faultReason 0 = .ok (.aload_n 0, 1) := by decide +kernel
theorem dX8_faultReason_1 : decode cX8_faultReason 1 = .ok (.getfield 36, 3) := by decide +kernel
theorem dX8_faultReason_4 : decode cX8_faultReason 4 = .ok (.invokevirtual 207, 3) := by decide +kernel
theorem dX8_faultReason_7 : decode cX8_faultReason 7 = .ok (.aload_n 0, 1) := by decide +kernel
theorem dX8_faultReason_8 : decode cX8_faultReason 8 = .ok (.getfield 36, 3) := by decide +kernel
theorem dX8_faultReason_11 : decode cX8_faultReason 11 = .ok (.getfield 154, 3) := by decide +kernel
theorem dX8_faultReason_14 : decode cX8_faultReason 14 = .ok (.if_icmp .ge 5, 3) := by decide +kernel
theorem dX8_faultReason_17 : decode cX8_faultReason 17 = .ok (.iconst 1, 1) := by decide +kernel
theorem dX8_faultReason_18 : decode cX8_faultReason 18 = .ok (.ireturn, 1) := by decide +kernel
theorem dX8_faultReason_19 : decode cX8_faultReason 19 = .ok (.aload_n 0, 1) := by decide +kernel
theorem dX8_faultReason_20 : decode cX8_faultReason 20 = .ok (.getfield 36, 3) := by decide +kernel
theorem dX8_faultReason_23 : decode cX8_faultReason 23 = .ok (.aload_n 0, 1) := by decide +kernel
theorem dX8_faultReason_24 : decode cX8_faultReason 24 = .ok (.getfield 43, 3) := by decide +kernel
theorem dX8_faultReason_27 : decode cX8_faultReason 27 = .ok (.invokevirtual 210, 3) := by decide +kernel
theorem dX8_faultReason_30 : decode cX8_faultReason 30 = .ok (.aload_n 0, 1) := by decide +kernel
theorem dX8_faultReason_31 : decode cX8_faultReason 31 = .ok (.getfield 29, 3) := by decide +kernel
theorem dX8_faultReason_34 : decode cX8_faultReason 34 = .ok (.aload_n 0, 1) := by decide +kernel
theorem dX8_faultReason_35 : decode cX8_faultReason 35 = .ok (.getfield 43, 3) := by decide +kernel
theorem dX8_faultReason_38 : decode cX8_faultReason 38 = .ok (.aload_n 0, 1) := by decide +kernel
theorem dX8_faultReason_39 : decode cX8_faultReason 39 = .ok (.getfield 12, 3) := by decide +kernel
theorem dX8_faultReason_42 : decode cX8_faultReason 42 = .ok (.getfield 102, 3) := by decide +kernel
theorem dX8_faultReason_45 : decode cX8_faultReason 45 = .ok (.aload_n 0, 1) := by decide +kernel
theorem dX8_faultReason_46 : decode cX8_faultReason 46 = .ok (.getfield 12, 3) := by decide +kernel
theorem dX8_faultReason_49 : decode cX8_faultReason 49 = .ok (.getfield 105, 3) := by decide +kernel
theorem dX8_faultReason_52 : decode cX8_faultReason 52 = .ok (.invokevirtual 168, 3) := by decide +kernel
theorem dX8_faultReason_55 : decode cX8_faultReason 55 = .ok (.aload_n 0, 1) := by decide +kernel
theorem dX8_faultReason_56 : decode cX8_faultReason 56 = .ok (.getfield 29, 3) := by decide +kernel
theorem dX8_faultReason_59 : decode cX8_faultReason 59 = .ok (.getfield 173, 3) := by decide +kernel
theorem dX8_faultReason_62 : decode cX8_faultReason 62 = .ok (.ifCond .ne 5, 3) := by decide +kernel
theorem dX8_faultReason_65 : decode cX8_faultReason 65 = .ok (.iconst 2, 1) := by decide +kernel
theorem dX8_faultReason_66 : decode cX8_faultReason 66 = .ok (.ireturn, 1) := by decide +kernel
theorem dX8_faultReason_67 : decode cX8_faultReason 67 = .ok (.aload_n 0, 1) := by decide +kernel
theorem dX8_faultReason_68 : decode cX8_faultReason 68 = .ok (.getfield 43, 3) := by decide +kernel
