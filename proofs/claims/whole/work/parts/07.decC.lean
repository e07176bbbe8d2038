theorem dX9_put_24 : decode cX9_put 24 = .ok (.bipush (-2), 2) := by decide +kernel
theorem dX9_put_26 : decode cX9_put 26 = .ok (.ireturn, 1) := by decide +kernel
theorem dX9_put_27 : decode cX9_put 27 = .ok (.aload_n 0, 1) := by decide +kernel
theorem dX9_put_28 : decode cX9_put 28 = .ok (.getfield 7, 3) := by decide +kernel
theorem dX9_put_31 : decode cX9_put 31 = .ok (.iconst 2, 1) := by decide +kernel
theorem dX9_put_32 : decode cX9_put 32 = .ok (.iaload, 1) := by decide +kernel
theorem dX9_put_33 : decode cX9_put 33 = .ok (.bipush 40, 2) := by decide +kernel
theorem dX9_put_35 : decode cX9_put 35 = .ok (.if_icmp .ne 6, 3) := by decide +kernel
theorem dX9_put_38 : decode cX9_put 38 = .ok (.bipush (-3), 2) := by decide +kernel
theorem dX9_put_40 : decode cX9_put 40 = .ok (.ireturn, 1) := by decide +kernel
theorem dX9_put_41 : decode cX9_put 41 = .ok (.aload_n 0, 1) := by decide +kernel
theorem dX9_put_42 : decode cX9_put 42 = .ok (.invokevirtual 106, 3) := by decide +kernel
theorem dX9_put_45 : decode cX9_put 45 = .ok (.aload_n 0, 1) := by decide +kernel
theorem dX9_put_46 : decode cX9_put 46 = .ok (.getfield 7, 3) := by decide +kernel
theorem dX9_put_49 : decode cX9_put 49 = .ok (.iconst 4, 1) := by decide +kernel
theorem dX9_put_50 : decode cX9_put 50 = .ok (.aload_n 0, 1) := by decide +kernel
theorem dX9_put_51 : decode cX9_put 51 = .ok (.getfield 7, 3) := by decide +kernel
theorem dX9_put_54 : decode cX9_put 54 = .ok (.iconst 2, 1) := by decide +kernel
theorem dX9_put_55 : decode cX9_put 55 = .ok (.iaload, 1) := by decide +kernel
theorem dX9_put_56 : decode cX9_put 56 = .ok (.iadd, 1) := by decide +kernel
theorem dX9_put_57 : decode cX9_put 57 = .ok (.iload_n 1, 1) := by decide +kernel
theorem dX9_put_58 : decode cX9_put 58 = .ok (.iastore, 1) := by decide +kernel
theorem dX9_put_59 : decode cX9_put 59 = .ok (.aload_n 0, 1) := by decide +kernel
theorem dX9_put_60 : decode cX9_put 60 = .ok (.getfield 7, 3) := by decide +kernel
theorem dX9_put_63 : decode cX9_put 63 = .ok (.iconst 2, 1) := by decide +kernel
theorem dX9_put_64 : decode cX9_put 64 = .ok (.dup2, 1) := by decide +kernel
theorem dX9_put_65 : decode cX9_put 65 = .ok (.iaload, 1) := by decide +kernel
theorem dX9_put_66 : decode cX9_put 66 = .ok (.iconst 1, 1) := by decide +kernel
theorem dX9_put_67 : decode cX9_put 67 = .ok (.iadd, 1) := by decide +kernel
theorem dX9_put_68 : decode cX9_put 68 = .ok (.iastore, 1) := by decide +kernel
theorem dX9_put_69 : decode cX9_put 69 = .ok (.aload_n 0, 1) := by decide +kernel
theorem dX9_put_70 : decode cX9_put 70 = .ok (.invokevirtual 97, 3) := by decide +kernel
theorem dX9_put_73 : decode cX9_put 73 = .ok (.aload_n 0, 1) := by decide +kernel
theorem dX9_put_74 : decode cX9_put 74 = .ok (.getfield 22, 3) := by decide +kernel
theorem dX9_put_77 : decode cX9_put 77 = .ok (.aload_n 0, 1) := by decide +kernel
theorem dX9_put_78 : decode cX9_put 78 = .ok (.getfield 7, 3) := by decide +kernel
theorem dX9_put_81 : decode cX9_put 81 = .ok (.iconst 2, 1) := by decide +kernel
theorem dX9_put_82 : decode cX9_put 82 = .ok (.iaload, 1) := by decide +kernel
theorem dX9_put_83 : decode cX9_put 83 = .ok (.iconst 1, 1) := by decide +kernel
theorem dX9_put_84 : decode cX9_put 84 = .ok (.isub, 1) := by decide +kernel
theorem dX9_put_85 : decode cX9_put 85 = .ok (.iaload, 1) := by decide +kernel
theorem dX9_put_86 : decode cX9_put 86 = .ok (.ireturn, 1) := by decide +kernel
theorem dX9_end_0 : decode cX9_end 0 = .ok (.aload_n 0, 1) := by decide +kernel
theorem dX9_end_1 : decode cX9_end 1 = .ok (.getfield 7, 3) := by decide +kernel
theorem dX9_end_4 : decode cX9_end 4 = .ok (.iconst 3, 1) := by decide +kernel
theorem dX9_end_5 : decode cX9_end 5 = .ok (.iaload, 1) := by decide +kernel
theorem dX9_end_6 : decode cX9_end 6 = .ok (.iconst 1, 1) := by decide +kernel
theorem dX9_end_7 : decode cX9_end 7 = .ok (.if_icmp .ne 6, 3) := by decide +kernel
theorem dX9_end_10 : decode cX9_end 10 = .ok (.bipush (-2), 2) := by decide +kernel
theorem dX9_end_12 : decode cX9_end 12 = .ok (.ireturn, 1) := by decide +kernel
theorem dX9_end_13 : decode cX9_end 13 = .ok (.aload_n 0, 1) := by decide +kernel
theorem dX9_end_14 : decode cX9_end 14 = .ok (.invokevirtual 106, 3) := by decide +kernel
theorem dX9_end_17 : decode cX9_end 17 = .ok (.aload_n 0, 1) := by decide +kernel
theorem dX9_end_18 : decode cX9_end 18 = .ok (.getfield 7, 3) := by decide +kernel
theorem dX9_end_21 : decode cX9_end 21 = .ok (.iconst 3, 1) := by decide +kernel
theorem dX9_end_22 : decode cX9_end 22 = .ok (.iconst 1, 1) := by decide +kernel
theorem dX9_end_23 : decode cX9_end 23 = .ok (.iastore, 1) := by decide +kernel
theorem dX9_end_24 : decode cX9_end 24 = .ok (.aload_n 0, 1) := by decide +kernel
theorem dX9_end_25 : decode cX9_end 25 = .ok (.invokevirtual 109, 3) := by decide +kernel
theorem dX9_end_28 : decode cX9_end 28 = .ok (.ireturn, 1) := by decide +kernel
theorem dX9_begins_0 : decode cX9_begins 0 = .ok (.aload_n 0, 1) := by decide +kernel
theorem dX9_begins_1 : decode cX9_begins 1 = .ok (.getfield 7, 3) := by decide +kernel
theorem dX9_begins_4 : decode cX9_begins 4 = .ok (.iconst 2, 1) := by decide +kernel
theorem dX9_begins_5 : decode cX9_begins 5 = .ok (.iaload, 1) := by decide +kernel
theorem dX9_begins_6 : decode cX9_begins 6 = .ok (.istore_n 1, 1) := by decide +kernel
theorem dX9_begins_7 : decode cX9_begins 7 = .ok (.aload_n 0, 1) := by decide +kernel
theorem dX9_begins_8 : decode cX9_begins 8 = .ok (.getfield 7, 3) := by decide +kernel
theorem dX9_begins_11 : decode cX9_begins 11 = .ok (.iconst 2, 1) := by decide +kernel
theorem dX9_begins_12 : decode cX9_begins 12 = .ok (.iconst 0, 1) := by decide +kernel
theorem dX9_begins_13 : decode cX9_begins 13 = .ok (.iastore, 1) := by decide +kernel
theorem dX9_begins_14 : decode cX9_begins 14 = .ok (.aload_n 0, 1) := by decide +kernel
theorem dX9_begins_15 : decode cX9_begins 15 = .ok (.getfield 7, 3) := by decide +kernel
theorem dX9_begins_18 : decode cX9_begins 18 = .ok (.iconst 3, 1) := by decide +kernel
theorem dX9_begins_19 : decode cX9_begins 19 = .ok (.iconst 0, 1) := by decide +kernel
theorem dX9_begins_20 : decode cX9_begins 20 = .ok (.iastore, 1) := by decide +kernel
theorem dX9_begins_21 : decode cX9_begins 21 = .ok (.iload_n 1, 1) := by decide +kernel
theorem dX9_begins_22 : decode cX9_begins 22 = .ok (.ireturn, 1) := by decide +kernel
theorem dX9_begin_0 : decode cX9_begin 0 = .ok (.aload_n 0, 1) := by decide +kernel
theorem dX9_begin_1 : decode cX9_begin 1 = .ok (.invokevirtual 106, 3) := by decide +kernel
theorem dX9_begin_4 : decode cX9_begin 4 = .ok (.aload_n 0, 1) := by decide +kernel
theorem dX9_begin_5 : decode cX9_begin 5 = .ok (.invokevirtual 112, 3) := by decide +kernel
theorem dX9_begin_8 : decode cX9_begin 8 = .ok (.ireturn, 1) := by decide +kernel
theorem dX9_drop_0 : decode cX9_drop 0 = .ok (.iload_n 1, 1) := by decide +kernel
theorem dX9_drop_1 : decode cX9_drop 1 = .ok (.i2l, 1) := by decide +kernel
theorem dX9_drop_2 : decode cX9_drop 2 = .ok (.lconst 1, 1) := by decide +kernel
theorem dX9_drop_3 : decode cX9_drop 3 = .ok (.ldc2_w 115, 3) := by decide +kernel
theorem dX9_drop_6 : decode cX9_drop 6 = .ok (.invokestatic 102, 3) := by decide +kernel
theorem dX9_drop_9 : decode cX9_drop 9 = .ok (.ifCond .ne 5, 3) := by decide +kernel
theorem dX9_drop_12 : decode cX9_drop 12 = .ok (.iconst (-1), 1) := by decide +kernel
theorem dX9_drop_13 : decode cX9_drop 13 = .ok (.ireturn, 1) := by decide +kernel
theorem dX9_drop_14 : decode cX9_drop 14 = .ok (.iload_n 1, 1) := by decide +kernel
theorem dX9_drop_15 : decode cX9_drop 15 = .ok (.aload_n 0, 1) := by decide +kernel
theorem dX9_drop_16 : decode cX9_drop 16 = .ok (.getfield 7, 3) := by decide +kernel
theorem dX9_drop_19 : decode cX9_drop 19 = .ok (.iconst 2, 1) := by decide +kernel
theorem dX9_drop_20 : decode cX9_drop 20 = .ok (.iaload, 1) := by decide +kernel
theorem dX9_drop_21 : decode cX9_drop 21 = .ok (.if_icmp .le 6, 3) := by decide +kernel
theorem dX9_drop_24 : decode cX9_drop 24 = .ok (.bipush (-2), 2) := by decide +kernel
theorem dX9_drop_26 : decode cX9_drop 26 = .ok (.ireturn, 1) := by decide +kernel
theorem dX9_drop_27 : decode cX9_drop 27 = .ok (.aload_n 0, 1) := by decide +kernel
theorem dX9_drop_28 : decode cX9_drop 28 = .ok (.invokevirtual 106, 3) := by decide +kernel
theorem dX9_drop_31 : decode cX9_drop 31 = .ok (.aload_n 0, 1) := by decide +kernel
theorem dX9_drop_32 : decode cX9_drop 32 = .ok (.getfield 7, 3) := by decide +kernel
theorem dX9_drop_35 : decode cX9_drop 35 = .ok (.iconst 2, 1) := by decide +kernel
theorem dX9_drop_36 : decode cX9_drop 36 = .ok (.dup2, 1) := by decide +kernel
theorem dX9_drop_37 : decode cX9_drop 37 = .ok (.iaload, 1) := by decide +kernel
theorem dX9_drop_38 : decode cX9_drop 38 = .ok (.iload_n 1, 1) := by decide +kernel
theorem dX9_drop_39 : decode cX9_drop 39 = .ok (.isub, 1) := by decide +kernel
theorem dX9_drop_40 : decode cX9_drop 40 = .ok (.iastore, 1) := by decide +kernel
theorem dX9_drop_41 : decode cX9_drop 41 = .ok (.aload_n 0, 1) := by decide +kernel
theorem dX9_drop_42 : decode cX9_drop 42 = .ok (.getfield 7, 3) := by decide +kernel
theorem dX9_drop_45 : decode cX9_drop 45 = .ok (.iconst 3, 1) := by decide +kernel
theorem dX9_drop_46 : decode cX9_drop 46 = .ok (.iconst 0, 1) := by decide +kernel
theorem dX9_drop_47 : decode cX9_drop 47 = .ok (.iastore, 1) := by decide +kernel
theorem dX9_drop_48 : decode cX9_drop 48 = .ok (.aload_n 0, 1) := by decide +kernel
theorem dX9_drop_49 : decode cX9_drop 49 = .ok (.invokevirtual 109, 3) := by decide +kernel
theorem dX9_drop_52 : decode cX9_drop 52 = .ok (.ireturn, 1) := by decide +kernel
theorem dX9_mend_0 : decode cX9_mend 0 = .ok (.iload_n 1, 1) := by decide +kernel
theorem dX9_mend_1 : decode cX9_mend 1 = .ok (.ifCond .lt 15, 3) := by decide +kernel
theorem dX9_mend_4 : decode cX9_mend 4 = .ok (.iload_n 2, 1) := by decide +kernel
theorem dX9_mend_5 : decode cX9_mend 5 = .ok (.i2l, 1) := by decide +kernel
theorem dX9_mend_6 : decode cX9_mend 6 = .ok (.lconst 0, 1) := by decide +kernel
theorem dX9_mend_7 : decode cX9_mend 7 = .ok (.ldc2_w 100, 3) := by decide +kernel
theorem dX9_mend_10 : decode cX9_mend 10 = .ok (.invokestatic 102, 3) := by decide +kernel
theorem dX9_mend_13 : decode cX9_mend 13 = .ok (.ifCond .ne 5, 3) := by decide +kernel
theorem dX9_mend_16 : decode cX9_mend 16 = .ok (.iconst (-1), 1) := by decide +kernel
theorem dX9_mend_17 : decode cX9_mend 17 = .ok (.ireturn, 1) := by decide +kernel
theorem dX9_mend_18 : decode cX9_mend 18 = .ok (.iload_n 1, 1) := by decide +kernel
theorem dX9_mend_19 : decode cX9_mend 19 = .ok (.aload_n 0, 1) := by decide +kernel
theorem dX9_mend_20 : decode cX9_mend 20 = .ok (.getfield 7, 3) := by decide +kernel
theorem dX9_mend_23 : decode cX9_mend 23 = .ok (.iconst 2, 1) := by decide +kernel
theorem dX9_mend_24 : decode cX9_mend 24 = .ok (.iaload, 1) := by decide +kernel
theorem dX9_mend_25 : decode cX9_mend 25 = .ok (.if_icmp .lt 6, 3) := by decide +kernel
theorem dX9_mend_28 : decode cX9_mend 28 = .ok (.bipush (-2), 2) := by decide +kernel
theorem dX9_mend_30 : decode cX9_mend 30 = .ok (.ireturn, 1) := by decide +kernel
theorem dX9_mend_31 : decode cX9_mend 31 = .ok (.aload_n 0, 1) := by decide +kernel
theorem dX9_mend_32 : decode cX9_mend 32 = .ok (.invokevirtual 106, 3) := by decide +kernel
theorem dX9_mend_35 : decode cX9_mend 35 = .ok (.aload_n 0, 1) := by decide +kernel
theorem dX9_mend_36 : decode cX9_mend 36 = .ok (.getfield 7, 3) := by decide +kernel
theorem dX9_mend_39 : decode cX9_mend 39 = .ok (.iconst 4, 1) := by decide +kernel
theorem dX9_mend_40 : decode cX9_mend 40 = .ok (.iload_n 1, 1) := by decide +kernel
theorem dX9_mend_41 : decode cX9_mend 41 = .ok (.iadd, 1) := by decide +kernel
theorem dX9_mend_42 : decode cX9_mend 42 = .ok (.iload_n 2, 1) := by decide +kernel
theorem dX9_mend_43 : decode cX9_mend 43 = .ok (.iastore, 1) := by decide +kernel
theorem dX9_mend_44 : decode cX9_mend 44 = .ok (.aload_n 0, 1) := by decide +kernel
theorem dX9_mend_45 : decode cX9_mend 45 = .ok (.invokevirtual 109, 3) := by decide +kernel
theorem dX9_mend_48 : decode cX9_mend 48 = .ok (.ireturn, 1) := by decide +kernel
theorem dX9_set_0 : decode cX9_set 0 = .ok (.iload_n 1, 1) := by decide +kernel
theorem dX9_set_1 : decode cX9_set 1 = .ok (.ifCond .ne 15, 3) := by decide +kernel
theorem dX9_set_4 : decode cX9_set 4 = .ok (.iload_n 2, 1) := by decide +kernel
theorem dX9_set_5 : decode cX9_set 5 = .ok (.i2l, 1) := by decide +kernel
theorem dX9_set_6 : decode cX9_set 6 = .ok (.lconst 1, 1) := by decide +kernel
theorem dX9_set_7 : decode cX9_set 7 = .ok (.ldc2_w 117, 3) := by decide +kernel
theorem dX9_set_10 : decode cX9_set 10 = .ok (.invokestatic 102, 3) := by decide +kernel
theorem dX9_set_13 : decode cX9_set 13 = .ok (.goto 27, 3) := by decide +kernel
theorem dX9_set_16 : decode cX9_set 16 = .ok (.iload_n 1, 1) := by decide +kernel
theorem dX9_set_17 : decode cX9_set 17 = .ok (.iconst 1, 1) := by decide +kernel
theorem dX9_set_18 : decode cX9_set 18 = .ok (.if_icmp .ne 21, 3) := by decide +kernel
theorem dX9_set_21 : decode cX9_set 21 = .ok (.iload_n 2, 1) := by decide +kernel
theorem dX9_set_22 : decode cX9_set 22 = .ok (.i2l, 1) := by decide +kernel
theorem dX9_set_23 : decode cX9_set 23 = .ok (.ldc2_w 119, 3) := by decide +kernel
theorem dX9_set_26 : decode cX9_set 26 = .ok (.ldc2_w 121, 3) := by decide +kernel
theorem dX9_set_29 : decode cX9_set 29 = .ok (.invokestatic 102, 3) := by decide +kernel
theorem dX9_set_32 : decode cX9_set 32 = .ok (.ifCond .eq 7, 3) := by decide +kernel
theorem dX9_set_35 : decode cX9_set 35 = .ok (.iconst 1, 1) := by decide +kernel
theorem dX9_set_36 : decode cX9_set 36 = .ok (.goto 4, 3) := by decide +kernel
theorem dX9_set_39 : decode cX9_set 39 = .ok (.iconst 0, 1) := by decide +kernel
theorem dX9_set_40 : decode cX9_set 40 = .ok (.istore_n 3, 1) := by decide +kernel
theorem dX9_set_41 : decode cX9_set 41 = .ok (.iload_n 3, 1) := by decide +kernel
theorem dX9_set_42 : decode cX9_set 42 = .ok (.ifCond .ne 5, 3) := by decide +kernel
theorem dX9_set_45 : decode cX9_set 45 = .ok (.iconst (-1), 1) := by decide +kernel
theorem dX9_set_46 : decode cX9_set 46 = .ok (.ireturn, 1) := by decide +kernel
theorem dX9_set_47 : decode cX9_set 47 = .ok (.aload_n 0, 1) := by decide +kernel
theorem dX9_set_48 : decode cX9_set 48 = .ok (.invokevirtual 106, 3) := by decide +kernel
theorem dX9_set_51 : decode cX9_set 51 = .ok (.aload_n 0, 1) := by decide +kernel
theorem dX9_set_52 : decode cX9_set 52 = .ok (.getfield 7, 3) := by decide +kernel
theorem dX9_set_55 : decode cX9_set 55 = .ok (.iload_n 1, 1) := by decide +kernel
theorem dX9_set_56 : decode cX9_set 56 = .ok (.iaload, 1) := by decide +kernel
theorem dX9_set_57 : decode cX9_set 57 = .ok (.istore 4, 2) := by decide +kernel
theorem dX9_set_59 : decode cX9_set 59 = .ok (.aload_n 0, 1) := by decide +kernel
theorem dX9_set_60 : decode cX9_set 60 = .ok (.getfield 7, 3) := by decide +kernel
theorem dX9_set_63 : decode cX9_set 63 = .ok (.iload_n 1, 1) := by decide +kernel
theorem dX9_set_64 : decode cX9_set 64 = .ok (.iload_n 2, 1) := by decide +kernel
theorem dX9_set_65 : decode cX9_set 65 = .ok (.iastore, 1) := by decide +kernel
theorem dX9_set_66 : decode cX9_set 66 = .ok (.aload_n 0, 1) := by decide +kernel
theorem dX9_set_67 : decode cX9_set 67 = .ok (.invokevirtual 112, 3) := by decide +kernel
theorem dX9_set_70 : decode cX9_set 70 = .ok (.istore 5, 2) := by decide +kernel
theorem dX9_set_72 : decode cX9_set 72 = .ok (.iload 4, 2) := by decide +kernel
theorem dX9_set_74 : decode cX9_set 74 = .ok (.ireturn, 1) := by decide +kernel
theorem dX9_letter_0 : decode cX9_letter 0 = .ok (.iload_n 1, 1) := by decide +kernel
theorem dX9_letter_1 : decode cX9_letter 1 = .ok (.ifCond .ge 5, 3) := by decide +kernel
theorem dX9_letter_4 : decode cX9_letter 4 = .ok (.iconst (-1), 1) := by decide +kernel
theorem dX9_letter_5 : decode cX9_letter 5 = .ok (.ireturn, 1) := by decide +kernel
theorem dX9_letter_6 : decode cX9_letter 6 = .ok (.iload_n 1, 1) := by decide +kernel
theorem dX9_letter_7 : decode cX9_letter 7 = .ok (.aload_n 0, 1) := by decide +kernel
theorem dX9_letter_8 : decode cX9_letter 8 = .ok (.getfield 7, 3) := by decide +kernel
theorem dX9_letter_11 : decode cX9_letter 11 = .ok (.iconst 2, 1) := by decide +kernel
theorem dX9_letter_12 : decode cX9_letter 12 = .ok (.iaload, 1) := by decide +kernel
theorem dX9_letter_13 : decode cX9_letter 13 = .ok (.if_icmp .ge 14, 3) := by decide +kernel
theorem dX9_letter_16 : decode cX9_letter 16 = .ok (.aload_n 0, 1) := by decide +kernel
theorem dX9_letter_17 : decode cX9_letter 17 = .ok (.getfield 7, 3) := by decide +kernel
theorem dX9_letter_20 : decode cX9_letter 20 = .ok (.iconst 4, 1) := by decide +kernel
theorem dX9_letter_21 : decode cX9_letter 21 = .ok (.iload_n 1, 1) := by decide +kernel
theorem dX9_letter_22 : decode cX9_letter 22 = .ok (.iadd, 1) := by decide +kernel
theorem dX9_letter_23 : decode cX9_letter 23 = .ok (.iaload, 1) := by decide +kernel
theorem dX9_letter_24 : decode cX9_letter 24 = .ok (.goto 5, 3) := by decide +kernel
theorem dX9_letter_27 : decode cX9_letter 27 = .ok (.bipush (-4), 2) := by decide +kernel
theorem dX9_letter_29 : decode cX9_letter 29 = .ok (.ireturn, 1) := by decide +kernel
theorem dX9_bit_0 : decode cX9_bit 0 = .ok (.iload_n 1, 1) := by decide +kernel
theorem dX9_bit_1 : decode cX9_bit 1 = .ok (.ifCond .ge 5, 3) := by decide +kernel
theorem dX9_bit_4 : decode cX9_bit 4 = .ok (.iconst (-1), 1) := by decide +kernel
theorem dX9_bit_5 : decode cX9_bit 5 = .ok (.ireturn, 1) := by decide +kernel
theorem dX9_bit_6 : decode cX9_bit 6 = .ok (.iload_n 1, 1) := by decide +kernel
theorem dX9_bit_7 : decode cX9_bit 7 = .ok (.aload_n 0, 1) := by decide +kernel
theorem dX9_bit_8 : decode cX9_bit 8 = .ok (.invokevirtual 109, 3) := by decide +kernel
theorem dX9_bit_11 : decode cX9_bit 11 = .ok (.if_icmp .ge 12, 3) := by decide +kernel
theorem dX9_bit_14 : decode cX9_bit 14 = .ok (.aload_n 0, 1) := by decide +kernel
theorem dX9_bit_15 : decode cX9_bit 15 = .ok (.getfield 19, 3) := by decide +kernel
theorem dX9_bit_18 : decode cX9_bit 18 = .ok (.iload_n 1, 1) := by decide +kernel
theorem dX9_bit_19 : decode cX9_bit 19 = .ok (.iaload, 1) := by decide +kernel
theorem dX9_bit_20 : decode cX9_bit 20 = .ok (.goto 5, 3) := by decide +kernel
theorem dX9_bit_23 : decode cX9_bit 23 = .ok (.bipush (-4), 2) := by decide +kernel
theorem dX9_bit_25 : decode cX9_bit 25 = .ok (.ireturn, 1) := by decide +kernel
theorem dX9_stands_0 : decode cX9_stands 0 = .ok (.iconst 0, 1) := by decide +kernel
theorem dX9_stands_1 : decode cX9_stands 1 = .ok (.istore_n 2, 1) := by decide +kernel
theorem dX9_stands_2 : decode cX9_stands 2 = .ok (.iconst 0, 1) := by decide +kernel
theorem dX9_stands_3 : decode cX9_stands 3 = .ok (.istore_n 3, 1) := by decide +kernel
theorem dX9_stands_4 : decode cX9_stands 4 = .ok (.iload_n 3, 1) := by decide +kernel
theorem dX9_stands_5 : decode cX9_stands 5 = .ok (.aload_n 0, 1) := by decide +kernel
theorem dX9_stands_6 : decode cX9_stands 6 = .ok (.getfield 7, 3) := by decide +kernel
theorem dX9_stands_9 : decode cX9_stands 9 = .ok (.iconst 2, 1) := by decide +kernel
theorem dX9_stands_10 : decode cX9_stands 10 = .ok (.iaload, 1) := by decide +kernel
theorem dX9_stands_11 : decode cX9_stands 11 = .ok (.if_icmp .ge 29, 3) := by decide +kernel
theorem dX9_stands_14 : decode cX9_stands 14 = .ok (.iload_n 2, 1) := by decide +kernel
theorem dX9_stands_15 : decode cX9_stands 15 = .ok (.aload_n 0, 1) := by decide +kernel
theorem dX9_stands_16 : decode cX9_stands 16 = .ok (.getfield 7, 3) := by decide +kernel
theorem dX9_stands_19 : decode cX9_stands 19 = .ok (.iconst 4, 1) := by decide +kernel
theorem dX9_stands_20 : decode cX9_stands 20 = .ok (.iload_n 3, 1) := by decide +kernel
theorem dX9_stands_21 : decode cX9_stands 21 = .ok (.iadd, 1) := by decide +kernel
theorem dX9_stands_22 : decode cX9_stands 22 = .ok (.iaload, 1) := by decide +kernel
theorem dX9_stands_23 : decode cX9_stands 23 = .ok (.iload_n 1, 1) := by decide +kernel
theorem dX9_stands_24 : decode cX9_stands 24 = .ok (.if_icmp .ne 7, 3) := by decide +kernel
theorem dX9_stands_27 : decode cX9_stands 27 = .ok (.iconst 1, 1) := by decide +kernel
theorem dX9_stands_28 : decode cX9_stands 28 = .ok (.goto 4, 3) := by decide +kernel
theorem dX9_stands_31 : decode cX9_stands 31 = .ok (.iconst 0, 1) := by decide +kernel
theorem dX9_stands_32 : decode cX9_stands 32 = .ok (.iadd, 1) := by decide +kernel
theorem dX9_stands_33 : decode cX9_stands 33 = .ok (.istore_n 2, 1) := by decide +kernel
theorem dX9_stands_34 : decode cX9_stands 34 = .ok (.iinc 3 1, 3) := by decide +kernel
theorem dX9_stands_37 : decode cX9_stands 37 = .ok (.goto (-33), 3) := by decide +kernel
theorem dX9_stands_40 : decode cX9_stands 40 = .ok (.iload_n 2, 1) := by decide +kernel
theorem dX9_stands_41 : decode cX9_stands 41 = .ok (.ireturn, 1) := by decide +kernel
theorem dX9_wouldWrite_0 : decode cX9_wouldWrite 0 = .ok (.aload_n 0, 1) := by decide +kernel
theorem dX9_wouldWrite_1 : decode cX9_wouldWrite 1 = .ok (.getfield 7, 3) := by decide +kernel
theorem dX9_wouldWrite_4 : decode cX9_wouldWrite 4 = .ok (.iconst 3, 1) := by decide +kernel
theorem dX9_wouldWrite_5 : decode cX9_wouldWrite 5 = .ok (.iaload, 1) := by decide +kernel
theorem dX9_wouldWrite_6 : decode cX9_wouldWrite 6 = .ok (.iconst 1, 1) := by decide +kernel
theorem dX9_wouldWrite_7 : decode cX9_wouldWrite 7 = .ok (.if_icmp .ne 6, 3) := by decide +kernel
theorem dX9_wouldWrite_10 : decode cX9_wouldWrite 10 = .ok (.bipush (-2), 2) := by decide +kernel
theorem dX9_wouldWrite_12 : decode cX9_wouldWrite 12 = .ok (.ireturn, 1) := by decide +kernel
theorem dX9_wouldWrite_13 : decode cX9_wouldWrite 13 = .ok (.aload_n 0, 1) := by decide +kernel
theorem dX9_wouldWrite_14 : decode cX9_wouldWrite 14 = .ok (.invokevirtual 109, 3) := by decide +kernel
theorem dX9_wouldWrite_17 : decode cX9_wouldWrite 17 = .ok (.istore_n 2, 1) := by decide +kernel
theorem dX9_wouldWrite_18 : decode cX9_wouldWrite 18 = .ok (.iload_n 1, 1) := by decide +kernel
theorem dX9_wouldWrite_19 : decode cX9_wouldWrite 19 = .ok (.bipush 8, 2) := by decide +kernel
theorem dX9_wouldWrite_21 : decode cX9_wouldWrite 21 = .ok (.if_icmp .ne 10, 3) := by decide +kernel
theorem dX9_wouldWrite_24 : decode cX9_wouldWrite 24 = .ok (.aload_n 0, 1) := by decide +kernel
theorem dX9_wouldWrite_25 : decode cX9_wouldWrite 25 = .ok (.invokevirtual 90, 3) := by decide +kernel
theorem dX9_wouldWrite_28 : decode cX9_wouldWrite 28 = .ok (.goto 8, 3) := by decide +kernel
theorem dX9_wouldWrite_31 : decode cX9_wouldWrite 31 = .ok (.aload_n 0, 1) := by decide +kernel
theorem dX9_wouldWrite_32 : decode cX9_wouldWrite 32 = .ok (.iload_n 1, 1) := by decide +kernel
theorem dX9_wouldWrite_33 : decode cX9_wouldWrite 33 = .ok (.invokevirtual 80, 3) := by decide +kernel
theorem dX9_wouldWrite_36 : decode cX9_wouldWrite 36 = .ok (.aload_n 0, 1) := by decide +kernel
theorem dX9_wouldWrite_37 : decode cX9_wouldWrite 37 = .ok (.getfield 44, 3) := by decide +kernel
theorem dX9_wouldWrite_40 : decode cX9_wouldWrite 40 = .ok (.iload_n 2, 1) := by decide +kernel
theorem dX9_wouldWrite_41 : decode cX9_wouldWrite 41 = .ok (.isub, 1) := by decide +kernel
theorem dX9_wouldWrite_42 : decode cX9_wouldWrite 42 = .ok (.ireturn, 1) := by decide +kernel
theorem dX9_letterOf_0 : decode cX9_letterOf 0 = .ok (.iload_n 1, 1) := by decide +kernel
theorem dX9_letterOf_1 : decode cX9_letterOf 1 = .ok (.i2l, 1) := by decide +kernel
theorem dX9_letterOf_2 : decode cX9_letterOf 2 = .ok (.lconst 0, 1) := by decide +kernel
theorem dX9_letterOf_3 : decode cX9_letterOf 3 = .ok (.ldc2_w 123, 3) := by decide +kernel
theorem dX9_letterOf_6 : decode cX9_letterOf 6 = .ok (.invokestatic 102, 3) := by decide +kernel
theorem dX9_letterOf_9 : decode cX9_letterOf 9 = .ok (.ifCond .eq 15, 3) := by decide +kernel
theorem dX9_letterOf_12 : decode cX9_letterOf 12 = .ok (.iload_n 2, 1) := by decide +kernel
theorem dX9_letterOf_13 : decode cX9_letterOf 13 = .ok (.i2l, 1) := by decide +kernel
theorem dX9_letterOf_14 : decode cX9_letterOf 14 = .ok (.lconst 0, 1) := by decide +kernel
theorem dX9_letterOf_15 : decode cX9_letterOf 15 = .ok (.ldc2_w 125, 3) := by decide +kernel
theorem dX9_letterOf_18 : decode cX9_letterOf 18 = .ok (.invokestatic 102, 3) := by decide +kernel
theorem dX9_letterOf_21 : decode cX9_letterOf 21 = .ok (.ifCond .ne 5, 3) := by decide +kernel
theorem dX9_letterOf_24 : decode cX9_letterOf 24 = .ok (.iconst (-1), 1) := by decide +kernel
theorem dX9_letterOf_25 : decode cX9_letterOf 25 = .ok (.ireturn, 1) := by decide +kernel
theorem dX9_letterOf_26 : decode cX9_letterOf 26 = .ok (.aload_n 0, 1) := by decide +kernel
theorem dX9_letterOf_27 : decode cX9_letterOf 27 = .ok (.invokevirtual 97, 3) := by decide +kernel
theorem dX9_letterOf_30 : decode cX9_letterOf 30 = .ok (.iload_n 2, 1) := by decide +kernel
theorem dX9_letterOf_31 : decode cX9_letterOf 31 = .ok (.tableswitch 44 0 2 #[25, 32, 38], 25) := by decide +kernel
theorem dX9_letterOf_56 : decode cX9_letterOf 56 = .ok (.aload_n 0, 1) := by decide +kernel
theorem dX9_letterOf_57 : decode cX9_letterOf 57 = .ok (.getfield 16, 3) := by decide +kernel
theorem dX9_letterOf_60 : decode cX9_letterOf 60 = .ok (.iload_n 1, 1) := by decide +kernel
theorem dX9_letterOf_61 : decode cX9_letterOf 61 = .ok (.iaload, 1) := by decide +kernel
theorem dX9_letterOf_62 : decode cX9_letterOf 62 = .ok (.ireturn, 1) := by decide +kernel
theorem dX9_letterOf_63 : decode cX9_letterOf 63 = .ok (.aload_n 0, 1) := by decide +kernel
theorem dX9_letterOf_64 : decode cX9_letterOf 64 = .ok (.iload_n 1, 1) := by decide +kernel
theorem dX9_letterOf_65 : decode cX9_letterOf 65 = .ok (.invokevirtual 56, 3) := by decide +kernel
theorem dX9_letterOf_68 : decode cX9_letterOf 68 = .ok (.ireturn, 1) := by decide +kernel
theorem dX9_letterOf_69 : decode cX9_letterOf 69 = .ok (.aload_n 0, 1) := by decide +kernel
theorem dX9_letterOf_70 : decode cX9_letterOf 70 = .ok (.iload_n 1, 1) := by decide +kernel
theorem dX9_letterOf_71 : decode cX9_letterOf 71 = .ok (.invokevirtual 127, 3) := by decide +kernel
theorem dX9_letterOf_74 : decode cX9_letterOf 74 = .ok (.ireturn, 1) := by decide +kernel
theorem dX9_letterOf_75 : decode cX9_letterOf 75 = .ok (.aload_n 0, 1) := by decide +kernel
theorem dX9_letterOf_76 : decode cX9_letterOf 76 = .ok (.iload_n 1, 1) := by decide +kernel
theorem dX9_letterOf_77 : decode cX9_letterOf 77 = .ok (.invokevirtual 130, 3) := by decide +kernel
theorem dX9_letterOf_80 : decode cX9_letterOf 80 = .ok (.ireturn, 1) := by decide +kernel
theorem dX9_mostWritten_0 : decode cX9_mostWritten 0 = .ok (.iconst 0, 1) := by decide +kernel
theorem dX9_mostWritten_1 : decode cX9_mostWritten 1 = .ok (.istore_n 1, 1) := by decide +kernel
theorem dX9_mostWritten_2 : decode cX9_mostWritten 2 = .ok (.iconst 0, 1) := by decide +kernel
theorem dX9_mostWritten_3 : decode cX9_mostWritten 3 = .ok (.istore_n 2, 1) := by decide +kernel
theorem dX9_mostWritten_4 : decode cX9_mostWritten 4 = .ok (.iload_n 2, 1) := by decide +kernel
theorem dX9_mostWritten_5 : decode cX9_mostWritten 5 = .ok (.aload_n 0, 1) := by decide +kernel
theorem dX9_mostWritten_6 : decode cX9_mostWritten 6 = .ok (.getfield 7, 3) := by decide +kernel
theorem dX9_mostWritten_9 : decode cX9_mostWritten 9 = .ok (.iconst 2, 1) := by decide +kernel
theorem dX9_mostWritten_10 : decode cX9_mostWritten 10 = .ok (.iaload, 1) := by decide +kernel
theorem dX9_mostWritten_11 : decode cX9_mostWritten 11 = .ok (.if_icmp .ge 30, 3) := by decide +kernel
theorem dX9_mostWritten_14 : decode cX9_mostWritten 14 = .ok (.aload_n 0, 1) := by decide +kernel
theorem dX9_mostWritten_15 : decode cX9_mostWritten 15 = .ok (.getfield 22, 3) := by decide +kernel
theorem dX9_mostWritten_18 : decode cX9_mostWritten 18 = .ok (.iload_n 2, 1) := by decide +kernel
theorem dX9_mostWritten_19 : decode cX9_mostWritten 19 = .ok (.iaload, 1) := by decide +kernel
theorem dX9_mostWritten_20 : decode cX9_mostWritten 20 = .ok (.iload_n 1, 1) := by decide +kernel
theorem dX9_mostWritten_21 : decode cX9_mostWritten 21 = .ok (.if_icmp .le 12, 3) := by decide +kernel
theorem dX9_mostWritten_24 : decode cX9_mostWritten 24 = .ok (.aload_n 0, 1) := by decide +kernel
theorem dX9_mostWritten_25 : decode cX9_mostWritten 25 = .ok (.getfield 22, 3) := by decide +kernel
theorem dX9_mostWritten_28 : decode cX9_mostWritten 28 = .ok (.iload_n 2, 1) := by decide +kernel
theorem dX9_mostWritten_29 : decode cX9_mostWritten 29 = .ok (.iaload, 1) := by decide +kernel
theorem dX9_mostWritten_30 : decode cX9_mostWritten 30 = .ok (.goto 4, 3) := by decide +kernel
theorem dX9_mostWritten_33 : decode cX9_mostWritten 33 = .ok (.iload_n 1, 1) := by decide +kernel
theorem dX9_mostWritten_34 : decode cX9_mostWritten 34 = .ok (.istore_n 1, 1) := by decide +kernel
theorem dX9_mostWritten_35 : decode cX9_mostWritten 35 = .ok (.iinc 2 1, 3) := by decide +kernel
theorem dX9_mostWritten_38 : decode cX9_mostWritten 38 = .ok (.goto (-34), 3) := by decide +kernel
theorem dX9_mostWritten_41 : decode cX9_mostWritten 41 = .ok (.iload_n 1, 1) := by decide +kernel
theorem dX9_mostWritten_42 : decode cX9_mostWritten 42 = .ok (.ireturn, 1) := by decide +kernel
theorem dX9_count_0 : decode cX9_count 0 = .ok (.aload_n 0, 1) := by decide +kernel
theorem dX9_count_1 : decode cX9_count 1 = .ok (.invokevirtual 97, 3) := by decide +kernel
theorem dX9_count_4 : decode cX9_count 4 = .ok (.iload_n 1, 1) := by decide +kernel
theorem dX9_count_5 : decode cX9_count 5 = .ok (.tableswitch 136 0 12 #[67, 74, 79, 84, 89, 94, 99, 104, 111, 116, 121, 121, 131], 67) := by decide +kernel
theorem dX9_count_72 : decode cX9_count 72 = .ok (.aload_n 0, 1) := by decide +kernel
theorem dX9_count_73 : decode cX9_count 73 = .ok (.getfield 7, 3) := by decide +kernel
theorem dX9_count_76 : decode cX9_count 76 = .ok (.iconst 2, 1) := by decide +kernel
theorem dX9_count_77 : decode cX9_count 77 = .ok (.iaload, 1) := by decide +kernel
theorem dX9_count_78 : decode cX9_count 78 = .ok (.ireturn, 1) := by decide +kernel
theorem dX9_count_79 : decode cX9_count 79 = .ok (.aload_n 0, 1) := by decide +kernel
theorem dX9_count_80 : decode cX9_count 80 = .ok (.getfield 44, 3) := by decide +kernel
theorem dX9_count_83 : decode cX9_count 83 = .ok (.ireturn, 1) := by decide +kernel
theorem dX9_count_84 : decode cX9_count 84 = .ok (.aload_n 0, 1) := by decide +kernel
theorem dX9_count_85 : decode cX9_count 85 = .ok (.getfield 47, 3) := by decide +kernel
theorem dX9_count_88 : decode cX9_count 88 = .ok (.ireturn, 1) := by decide +kernel
theorem dX9_count_89 : decode cX9_count 89 = .ok (.aload_n 0, 1) := by decide +kernel
theorem dX9_count_90 : decode cX9_count 90 = .ok (.getfield 53, 3) := by decide +kernel
theorem dX9_count_93 : decode cX9_count 93 = .ok (.ireturn, 1) := by decide +kernel
theorem dX9_count_94 : decode cX9_count 94 = .ok (.aload_n 0, 1) := by decide +kernel
theorem dX9_count_95 : decode cX9_count 95 = .ok (.getfield 50, 3) := by decide +kernel
theorem dX9_count_98 : decode cX9_count 98 = .ok (.ireturn, 1) := by decide +kernel
theorem dX9_count_99 : decode cX9_count 99 = .ok (.aload_n 0, 1) := by decide +kernel
theorem dX9_count_100 : decode cX9_count 100 = .ok (.getfield 38, 3) := by decide +kernel
theorem dX9_count_103 : decode cX9_count 103 = .ok (.ireturn, 1) := by decide +kernel
theorem dX9_count_104 : decode cX9_count 104 = .ok (.aload_n 0, 1) := by decide +kernel
theorem dX9_count_105 : decode cX9_count 105 = .ok (.getfield 41, 3) := by decide +kernel
theorem dX9_count_108 : decode cX9_count 108 = .ok (.ireturn, 1) := by decide +kernel
theorem dX9_count_109 : decode cX9_count 109 = .ok (.aload_n 0, 1) := by decide +kernel
theorem dX9_count_110 : decode cX9_count 110 = .ok (.getfield 7, 3) := by decide +kernel
theorem dX9_count_113 : decode cX9_count 113 = .ok (.iconst 3, 1) := by decide +kernel
theorem dX9_count_114 : decode cX9_count 114 = .ok (.iaload, 1) := by decide +kernel
theorem dX9_count_115 : decode cX9_count 115 = .ok (.ireturn, 1) := by decide +kernel
theorem dX9_count_116 : decode cX9_count 116 = .ok (.aload_n 0, 1) := by decide +kernel
theorem dX9_count_117 : decode cX9_count 117 = .ok (.getfield 34, 3) := by decide +kernel
theorem dX9_count_120 : decode cX9_count 120 = .ok (.ireturn, 1) := by decide +kernel
theorem dX9_count_121 : decode cX9_count 121 = .ok (.aload_n 0, 1) := by decide +kernel
theorem dX9_count_122 : decode cX9_count 122 = .ok (.getfield 133, 3) := by decide +kernel
theorem dX9_count_125 : decode cX9_count 125 = .ok (.ireturn, 1) := by decide +kernel
theorem dX9_count_126 : decode cX9_count 126 = .ok (.aload_n 0, 1) := by decide +kernel
theorem dX9_count_127 : decode cX9_count 127 = .ok (.getfield 7, 3) := by decide +kernel
theorem dX9_count_130 : decode cX9_count 130 = .ok (.iload_n 1, 1) := by decide +kernel
theorem dX9_count_131 : decode cX9_count 131 = .ok (.bipush 10, 2) := by decide +kernel
theorem dX9_count_133 : decode cX9_count 133 = .ok (.isub, 1) := by decide +kernel
theorem dX9_count_134 : decode cX9_count 134 = .ok (.iaload, 1) := by decide +kernel
theorem dX9_count_135 : decode cX9_count 135 = .ok (.ireturn, 1) := by decide +kernel
theorem dX9_count_136 : decode cX9_count 136 = .ok (.aload_n 0, 1) := by decide +kernel
theorem dX9_count_137 : decode cX9_count 137 = .ok (.invokevirtual 136, 3) := by decide +kernel
theorem dX9_count_140 : decode cX9_count 140 = .ok (.ireturn, 1) := by decide +kernel
theorem dX9_count_141 : decode cX9_count 141 = .ok (.iconst (-1), 1) := by decide +kernel
theorem dX9_count_142 : decode cX9_count 142 = .ok (.ireturn, 1) := by decide +kernel
theorem dX9_cost_0 : decode cX9_cost 0 = .ok (.iload_n 1, 1) := by decide +kernel
theorem dX9_cost_1 : decode cX9_cost 1 = .ok (.ifCond .ge 5, 3) := by decide +kernel
theorem dX9_cost_4 : decode cX9_cost 4 = .ok (.iconst (-1), 1) := by decide +kernel
theorem dX9_cost_5 : decode cX9_cost 5 = .ok (.ireturn, 1) := by decide +kernel
theorem dX9_cost_6 : decode cX9_cost 6 = .ok (.aload_n 0, 1) := by decide +kernel
theorem dX9_cost_7 : decode cX9_cost 7 = .ok (.invokevirtual 97, 3) := by decide +kernel
theorem dX9_cost_10 : decode cX9_cost 10 = .ok (.iload_n 1, 1) := by decide +kernel
theorem dX9_cost_11 : decode cX9_cost 11 = .ok (.aload_n 0, 1) := by decide +kernel
theorem dX9_cost_12 : decode cX9_cost 12 = .ok (.getfield 7, 3) := by decide +kernel
theorem dX9_cost_15 : decode cX9_cost 15 = .ok (.iconst 2, 1) := by decide +kernel
theorem dX9_cost_16 : decode cX9_cost 16 = .ok (.iaload, 1) := by decide +kernel
theorem dX9_cost_17 : decode cX9_cost 17 = .ok (.if_icmp .ge 12, 3) := by decide +kernel
theorem dX9_cost_20 : decode cX9_cost 20 = .ok (.aload_n 0, 1) := by decide +kernel
theorem dX9_cost_21 : decode cX9_cost 21 = .ok (.getfield 22, 3) := by decide +kernel
theorem dX9_cost_24 : decode cX9_cost 24 = .ok (.iload_n 1, 1) := by decide +kernel
theorem dX9_cost_25 : decode cX9_cost 25 = .ok (.iaload, 1) := by decide +kernel
theorem dX9_cost_26 : decode cX9_cost 26 = .ok (.goto 5, 3) := by decide +kernel
theorem dX9_cost_29 : decode cX9_cost 29 = .ok (.bipush (-4), 2) := by decide +kernel
theorem dX9_cost_31 : decode cX9_cost 31 = .ok (.ireturn, 1) := by decide +kernel
theorem dX9_bitsOf_0 : decode cX9_bitsOf 0 = .ok (.aload_n 0, 1) := by decide +kernel
theorem dX9_bitsOf_1 : decode cX9_bitsOf 1 = .ok (.iload_n 1, 1) := by decide +kernel
theorem dX9_bitsOf_2 : decode cX9_bitsOf 2 = .ok (.iconst 1, 1) := by decide +kernel
theorem dX9_bitsOf_3 : decode cX9_bitsOf 3 = .ok (.invokevirtual 93, 3) := by decide +kernel
theorem dX9_bitsOf_6 : decode cX9_bitsOf 6 = .ok (.aload_n 0, 1) := by decide +kernel
theorem dX9_bitsOf_7 : decode cX9_bitsOf 7 = .ok (.getfield 44, 3) := by decide +kernel
theorem dX9_bitsOf_10 : decode cX9_bitsOf 10 = .ok (.ireturn, 1) := by decide +kernel
theorem dX9_bitsBy_0 : decode cX9_bitsBy 0 = .ok (.iload_n 1, 1) := by decide +kernel
theorem dX9_bitsBy_1 : decode cX9_bitsBy 1 = .ok (.i2l, 1) := by decide +kernel
theorem dX9_bitsBy_2 : decode cX9_bitsBy 2 = .ok (.lconst 1, 1) := by decide +kernel
theorem dX9_bitsBy_3 : decode cX9_bitsBy 3 = .ok (.ldc2_w 117, 3) := by decide +kernel
theorem dX9_bitsBy_6 : decode cX9_bitsBy 6 = .ok (.invokestatic 102, 3) := by decide +kernel
theorem dX9_bitsBy_9 : decode cX9_bitsBy 9 = .ok (.ifCond .eq 11, 3) := by decide +kernel
theorem dX9_bitsBy_12 : decode cX9_bitsBy 12 = .ok (.aload_n 0, 1) := by decide +kernel
theorem dX9_bitsBy_13 : decode cX9_bitsBy 13 = .ok (.iload_n 1, 1) := by decide +kernel
theorem dX9_bitsBy_14 : decode cX9_bitsBy 14 = .ok (.invokevirtual 139, 3) := by decide +kernel
theorem dX9_bitsBy_17 : decode cX9_bitsBy 17 = .ok (.goto 4, 3) := by decide +kernel
theorem dX9_bitsBy_20 : decode cX9_bitsBy 20 = .ok (.iconst (-1), 1) := by decide +kernel
theorem dX9_bitsBy_21 : decode cX9_bitsBy 21 = .ok (.ireturn, 1) := by decide +kernel
theorem dX9_bestPace_0 : decode cX9_bestPace 0 = .ok (.iconst 1, 1) := by decide +kernel
theorem dX9_bestPace_1 : decode cX9_bestPace 1 = .ok (.istore_n 1, 1) := by decide +kernel
theorem dX9_bestPace_2 : decode cX9_bestPace 2 = .ok (.aload_n 0, 1) := by decide +kernel
theorem dX9_bestPace_3 : decode cX9_bestPace 3 = .ok (.iconst 1, 1) := by decide +kernel
theorem dX9_bestPace_4 : decode cX9_bestPace 4 = .ok (.invokevirtual 139, 3) := by decide +kernel
theorem dX9_bestPace_7 : decode cX9_bestPace 7 = .ok (.istore_n 2, 1) := by decide +kernel
theorem dX9_bestPace_8 : decode cX9_bestPace 8 = .ok (.iconst 2, 1) := by decide +kernel
theorem dX9_bestPace_9 : decode cX9_bestPace 9 = .ok (.istore_n 3, 1) := by decide +kernel
theorem dX9_bestPace_10 : decode cX9_bestPace 10 = .ok (.iload_n 3, 1) := by decide +kernel
theorem dX9_bestPace_11 : decode cX9_bestPace 11 = .ok (.bipush 64, 2) := by decide +kernel
theorem dX9_bestPace_13 : decode cX9_bestPace 13 = .ok (.if_icmp .gt 41, 3) := by decide +kernel
theorem dX9_bestPace_16 : decode cX9_bestPace 16 = .ok (.aload_n 0, 1) := by decide +kernel
theorem dX9_bestPace_17 : decode cX9_bestPace 17 = .ok (.iload_n 3, 1) := by decide +kernel
theorem dX9_bestPace_18 : decode cX9_bestPace 18 = .ok (.invokevirtual 139, 3) := by decide +kernel
theorem dX9_bestPace_21 : decode cX9_bestPace 21 = .ok (.istore 4, 2) := by decide +kernel
theorem dX9_bestPace_23 : decode cX9_bestPace 23 = .ok (.iload 4, 2) := by decide +kernel
theorem dX9_bestPace_25 : decode cX9_bestPace 25 = .ok (.iload_n 2, 1) := by decide +kernel
theorem dX9_bestPace_26 : decode cX9_bestPace 26 = .ok (.if_icmp .ge 7, 3) := by decide +kernel
theorem dX9_bestPace_29 : decode cX9_bestPace 29 = .ok (.iload_n 3, 1) := by decide +kernel
theorem dX9_bestPace_30 : decode cX9_bestPace 30 = .ok (.goto 4, 3) := by decide +kernel
theorem dX9_bestPace_33 : decode cX9_bestPace 33 = .ok (.iload_n 1, 1) := by decide +kernel
theorem dX9_bestPace_34 : decode cX9_bestPace 34 = .ok (.istore_n 1, 1) := by decide +kernel
theorem dX9_bestPace_35 : decode cX9_bestPace 35 = .ok (.iload 4, 2) := by decide +kernel
theorem dX9_bestPace_37 : decode cX9_bestPace 37 = .ok (.iload_n 2, 1) := by decide +kernel
theorem dX9_bestPace_38 : decode cX9_bestPace 38 = .ok (.if_icmp .ge 8, 3) := by decide +kernel
theorem dX9_bestPace_41 : decode cX9_bestPace 41 = .ok (.iload 4, 2) := by decide +kernel
theorem dX9_bestPace_43 : decode cX9_bestPace 43 = .ok (.goto 4, 3) := by decide +kernel
theorem dX9_bestPace_46 : decode cX9_bestPace 46 = .ok (.iload_n 2, 1) := by decide +kernel
theorem dX9_bestPace_47 : decode cX9_bestPace 47 = .ok (.istore_n 2, 1) := by decide +kernel
theorem dX9_bestPace_48 : decode cX9_bestPace 48 = .ok (.iinc 3 1, 3) := by decide +kernel
theorem dX9_bestPace_51 : decode cX9_bestPace 51 = .ok (.goto (-41), 3) := by decide +kernel
theorem dX9_bestPace_54 : decode cX9_bestPace 54 = .ok (.iload_n 1, 1) := by decide +kernel
theorem dX9_bestPace_55 : decode cX9_bestPace 55 = .ok (.ireturn, 1) := by decide +kernel
theorem dX9_takes_0 : decode cX9_takes 0 = .ok (.aload_n 0, 1) := by decide +kernel
theorem dX9_takes_1 : decode cX9_takes 1 = .ok (.iconst 2, 1) := by decide +kernel
theorem dX9_takes_2 : decode cX9_takes 2 = .ok (.aload_n 0, 1) := by decide +kernel
theorem dX9_takes_3 : decode cX9_takes 3 = .ok (.getfield 142, 3) := by decide +kernel
theorem dX9_takes_6 : decode cX9_takes 6 = .ok (.imul, 1) := by decide +kernel
theorem dX9_takes_7 : decode cX9_takes 7 = .ok (.aload_n 0, 1) := by decide +kernel
theorem dX9_takes_8 : decode cX9_takes 8 = .ok (.getfield 145, 3) := by decide +kernel
theorem dX9_takes_11 : decode cX9_takes 11 = .ok (.aload_n 0, 1) := by decide +kernel
theorem dX9_takes_12 : decode cX9_takes 12 = .ok (.getfield 148, 3) := by decide +kernel
theorem dX9_takes_15 : decode cX9_takes 15 = .ok (.if_icmp .ge 15, 3) := by decide +kernel
theorem dX9_takes_18 : decode cX9_takes 18 = .ok (.aload_n 0, 1) := by decide +kernel
theorem dX9_takes_19 : decode cX9_takes 19 = .ok (.getfield 25, 3) := by decide +kernel
theorem dX9_takes_22 : decode cX9_takes 22 = .ok (.aload_n 0, 1) := by decide +kernel
theorem dX9_takes_23 : decode cX9_takes 23 = .ok (.getfield 145, 3) := by decide +kernel
theorem dX9_takes_26 : decode cX9_takes 26 = .ok (.iaload, 1) := by decide +kernel
theorem dX9_takes_27 : decode cX9_takes 27 = .ok (.goto 4, 3) := by decide +kernel
theorem dX9_takes_30 : decode cX9_takes 30 = .ok (.iconst 0, 1) := by decide +kernel
theorem dX9_takes_31 : decode cX9_takes 31 = .ok (.iadd, 1) := by decide +kernel
theorem dX9_takes_32 : decode cX9_takes 32 = .ok (.putfield 142, 3) := by decide +kernel
theorem dX9_takes_35 : decode cX9_takes 35 = .ok (.aload_n 0, 1) := by decide +kernel
theorem dX9_takes_36 : decode cX9_takes 36 = .ok (.dup, 1) := by decide +kernel
theorem dX9_takes_37 : decode cX9_takes 37 = .ok (.getfield 145, 3) := by decide +kernel
theorem dX9_takes_40 : decode cX9_takes 40 = .ok (.iconst 1, 1) := by decide +kernel
theorem dX9_takes_41 : decode cX9_takes 41 = .ok (.iadd, 1) := by decide +kernel
theorem dX9_takes_42 : decode cX9_takes 42 = .ok (.putfield 145, 3) := by decide +kernel
theorem dX9_takes_45 : decode cX9_takes 45 = .ok (.return_, 1) := by decide +kernel
theorem dX9_letterAt_0 : decode cX9_letterAt 0 = .ok (.aload_n 0, 1) := by decide +kernel
theorem dX9_letterAt_1 : decode cX9_letterAt 1 = .ok (.getfield 50, 3) := by decide +kernel
theorem dX9_letterAt_4 : decode cX9_letterAt 4 = .ok (.aload_n 0, 1) := by decide +kernel
theorem dX9_letterAt_5 : decode cX9_letterAt 5 = .ok (.getfield 53, 3) := by decide +kernel
theorem dX9_letterAt_8 : decode cX9_letterAt 8 = .ok (.isub, 1) := by decide +kernel
theorem dX9_letterAt_9 : decode cX9_letterAt 9 = .ok (.iconst 1, 1) := by decide +kernel
theorem dX9_letterAt_10 : decode cX9_letterAt 10 = .ok (.iadd, 1) := by decide +kernel
theorem dX9_letterAt_11 : decode cX9_letterAt 11 = .ok (.istore_n 1, 1) := by decide +kernel
theorem dX9_letterAt_12 : decode cX9_letterAt 12 = .ok (.aload_n 0, 1) := by decide +kernel
theorem dX9_letterAt_13 : decode cX9_letterAt 13 = .ok (.getfield 142, 3) := by decide +kernel
theorem dX9_letterAt_16 : decode cX9_letterAt 16 = .ok (.aload_n 0, 1) := by decide +kernel
theorem dX9_letterAt_17 : decode cX9_letterAt 17 = .ok (.getfield 53, 3) := by decide +kernel
theorem dX9_letterAt_20 : decode cX9_letterAt 20 = .ok (.isub, 1) := by decide +kernel
theorem dX9_letterAt_21 : decode cX9_letterAt 21 = .ok (.iconst 1, 1) := by decide +kernel
theorem dX9_letterAt_22 : decode cX9_letterAt 22 = .ok (.iadd, 1) := by decide +kernel
theorem dX9_letterAt_23 : decode cX9_letterAt 23 = .ok (.aload_n 0, 1) := by decide +kernel
theorem dX9_letterAt_24 : decode cX9_letterAt 24 = .ok (.getfield 38, 3) := by decide +kernel
theorem dX9_letterAt_27 : decode cX9_letterAt 27 = .ok (.imul, 1) := by decide +kernel
theorem dX9_letterAt_28 : decode cX9_letterAt 28 = .ok (.iconst 1, 1) := by decide +kernel
theorem dX9_letterAt_29 : decode cX9_letterAt 29 = .ok (.isub, 1) := by decide +kernel
theorem dX9_letterAt_30 : decode cX9_letterAt 30 = .ok (.iload_n 1, 1) := by decide +kernel
theorem dX9_letterAt_31 : decode cX9_letterAt 31 = .ok (.idiv, 1) := by decide +kernel
theorem dX9_letterAt_32 : decode cX9_letterAt 32 = .ok (.istore_n 2, 1) := by decide +kernel
theorem dX9_letterAt_33 : decode cX9_letterAt 33 = .ok (.iconst 0, 1) := by decide +kernel
theorem dX9_letterAt_34 : decode cX9_letterAt 34 = .ok (.istore_n 3, 1) := by decide +kernel
theorem dX9_letterAt_35 : decode cX9_letterAt 35 = .ok (.aload_n 0, 1) := by decide +kernel
theorem dX9_letterAt_36 : decode cX9_letterAt 36 = .ok (.getfield 16, 3) := by decide +kernel
theorem dX9_letterAt_39 : decode cX9_letterAt 39 = .ok (.iconst 0, 1) := by decide +kernel
theorem dX9_letterAt_40 : decode cX9_letterAt 40 = .ok (.iaload, 1) := by decide +kernel
theorem dX9_letterAt_41 : decode cX9_letterAt 41 = .ok (.istore 4, 2) := by decide +kernel
theorem dX9_letterAt_43 : decode cX9_letterAt 43 = .ok (.iload 4, 2) := by decide +kernel
theorem dX9_letterAt_45 : decode cX9_letterAt 45 = .ok (.iload_n 2, 1) := by decide +kernel
theorem dX9_letterAt_46 : decode cX9_letterAt 46 = .ok (.if_icmp .gt 20, 3) := by decide +kernel
theorem dX9_letterAt_49 : decode cX9_letterAt 49 = .ok (.iinc 3 1, 3) := by decide +kernel
theorem dX9_letterAt_52 : decode cX9_letterAt 52 = .ok (.iload 4, 2) := by decide +kernel
theorem dX9_letterAt_54 : decode cX9_letterAt 54 = .ok (.aload_n 0, 1) := by decide +kernel
theorem dX9_letterAt_55 : decode cX9_letterAt 55 = .ok (.getfield 16, 3) := by decide +kernel
theorem dX9_letterAt_58 : decode cX9_letterAt 58 = .ok (.iload_n 3, 1) := by decide +kernel
theorem dX9_letterAt_59 : decode cX9_letterAt 59 = .ok (.iaload, 1) := by decide +kernel
theorem dX9_letterAt_60 : decode cX9_letterAt 60 = .ok (.iadd, 1) := by decide +kernel
theorem dX9_letterAt_61 : decode cX9_letterAt 61 = .ok (.istore 4, 2) := by decide +kernel
theorem dX9_letterAt_63 : decode cX9_letterAt 63 = .ok (.goto (-20), 3) := by decide +kernel
theorem dX9_letterAt_66 : decode cX9_letterAt 66 = .ok (.iload_n 3, 1) := by decide +kernel
theorem dX9_letterAt_67 : decode cX9_letterAt 67 = .ok (.ireturn, 1) := by decide +kernel
theorem dX9_reads_0 : decode cX9_reads 0 = .ok (.aload_n 0, 1) := by decide +kernel
theorem dX9_reads_1 : decode cX9_reads 1 = .ok (.invokevirtual 83, 3) := by decide +kernel
theorem dX9_reads_4 : decode cX9_reads 4 = .ok (.aload_n 0, 1) := by decide +kernel
theorem dX9_reads_5 : decode cX9_reads 5 = .ok (.iconst 0, 1) := by decide +kernel
theorem dX9_reads_6 : decode cX9_reads 6 = .ok (.putfield 142, 3) := by decide +kernel
theorem dX9_reads_9 : decode cX9_reads 9 = .ok (.aload_n 0, 1) := by decide +kernel
theorem dX9_reads_10 : decode cX9_reads 10 = .ok (.iconst 0, 1) := by decide +kernel
theorem dX9_reads_11 : decode cX9_reads 11 = .ok (.putfield 145, 3) := by decide +kernel
theorem dX9_reads_14 : decode cX9_reads 14 = .ok (.aload_n 0, 1) := by decide +kernel
theorem dX9_reads_15 : decode cX9_reads 15 = .ok (.iconst 0, 1) := by decide +kernel
theorem dX9_reads_16 : decode cX9_reads 16 = .ok (.putfield 151, 3) := by decide +kernel
theorem dX9_reads_19 : decode cX9_reads 19 = .ok (.iconst 0, 1) := by decide +kernel
theorem dX9_reads_20 : decode cX9_reads 20 = .ok (.istore_n 1, 1) := by decide +kernel
theorem dX9_reads_21 : decode cX9_reads 21 = .ok (.iload_n 1, 1) := by decide +kernel
theorem dX9_reads_22 : decode cX9_reads 22 = .ok (.bipush 16, 2) := by decide +kernel
theorem dX9_reads_24 : decode cX9_reads 24 = .ok (.if_icmp .ge 13, 3) := by decide +kernel
theorem dX9_reads_27 : decode cX9_reads 27 = .ok (.aload_n 0, 1) := by decide +kernel
theorem dX9_reads_28 : decode cX9_reads 28 = .ok (.invokevirtual 154, 3) := by decide +kernel
theorem dX9_reads_31 : decode cX9_reads 31 = .ok (.iinc 1 1, 3) := by decide +kernel
theorem dX9_reads_34 : decode cX9_reads 34 = .ok (.goto (-13), 3) := by decide +kernel
theorem dX9_reads_37 : decode cX9_reads 37 = .ok (.aload_n 0, 1) := by decide +kernel
theorem dX9_reads_38 : decode cX9_reads 38 = .ok (.invokevirtual 157, 3) := by decide +kernel
theorem dX9_reads_41 : decode cX9_reads 41 = .ok (.istore_n 1, 1) := by decide +kernel
theorem dX9_reads_42 : decode cX9_reads 42 = .ok (.iload_n 1, 1) := by decide +kernel
theorem dX9_reads_43 : decode cX9_reads 43 = .ok (.bipush 8, 2) := by decide +kernel
theorem dX9_reads_45 : decode cX9_reads 45 = .ok (.if_icmp .eq 92, 3) := by decide +kernel
theorem dX9_reads_48 : decode cX9_reads 48 = .ok (.aload_n 0, 1) := by decide +kernel
theorem dX9_reads_49 : decode cX9_reads 49 = .ok (.getfield 151, 3) := by decide +kernel
theorem dX9_reads_52 : decode cX9_reads 52 = .ok (.bipush 40, 2) := by decide +kernel
theorem dX9_reads_54 : decode cX9_reads 54 = .ok (.if_icmp .ge 83, 3) := by decide +kernel
theorem dX9_reads_57 : decode cX9_reads 57 = .ok (.aload_n 0, 1) := by decide +kernel
theorem dX9_reads_58 : decode cX9_reads 58 = .ok (.getfield 28, 3) := by decide +kernel
theorem dX9_reads_61 : decode cX9_reads 61 = .ok (.aload_n 0, 1) := by decide +kernel
theorem dX9_reads_62 : decode cX9_reads 62 = .ok (.getfield 151, 3) := by decide +kernel
theorem dX9_reads_65 : decode cX9_reads 65 = .ok (.iload_n 1, 1) := by decide +kernel
theorem dX9_reads_66 : decode cX9_reads 66 = .ok (.iastore, 1) := by decide +kernel
theorem dX9_reads_67 : decode cX9_reads 67 = .ok (.aload_n 0, 1) := by decide +kernel
theorem dX9_reads_68 : decode cX9_reads 68 = .ok (.dup, 1) := by decide +kernel
theorem dX9_reads_69 : decode cX9_reads 69 = .ok (.getfield 151, 3) := by decide +kernel
theorem dX9_reads_72 : decode cX9_reads 72 = .ok (.iconst 1, 1) := by decide +kernel
theorem dX9_reads_73 : decode cX9_reads 73 = .ok (.iadd, 1) := by decide +kernel
theorem dX9_reads_74 : decode cX9_reads 74 = .ok (.putfield 151, 3) := by decide +kernel
theorem dX9_reads_77 : decode cX9_reads 77 = .ok (.aload_n 0, 1) := by decide +kernel
theorem dX9_reads_78 : decode cX9_reads 78 = .ok (.iload_n 1, 1) := by decide +kernel
theorem dX9_reads_79 : decode cX9_reads 79 = .ok (.invokevirtual 62, 3) := by decide +kernel
theorem dX9_reads_82 : decode cX9_reads 82 = .ok (.aload_n 0, 1) := by decide +kernel
theorem dX9_reads_83 : decode cX9_reads 83 = .ok (.invokevirtual 66, 3) := by decide +kernel
theorem dX9_reads_86 : decode cX9_reads 86 = .ok (.istore_n 2, 1) := by decide +kernel
theorem dX9_reads_87 : decode cX9_reads 87 = .ok (.iload_n 2, 1) := by decide +kernel
theorem dX9_reads_88 : decode cX9_reads 88 = .ok (.ifCond .lt 30, 3) := by decide +kernel
theorem dX9_reads_91 : decode cX9_reads 91 = .ok (.aload_n 0, 1) := by decide +kernel
theorem dX9_reads_92 : decode cX9_reads 92 = .ok (.dup, 1) := by decide +kernel
theorem dX9_reads_93 : decode cX9_reads 93 = .ok (.getfield 142, 3) := by decide +kernel
theorem dX9_reads_96 : decode cX9_reads 96 = .ok (.iload_n 2, 1) := by decide +kernel
theorem dX9_reads_97 : decode cX9_reads 97 = .ok (.isub, 1) := by decide +kernel
theorem dX9_reads_98 : decode cX9_reads 98 = .ok (.putfield 142, 3) := by decide +kernel
theorem dX9_reads_101 : decode cX9_reads 101 = .ok (.aload_n 0, 1) := by decide +kernel
theorem dX9_reads_102 : decode cX9_reads 102 = .ok (.invokevirtual 154, 3) := by decide +kernel
theorem dX9_reads_105 : decode cX9_reads 105 = .ok (.aload_n 0, 1) := by decide +kernel
theorem dX9_reads_106 : decode cX9_reads 106 = .ok (.iload_n 2, 1) := by decide +kernel
theorem dX9_reads_107 : decode cX9_reads 107 = .ok (.invokevirtual 73, 3) := by decide +kernel
theorem dX9_reads_110 : decode cX9_reads 110 = .ok (.aload_n 0, 1) := by decide +kernel
theorem dX9_reads_111 : decode cX9_reads 111 = .ok (.invokevirtual 66, 3) := by decide +kernel
theorem dX9_reads_114 : decode cX9_reads 114 = .ok (.istore_n 2, 1) := by decide +kernel
theorem dX9_reads_115 : decode cX9_reads 115 = .ok (.goto (-28), 3) := by decide +kernel
theorem dX9_reads_118 : decode cX9_reads 118 = .ok (.aload_n 0, 1) := by decide +kernel
theorem dX9_reads_119 : decode cX9_reads 119 = .ok (.iload_n 1, 1) := by decide +kernel
theorem dX9_reads_120 : decode cX9_reads 120 = .ok (.aload_n 0, 1) := by decide +kernel
theorem dX9_reads_121 : decode cX9_reads 121 = .ok (.getfield 7, 3) := by decide +kernel
theorem dX9_reads_124 : decode cX9_reads 124 = .ok (.iconst 0, 1) := by decide +kernel
theorem dX9_reads_125 : decode cX9_reads 125 = .ok (.iaload, 1) := by decide +kernel
theorem dX9_reads_126 : decode cX9_reads 126 = .ok (.invokevirtual 86, 3) := by decide +kernel
theorem dX9_reads_129 : decode cX9_reads 129 = .ok (.aload_n 0, 1) := by decide +kernel
theorem dX9_reads_130 : decode cX9_reads 130 = .ok (.invokevirtual 157, 3) := by decide +kernel
theorem dX9_reads_133 : decode cX9_reads 133 = .ok (.istore_n 1, 1) := by decide +kernel
theorem dX9_reads_134 : decode cX9_reads 134 = .ok (.goto (-92), 3) := by decide +kernel
theorem dX9_reads_137 : decode cX9_reads 137 = .ok (.iload_n 1, 1) := by decide +kernel
theorem dX9_reads_138 : decode cX9_reads 138 = .ok (.bipush 8, 2) := by decide +kernel
theorem dX9_reads_140 : decode cX9_reads 140 = .ok (.if_icmp .ne 7, 3) := by decide +kernel
theorem dX9_reads_143 : decode cX9_reads 143 = .ok (.iconst 1, 1) := by decide +kernel
theorem dX9_reads_144 : decode cX9_reads 144 = .ok (.goto 4, 3) := by decide +kernel
theorem dX9_reads_147 : decode cX9_reads 147 = .ok (.iconst 0, 1) := by decide +kernel
theorem dX9_reads_148 : decode cX9_reads 148 = .ok (.ireturn, 1) := by decide +kernel
theorem dX9_readBack_0 : decode cX9_readBack 0 = .ok (.iload_n 1, 1) := by decide +kernel
theorem dX9_readBack_1 : decode cX9_readBack 1 = .ok (.i2l, 1) := by decide +kernel
theorem dX9_readBack_2 : decode cX9_readBack 2 = .ok (.lconst 0, 1) := by decide +kernel
theorem dX9_readBack_3 : decode cX9_readBack 3 = .ok (.ldc2_w 160, 3) := by decide +kernel
theorem dX9_readBack_6 : decode cX9_readBack 6 = .ok (.invokestatic 102, 3) := by decide +kernel
theorem dX9_readBack_9 : decode cX9_readBack 9 = .ok (.ifCond .ne 5, 3) := by decide +kernel
theorem dX9_readBack_12 : decode cX9_readBack 12 = .ok (.iconst (-1), 1) := by decide +kernel
theorem dX9_readBack_13 : decode cX9_readBack 13 = .ok (.ireturn, 1) := by decide +kernel
theorem dX9_readBack_14 : decode cX9_readBack 14 = .ok (.aload_n 0, 1) := by decide +kernel
theorem dX9_readBack_15 : decode cX9_readBack 15 = .ok (.aload_n 0, 1) := by decide +kernel
theorem dX9_readBack_16 : decode cX9_readBack 16 = .ok (.invokevirtual 109, 3) := by decide +kernel
theorem dX9_readBack_19 : decode cX9_readBack 19 = .ok (.putfield 148, 3) := by decide +kernel
theorem dX9_readBack_22 : decode cX9_readBack 22 = .ok (.iconst 0, 1) := by decide +kernel
theorem dX9_readBack_23 : decode cX9_readBack 23 = .ok (.istore_n 2, 1) := by decide +kernel
theorem dX9_readBack_24 : decode cX9_readBack 24 = .ok (.iload_n 2, 1) := by decide +kernel
theorem dX9_readBack_25 : decode cX9_readBack 25 = .ok (.aload_n 0, 1) := by decide +kernel
theorem dX9_readBack_26 : decode cX9_readBack 26 = .ok (.getfield 148, 3) := by decide +kernel
theorem dX9_readBack_29 : decode cX9_readBack 29 = .ok (.if_icmp .ge 21, 3) := by decide +kernel
theorem dX9_readBack_32 : decode cX9_readBack 32 = .ok (.aload_n 0, 1) := by decide +kernel
theorem dX9_readBack_33 : decode cX9_readBack 33 = .ok (.getfield 25, 3) := by decide +kernel
theorem dX9_readBack_36 : decode cX9_readBack 36 = .ok (.iload_n 2, 1) := by decide +kernel
theorem dX9_readBack_37 : decode cX9_readBack 37 = .ok (.aload_n 0, 1) := by decide +kernel
theorem dX9_readBack_38 : decode cX9_readBack 38 = .ok (.getfield 19, 3) := by decide +kernel
theorem dX9_readBack_41 : decode cX9_readBack 41 = .ok (.iload_n 2, 1) := by decide +kernel
theorem dX9_readBack_42 : decode cX9_readBack 42 = .ok (.iaload, 1) := by decide +kernel
theorem dX9_readBack_43 : decode cX9_readBack 43 = .ok (.iastore, 1) := by decide +kernel
theorem dX9_readBack_44 : decode cX9_readBack 44 = .ok (.iinc 2 1, 3) := by decide +kernel
theorem dX9_readBack_47 : decode cX9_readBack 47 = .ok (.goto (-23), 3) := by decide +kernel
theorem dX9_readBack_50 : decode cX9_readBack 50 = .ok (.aload_n 0, 1) := by decide +kernel
theorem dX9_readBack_51 : decode cX9_readBack 51 = .ok (.invokevirtual 162, 3) := by decide +kernel
theorem dX9_readBack_54 : decode cX9_readBack 54 = .ok (.istore_n 2, 1) := by decide +kernel
theorem dX9_readBack_55 : decode cX9_readBack 55 = .ok (.iconst 0, 1) := by decide +kernel
theorem dX9_readBack_56 : decode cX9_readBack 56 = .ok (.istore_n 3, 1) := by decide +kernel
theorem dX9_readBack_57 : decode cX9_readBack 57 = .ok (.iload_n 3, 1) := by decide +kernel
theorem dX9_readBack_58 : decode cX9_readBack 58 = .ok (.aload_n 0, 1) := by decide +kernel
theorem dX9_readBack_59 : decode cX9_readBack 59 = .ok (.getfield 151, 3) := by decide +kernel
theorem dX9_readBack_62 : decode cX9_readBack 62 = .ok (.if_icmp .ge 36, 3) := by decide +kernel
theorem dX9_readBack_65 : decode cX9_readBack 65 = .ok (.iload_n 3, 1) := by decide +kernel
theorem dX9_readBack_66 : decode cX9_readBack 66 = .ok (.aload_n 0, 1) := by decide +kernel
theorem dX9_readBack_67 : decode cX9_readBack 67 = .ok (.getfield 7, 3) := by decide +kernel
theorem dX9_readBack_70 : decode cX9_readBack 70 = .ok (.iconst 2, 1) := by decide +kernel
theorem dX9_readBack_71 : decode cX9_readBack 71 = .ok (.iaload, 1) := by decide +kernel
theorem dX9_readBack_72 : decode cX9_readBack 72 = .ok (.if_icmp .ge 26, 3) := by decide +kernel
theorem dX9_readBack_75 : decode cX9_readBack 75 = .ok (.aload_n 0, 1) := by decide +kernel
theorem dX9_readBack_76 : decode cX9_readBack 76 = .ok (.getfield 28, 3) := by decide +kernel
theorem dX9_readBack_79 : decode cX9_readBack 79 = .ok (.iload_n 3, 1) := by decide +kernel
theorem dX9_readBack_80 : decode cX9_readBack 80 = .ok (.iaload, 1) := by decide +kernel
theorem dX9_readBack_81 : decode cX9_readBack 81 = .ok (.aload_n 0, 1) := by decide +kernel
theorem dX9_readBack_82 : decode cX9_readBack 82 = .ok (.getfield 7, 3) := by decide +kernel
theorem dX9_readBack_85 : decode cX9_readBack 85 = .ok (.iconst 4, 1) := by decide +kernel
theorem dX9_readBack_86 : decode cX9_readBack 86 = .ok (.iload_n 3, 1) := by decide +kernel
theorem dX9_readBack_87 : decode cX9_readBack 87 = .ok (.iadd, 1) := by decide +kernel
theorem dX9_readBack_88 : decode cX9_readBack 88 = .ok (.iaload, 1) := by decide +kernel
theorem dX9_readBack_89 : decode cX9_readBack 89 = .ok (.if_icmp .ne 9, 3) := by decide +kernel
theorem dX9_readBack_92 : decode cX9_readBack 92 = .ok (.iinc 3 1, 3) := by decide +kernel
theorem dX9_readBack_95 : decode cX9_readBack 95 = .ok (.goto (-38), 3) := by decide +kernel
theorem dX9_readBack_98 : decode cX9_readBack 98 = .ok (.iload_n 1, 1) := by decide +kernel
theorem dX9_readBack_99 : decode cX9_readBack 99 = .ok (.ifCond .ne 10, 3) := by decide +kernel
theorem dX9_readBack_102 : decode cX9_readBack 102 = .ok (.aload_n 0, 1) := by decide +kernel
theorem dX9_readBack_103 : decode cX9_readBack 103 = .ok (.getfield 151, 3) := by decide +kernel
theorem dX9_readBack_106 : decode cX9_readBack 106 = .ok (.goto 21, 3) := by decide +kernel
theorem dX9_readBack_109 : decode cX9_readBack 109 = .ok (.iload_n 1, 1) := by decide +kernel
theorem dX9_readBack_110 : decode cX9_readBack 110 = .ok (.iconst 1, 1) := by decide +kernel
theorem dX9_readBack_111 : decode cX9_readBack 111 = .ok (.if_icmp .ne 15, 3) := by decide +kernel
theorem dX9_readBack_114 : decode cX9_readBack 114 = .ok (.iload_n 2, 1) := by decide +kernel
theorem dX9_readBack_115 : decode cX9_readBack 115 = .ok (.ifCond .eq 7, 3) := by decide +kernel
theorem dX9_readBack_118 : decode cX9_readBack 118 = .ok (.iconst 1, 1) := by decide +kernel
theorem dX9_readBack_119 : decode cX9_readBack 119 = .ok (.goto 8, 3) := by decide +kernel
theorem dX9_readBack_122 : decode cX9_readBack 122 = .ok (.iconst 0, 1) := by decide +kernel
theorem dX9_readBack_123 : decode cX9_readBack 123 = .ok (.goto 4, 3) := by decide +kernel
theorem dX9_readBack_126 : decode cX9_readBack 126 = .ok (.iload_n 3, 1) := by decide +kernel
theorem dX9_readBack_127 : decode cX9_readBack 127 = .ok (.ireturn, 1) := by decide +kernel
theorem dX9_undo_0 : decode cX9_undo 0 = .ok (.aload_n 0, 1) := by decide +kernel
theorem dX9_undo_1 : decode cX9_undo 1 = .ok (.getfield 34, 3) := by decide +kernel
theorem dX9_undo_4 : decode cX9_undo 4 = .ok (.ifCond .ne 6, 3) := by decide +kernel
theorem dX9_undo_7 : decode cX9_undo 7 = .ok (.bipush (-2), 2) := by decide +kernel
theorem dX9_undo_9 : decode cX9_undo 9 = .ok (.ireturn, 1) := by decide +kernel
theorem dX9_undo_10 : decode cX9_undo 10 = .ok (.aload_n 0, 1) := by decide +kernel
theorem dX9_undo_11 : decode cX9_undo 11 = .ok (.dup, 1) := by decide +kernel
theorem dX9_undo_12 : decode cX9_undo 12 = .ok (.getfield 34, 3) := by decide +kernel
theorem dX9_undo_15 : decode cX9_undo 15 = .ok (.iconst 1, 1) := by decide +kernel
theorem dX9_undo_16 : decode cX9_undo 16 = .ok (.isub, 1) := by decide +kernel
theorem dX9_undo_17 : decode cX9_undo 17 = .ok (.putfield 34, 3) := by decide +kernel
theorem dX9_undo_20 : decode cX9_undo 20 = .ok (.iconst 0, 1) := by decide +kernel
theorem dX9_undo_21 : decode cX9_undo 21 = .ok (.istore_n 1, 1) := by decide +kernel
theorem dX9_undo_22 : decode cX9_undo 22 = .ok (.iload_n 1, 1) := by decide +kernel
theorem dX9_undo_23 : decode cX9_undo 23 = .ok (.bipush 44, 2) := by decide +kernel
theorem dX9_undo_25 : decode cX9_undo 25 = .ok (.if_icmp .ge 29, 3) := by decide +kernel
theorem dX9_undo_28 : decode cX9_undo 28 = .ok (.aload_n 0, 1) := by decide +kernel
theorem dX9_undo_29 : decode cX9_undo 29 = .ok (.getfield 7, 3) := by decide +kernel
theorem dX9_undo_32 : decode cX9_undo 32 = .ok (.iload_n 1, 1) := by decide +kernel
theorem dX9_undo_33 : decode cX9_undo 33 = .ok (.aload_n 0, 1) := by decide +kernel
theorem dX9_undo_34 : decode cX9_undo 34 = .ok (.getfield 13, 3) := by decide +kernel
theorem dX9_undo_37 : decode cX9_undo 37 = .ok (.bipush 44, 2) := by decide +kernel
theorem dX9_undo_39 : decode cX9_undo 39 = .ok (.aload_n 0, 1) := by decide +kernel
theorem dX9_undo_40 : decode cX9_undo 40 = .ok (.getfield 34, 3) := by decide +kernel
theorem dX9_undo_43 : decode cX9_undo 43 = .ok (.imul, 1) := by decide +kernel
theorem dX9_undo_44 : decode cX9_undo 44 = .ok (.iload_n 1, 1) := by decide +kernel
theorem dX9_undo_45 : decode cX9_undo 45 = .ok (.iadd, 1) := by decide +kernel
theorem dX9_undo_46 : decode cX9_undo 46 = .ok (.iaload, 1) := by decide +kernel
theorem dX9_undo_47 : decode cX9_undo 47 = .ok (.iastore, 1) := by decide +kernel
theorem dX9_undo_48 : decode cX9_undo 48 = .ok (.iinc 1 1, 3) := by decide +kernel
theorem dX9_undo_51 : decode cX9_undo 51 = .ok (.goto (-29), 3) := by decide +kernel
theorem dX9_undo_54 : decode cX9_undo 54 = .ok (.aload_n 0, 1) := by decide +kernel
theorem dX9_undo_55 : decode cX9_undo 55 = .ok (.getfield 34, 3) := by decide +kernel
theorem dX9_undo_58 : decode cX9_undo 58 = .ok (.ireturn, 1) := by decide +kernel
theorem dX9_type_0 : decode cX9_type 0 = .ok (.iload_n 1, 1) := by decide +kernel
theorem dX9_type_1 : decode cX9_type 1 = .ok (.i2l, 1) := by decide +kernel
theorem dX9_type_2 : decode cX9_type 2 = .ok (.ldc2_w 119, 3) := by decide +kernel
theorem dX9_type_5 : decode cX9_type 5 = .ok (.ldc2_w 166, 3) := by decide +kernel
theorem dX9_type_8 : decode cX9_type 8 = .ok (.invokestatic 102, 3) := by decide +kernel
theorem dX9_type_11 : decode cX9_type 11 = .ok (.ifCond .ne 5, 3) := by decide +kernel
theorem dX9_type_14 : decode cX9_type 14 = .ok (.iconst (-1), 1) := by decide +kernel
theorem dX9_type_15 : decode cX9_type 15 = .ok (.ireturn, 1) := by decide +kernel
theorem dX9_type_16 : decode cX9_type 16 = .ok (.aload_n 0, 1) := by decide +kernel
theorem dX9_type_17 : decode cX9_type 17 = .ok (.getfield 133, 3) := by decide +kernel
theorem dX9_type_20 : decode cX9_type 20 = .ok (.bipush 120, 2) := by decide +kernel
theorem dX9_type_22 : decode cX9_type 22 = .ok (.if_icmp .ne 6, 3) := by decide +kernel
theorem dX9_type_25 : decode cX9_type 25 = .ok (.bipush (-3), 2) := by decide +kernel
theorem dX9_type_27 : decode cX9_type 27 = .ok (.ireturn, 1) := by decide +kernel
theorem dX9_type_28 : decode cX9_type 28 = .ok (.aload_n 0, 1) := by decide +kernel
theorem dX9_type_29 : decode cX9_type 29 = .ok (.getfield 31, 3) := by decide +kernel
theorem dX9_type_32 : decode cX9_type 32 = .ok (.aload_n 0, 1) := by decide +kernel
theorem dX9_type_33 : decode cX9_type 33 = .ok (.getfield 133, 3) := by decide +kernel
theorem dX9_type_36 : decode cX9_type 36 = .ok (.iload_n 1, 1) := by decide +kernel
theorem dX9_type_37 : decode cX9_type 37 = .ok (.iastore, 1) := by decide +kernel
theorem dX9_type_38 : decode cX9_type 38 = .ok (.aload_n 0, 1) := by decide +kernel
theorem dX9_type_39 : decode cX9_type 39 = .ok (.dup, 1) := by decide +kernel
theorem dX9_type_40 : decode cX9_type 40 = .ok (.getfield 133, 3) := by decide +kernel
theorem dX9_type_43 : decode cX9_type 43 = .ok (.iconst 1, 1) := by decide +kernel
theorem dX9_type_44 : decode cX9_type 44 = .ok (.iadd, 1) := by decide +kernel
theorem dX9_type_45 : decode cX9_type 45 = .ok (.putfield 133, 3) := by decide +kernel
theorem dX9_type_48 : decode cX9_type 48 = .ok (.aload_n 0, 1) := by decide +kernel
theorem dX9_type_49 : decode cX9_type 49 = .ok (.getfield 133, 3) := by decide +kernel
theorem dX9_type_52 : decode cX9_type 52 = .ok (.ireturn, 1) := by decide +kernel
theorem dX9_clearText_0 : decode cX9_clearText 0 = .ok (.aload_n 0, 1) := by decide +kernel
theorem dX9_clearText_1 : decode cX9_clearText 1 = .ok (.getfield 133, 3) := by decide +kernel
theorem dX9_clearText_4 : decode cX9_clearText 4 = .ok (.istore_n 1, 1) := by decide +kernel
theorem dX9_clearText_5 : decode cX9_clearText 5 = .ok (.aload_n 0, 1) := by decide +kernel
theorem dX9_clearText_6 : decode cX9_clearText 6 = .ok (.iconst 0, 1) := by decide +kernel
theorem dX9_clearText_7 : decode cX9_clearText 7 = .ok (.putfield 133, 3) := by decide +kernel
theorem dX9_clearText_10 : decode cX9_clearText 10 = .ok (.iload_n 1, 1) := by decide +kernel
theorem dX9_clearText_11 : decode cX9_clearText 11 = .ok (.ireturn, 1) := by decide +kernel
theorem dX9_write_0 : decode cX9_write 0 = .ok (.aload_n 0, 1) := by decide +kernel
theorem dX9_write_1 : decode cX9_write 1 = .ok (.invokevirtual 109, 3) := by decide +kernel
theorem dX9_write_4 : decode cX9_write 4 = .ok (.bipush 120, 2) := by decide +kernel
theorem dX9_write_6 : decode cX9_write 6 = .ok (.if_icmp .le 6, 3) := by decide +kernel
theorem dX9_write_9 : decode cX9_write 9 = .ok (.bipush (-3), 2) := by decide +kernel
theorem dX9_write_11 : decode cX9_write 11 = .ok (.ireturn, 1) := by decide +kernel
theorem dX9_write_12 : decode cX9_write 12 = .ok (.aload_n 0, 1) := by decide +kernel
theorem dX9_write_13 : decode cX9_write 13 = .ok (.aload_n 0, 1) := by decide +kernel
theorem dX9_write_14 : decode cX9_write 14 = .ok (.getfield 44, 3) := by decide +kernel
theorem dX9_write_17 : decode cX9_write 17 = .ok (.putfield 133, 3) := by decide +kernel
theorem dX9_write_20 : decode cX9_write 20 = .ok (.iconst 0, 1) := by decide +kernel
theorem dX9_write_21 : decode cX9_write 21 = .ok (.istore_n 1, 1) := by decide +kernel
theorem dX9_write_22 : decode cX9_write 22 = .ok (.iload_n 1, 1) := by decide +kernel
theorem dX9_write_23 : decode cX9_write 23 = .ok (.aload_n 0, 1) := by decide +kernel
theorem dX9_write_24 : decode cX9_write 24 = .ok (.getfield 133, 3) := by decide +kernel
theorem dX9_write_27 : decode cX9_write 27 = .ok (.if_icmp .ge 24, 3) := by decide +kernel
theorem dX9_write_30 : decode cX9_write 30 = .ok (.aload_n 0, 1) := by decide +kernel
theorem dX9_write_31 : decode cX9_write 31 = .ok (.getfield 31, 3) := by decide +kernel
theorem dX9_write_34 : decode cX9_write 34 = .ok (.iload_n 1, 1) := by decide +kernel
theorem dX9_write_35 : decode cX9_write 35 = .ok (.bipush 48, 2) := by decide +kernel
theorem dX9_write_37 : decode cX9_write 37 = .ok (.aload_n 0, 1) := by decide +kernel
theorem dX9_write_38 : decode cX9_write 38 = .ok (.getfield 19, 3) := by decide +kernel
theorem dX9_write_41 : decode cX9_write 41 = .ok (.iload_n 1, 1) := by decide +kernel
theorem dX9_write_42 : decode cX9_write 42 = .ok (.iaload, 1) := by decide +kernel
theorem dX9_write_43 : decode cX9_write 43 = .ok (.iadd, 1) := by decide +kernel
theorem dX9_write_44 : decode cX9_write 44 = .ok (.iastore, 1) := by decide +kernel
theorem dX9_write_45 : decode cX9_write 45 = .ok (.iinc 1 1, 3) := by decide +kernel
theorem dX9_write_48 : decode cX9_write 48 = .ok (.goto (-26), 3) := by decide +kernel
theorem dX9_write_51 : decode cX9_write 51 = .ok (.aload_n 0, 1) := by decide +kernel
theorem dX9_write_52 : decode cX9_write 52 = .ok (.getfield 133, 3) := by decide +kernel
theorem dX9_write_55 : decode cX9_write 55 = .ok (.ireturn, 1) := by decide +kernel
theorem dX9_reason_0 : decode cX9_reason 0 = .ok (.aload_n 0, 1) := by decide +kernel
theorem dX9_reason_1 : decode cX9_reason 1 = .ok (.iconst 0, 1) := by decide +kernel
theorem dX9_reason_2 : decode cX9_reason 2 = .ok (.putfield 168, 3) := by decide +kernel
theorem dX9_reason_5 : decode cX9_reason 5 = .ok (.aload_n 0, 1) := by decide +kernel
theorem dX9_reason_6 : decode cX9_reason 6 = .ok (.getfield 168, 3) := by decide +kernel
theorem dX9_reason_9 : decode cX9_reason 9 = .ok (.aload_n 0, 1) := by decide +kernel
theorem dX9_reason_10 : decode cX9_reason 10 = .ok (.getfield 133, 3) := by decide +kernel
theorem dX9_reason_13 : decode cX9_reason 13 = .ok (.if_icmp .ge 61, 3) := by decide +kernel
theorem dX9_reason_16 : decode cX9_reason 16 = .ok (.aload_n 0, 1) := by decide +kernel
theorem dX9_reason_17 : decode cX9_reason 17 = .ok (.getfield 31, 3) := by decide +kernel
theorem dX9_reason_20 : decode cX9_reason 20 = .ok (.aload_n 0, 1) := by decide +kernel
theorem dX9_reason_21 : decode cX9_reason 21 = .ok (.getfield 168, 3) := by decide +kernel
theorem dX9_reason_24 : decode cX9_reason 24 = .ok (.iaload, 1) := by decide +kernel
theorem dX9_reason_25 : decode cX9_reason 25 = .ok (.i2l, 1) := by decide +kernel
theorem dX9_reason_26 : decode cX9_reason 26 = .ok (.ldc2_w 171, 3) := by decide +kernel
theorem dX9_reason_29 : decode cX9_reason 29 = .ok (.ldc2_w 173, 3) := by decide +kernel
theorem dX9_reason_32 : decode cX9_reason 32 = .ok (.invokestatic 102, 3) := by decide +kernel
theorem dX9_reason_35 : decode cX9_reason 35 = .ok (.ifCond .ne 5, 3) := by decide +kernel
theorem dX9_reason_38 : decode cX9_reason 38 = .ok (.iconst 1, 1) := by decide +kernel
theorem dX9_reason_39 : decode cX9_reason 39 = .ok (.ireturn, 1) := by decide +kernel
theorem dX9_reason_40 : decode cX9_reason 40 = .ok (.aload_n 0, 1) := by decide +kernel
theorem dX9_reason_41 : decode cX9_reason 41 = .ok (.getfield 25, 3) := by decide +kernel
theorem dX9_reason_44 : decode cX9_reason 44 = .ok (.aload_n 0, 1) := by decide +kernel
theorem dX9_reason_45 : decode cX9_reason 45 = .ok (.getfield 168, 3) := by decide +kernel
theorem dX9_reason_48 : decode cX9_reason 48 = .ok (.aload_n 0, 1) := by decide +kernel
theorem dX9_reason_49 : decode cX9_reason 49 = .ok (.getfield 31, 3) := by decide +kernel
theorem dX9_reason_52 : decode cX9_reason 52 = .ok (.aload_n 0, 1) := by decide +kernel
theorem dX9_reason_53 : decode cX9_reason 53 = .ok (.getfield 168, 3) := by decide +kernel
theorem dX9_reason_56 : decode cX9_reason 56 = .ok (.iaload, 1) := by decide +kernel
theorem dX9_reason_57 : decode cX9_reason 57 = .ok (.bipush 48, 2) := by decide +kernel
theorem dX9_reason_59 : decode cX9_reason 59 = .ok (.isub, 1) := by decide +kernel
theorem dX9_reason_60 : decode cX9_reason 60 = .ok (.iastore, 1) := by decide +kernel
theorem dX9_reason_61 : decode cX9_reason 61 = .ok (.aload_n 0, 1) := by decide +kernel
theorem dX9_reason_62 : decode cX9_reason 62 = .ok (.dup, 1) := by decide +kernel
theorem dX9_reason_63 : decode cX9_reason 63 = .ok (.getfield 168, 3) := by decide +kernel
theorem dX9_reason_66 : decode cX9_reason 66 = .ok (.iconst 1, 1) := by decide +kernel
theorem dX9_reason_67 : decode cX9_reason 67 = .ok (.iadd, 1) := by decide +kernel
theorem dX9_reason_68 : decode cX9_reason 68 = .ok (.putfield 168, 3) := by decide +kernel
theorem dX9_reason_71 : decode cX9_reason 71 = .ok (.goto (-66), 3) := by decide +kernel
theorem dX9_reason_74 : decode cX9_reason 74 = .ok (.aload_n 0, 1) := by decide +kernel
theorem dX9_reason_75 : decode cX9_reason 75 = .ok (.aload_n 0, 1) := by decide +kernel
theorem dX9_reason_76 : decode cX9_reason 76 = .ok (.getfield 133, 3) := by decide +kernel
theorem dX9_reason_79 : decode cX9_reason 79 = .ok (.putfield 148, 3) := by decide +kernel
theorem dX9_reason_82 : decode cX9_reason 82 = .ok (.aload_n 0, 1) := by decide +kernel
theorem dX9_reason_83 : decode cX9_reason 83 = .ok (.invokevirtual 162, 3) := by decide +kernel
theorem dX9_reason_86 : decode cX9_reason 86 = .ok (.ifCond .ne 5, 3) := by decide +kernel
theorem dX9_reason_89 : decode cX9_reason 89 = .ok (.iconst 2, 1) := by decide +kernel
theorem dX9_reason_90 : decode cX9_reason 90 = .ok (.ireturn, 1) := by decide +kernel
theorem dX9_reason_91 : decode cX9_reason 91 = .ok (.aload_n 0, 1) := by decide +kernel
theorem dX9_reason_92 : decode cX9_reason 92 = .ok (.aload_n 0, 1) := by decide +kernel
theorem dX9_reason_93 : decode cX9_reason 93 = .ok (.getfield 145, 3) := by decide +kernel
theorem dX9_reason_96 : decode cX9_reason 96 = .ok (.putfield 168, 3) := by decide +kernel
theorem dX9_reason_99 : decode cX9_reason 99 = .ok (.aload_n 0, 1) := by decide +kernel
theorem dX9_reason_100 : decode cX9_reason 100 = .ok (.getfield 168, 3) := by decide +kernel
theorem dX9_reason_103 : decode cX9_reason 103 = .ok (.aload_n 0, 1) := by decide +kernel
theorem dX9_reason_104 : decode cX9_reason 104 = .ok (.getfield 133, 3) := by decide +kernel
theorem dX9_reason_107 : decode cX9_reason 107 = .ok (.if_icmp .ge 31, 3) := by decide +kernel
theorem dX9_reason_110 : decode cX9_reason 110 = .ok (.aload_n 0, 1) := by decide +kernel
theorem dX9_reason_111 : decode cX9_reason 111 = .ok (.getfield 25, 3) := by decide +kernel
theorem dX9_reason_114 : decode cX9_reason 114 = .ok (.aload_n 0, 1) := by decide +kernel
theorem dX9_reason_115 : decode cX9_reason 115 = .ok (.getfield 168, 3) := by decide +kernel
theorem dX9_reason_118 : decode cX9_reason 118 = .ok (.iaload, 1) := by decide +kernel
theorem dX9_reason_119 : decode cX9_reason 119 = .ok (.iconst 1, 1) := by decide +kernel
theorem dX9_reason_120 : decode cX9_reason 120 = .ok (.if_icmp .ne 5, 3) := by decide +kernel
theorem dX9_reason_123 : decode cX9_reason 123 = .ok (.iconst 3, 1) := by decide +kernel
theorem dX9_reason_124 : decode cX9_reason 124 = .ok (.ireturn, 1) := by decide +kernel
theorem dX9_reason_125 : decode cX9_reason 125 = .ok (.aload_n 0, 1) := by decide +kernel
theorem dX9_reason_126 : decode cX9_reason 126 = .ok (.dup, 1) := by decide +kernel
theorem dX9_reason_127 : decode cX9_reason 127 = .ok (.getfield 168, 3) := by decide +kernel
theorem dX9_reason_130 : decode cX9_reason 130 = .ok (.iconst 1, 1) := by decide +kernel
theorem dX9_reason_131 : decode cX9_reason 131 = .ok (.iadd, 1) := by decide +kernel
theorem dX9_reason_132 : decode cX9_reason 132 = .ok (.putfield 168, 3) := by decide +kernel
theorem dX9_reason_135 : decode cX9_reason 135 = .ok (.goto (-36), 3) := by decide +kernel
theorem dX9_reason_138 : decode cX9_reason 138 = .ok (.iconst 0, 1) := by decide +kernel
theorem dX9_reason_139 : decode cX9_reason 139 = .ok (.ireturn, 1) := by decide +kernel
theorem dX9_fault_0 : decode cX9_fault 0 = .ok (.iload_n 1, 1) := by decide +kernel
theorem dX9_fault_1 : decode cX9_fault 1 = .ok (.i2l, 1) := by decide +kernel
theorem dX9_fault_2 : decode cX9_fault 2 = .ok (.lconst 0, 1) := by decide +kernel
theorem dX9_fault_3 : decode cX9_fault 3 = .ok (.lconst 1, 1) := by decide +kernel
theorem dX9_fault_4 : decode cX9_fault 4 = .ok (.invokestatic 102, 3) := by decide +kernel
theorem dX9_fault_7 : decode cX9_fault 7 = .ok (.ifCond .ne 5, 3) := by decide +kernel
theorem dX9_fault_10 : decode cX9_fault 10 = .ok (.iconst (-1), 1) := by decide +kernel
theorem dX9_fault_11 : decode cX9_fault 11 = .ok (.ireturn, 1) := by decide +kernel
theorem dX9_fault_12 : decode cX9_fault 12 = .ok (.aload_n 0, 1) := by decide +kernel
theorem dX9_fault_13 : decode cX9_fault 13 = .ok (.invokevirtual 175, 3) := by decide +kernel
theorem dX9_fault_16 : decode cX9_fault 16 = .ok (.istore_n 2, 1) := by decide +kernel
theorem dX9_fault_17 : decode cX9_fault 17 = .ok (.iload_n 2, 1) := by decide +kernel
theorem dX9_fault_18 : decode cX9_fault 18 = .ok (.ifCond .ne 8, 3) := by decide +kernel
theorem dX9_fault_21 : decode cX9_fault 21 = .ok (.bipush (-4), 2) := by decide +kernel
theorem dX9_fault_23 : decode cX9_fault 23 = .ok (.goto 15, 3) := by decide +kernel
theorem dX9_fault_26 : decode cX9_fault 26 = .ok (.iload_n 1, 1) := by decide +kernel
theorem dX9_fault_27 : decode cX9_fault 27 = .ok (.ifCond .ne 10, 3) := by decide +kernel
theorem dX9_fault_30 : decode cX9_fault 30 = .ok (.aload_n 0, 1) := by decide +kernel
theorem dX9_fault_31 : decode cX9_fault 31 = .ok (.getfield 168, 3) := by decide +kernel
theorem dX9_fault_34 : decode cX9_fault 34 = .ok (.goto 4, 3) := by decide +kernel
theorem dX9_fault_37 : decode cX9_fault 37 = .ok (.iload_n 2, 1) := by decide +kernel
theorem dX9_fault_38 : decode cX9_fault 38 = .ok (.ireturn, 1) := by decide +kernel
theorem dX9_told_0 : decode cX9_told 0 = .ok (.iload_n 1, 1) := by decide +kernel
theorem dX9_told_1 : decode cX9_told 1 = .ok (.ifCond .ge 5, 3) := by decide +kernel
theorem dX9_told_4 : decode cX9_told 4 = .ok (.iconst (-1), 1) := by decide +kernel
theorem dX9_told_5 : decode cX9_told 5 = .ok (.ireturn, 1) := by decide +kernel
theorem dX9_told_6 : decode cX9_told 6 = .ok (.aload_n 0, 1) := by decide +kernel
theorem dX9_told_7 : decode cX9_told 7 = .ok (.invokevirtual 175, 3) := by decide +kernel
theorem dX9_told_10 : decode cX9_told 10 = .ok (.ifCond .eq 6, 3) := by decide +kernel
theorem dX9_told_13 : decode cX9_told 13 = .ok (.bipush (-2), 2) := by decide +kernel
theorem dX9_told_15 : decode cX9_told 15 = .ok (.ireturn, 1) := by decide +kernel
theorem dX9_told_16 : decode cX9_told 16 = .ok (.iload_n 1, 1) := by decide +kernel
theorem dX9_told_17 : decode cX9_told 17 = .ok (.aload_n 0, 1) := by decide +kernel
theorem dX9_told_18 : decode cX9_told 18 = .ok (.getfield 151, 3) := by decide +kernel
theorem dX9_told_21 : decode cX9_told 21 = .ok (.if_icmp .ge 12, 3) := by decide +kernel
theorem dX9_told_24 : decode cX9_told 24 = .ok (.aload_n 0, 1) := by decide +kernel
theorem dX9_told_25 : decode cX9_told 25 = .ok (.getfield 28, 3) := by decide +kernel
theorem dX9_told_28 : decode cX9_told 28 = .ok (.iload_n 1, 1) := by decide +kernel
theorem dX9_told_29 : decode cX9_told 29 = .ok (.iaload, 1) := by decide +kernel
theorem dX9_told_30 : decode cX9_told 30 = .ok (.goto 5, 3) := by decide +kernel
theorem dX9_told_33 : decode cX9_told 33 = .ok (.bipush (-4), 2) := by decide +kernel
theorem dX9_told_35 : decode cX9_told 35 = .ok (.ireturn, 1) := by decide +kernel
theorem dL_law_0 : decode cL_law 0 = .ok (.new 7, 3) := by decide +kernel
theorem dL_law_3 : decode cL_law 3 = .ok (.dup, 1) := by decide +kernel
theorem dL_law_4 : decode cL_law 4 = .ok (.invokespecial 9, 3) := by decide +kernel
theorem dL_law_7 : decode cL_law 7 = .ok (.astore_n 1, 1) := by decide +kernel
theorem dL_law_8 : decode cL_law 8 = .ok (.new 10, 3) := by decide +kernel
theorem dL_law_11 : decode cL_law 11 = .ok (.dup, 1) := by decide +kernel
theorem dL_law_12 : decode cL_law 12 = .ok (.invokespecial 12, 3) := by decide +kernel
theorem dL_law_15 : decode cL_law 15 = .ok (.astore_n 2, 1) := by decide +kernel
theorem dL_law_16 : decode cL_law 16 = .ok (.iconst 0, 1) := by decide +kernel
theorem dL_law_17 : decode cL_law 17 = .ok (.istore_n 3, 1) := by decide +kernel
theorem dL_law_18 : decode cL_law 18 = .ok (.iload_n 3, 1) := by decide +kernel
theorem dL_law_19 : decode cL_law 19 = .ok (.aload_n 0, 1) := by decide +kernel
theorem dL_law_20 : decode cL_law 20 = .ok (.arraylength, 1) := by decide +kernel
theorem dL_law_21 : decode cL_law 21 = .ok (.iconst 3, 1) := by decide +kernel
theorem dL_law_22 : decode cL_law 22 = .ok (.isub, 1) := by decide +kernel
theorem dL_law_23 : decode cL_law 23 = .ok (.if_icmp .gt 541, 3) := by decide +kernel
theorem dL_law_26 : decode cL_law 26 = .ok (.aload_n 0, 1) := by decide +kernel
theorem dL_law_27 : decode cL_law 27 = .ok (.iload_n 3, 1) := by decide +kernel
theorem dL_law_28 : decode cL_law 28 = .ok (.iaload, 1) := by decide +kernel
theorem dL_law_29 : decode cL_law 29 = .ok (.bipush 31, 2) := by decide +kernel
theorem dL_law_31 : decode cL_law 31 = .ok (.iand, 1) := by decide +kernel
theorem dL_law_32 : decode cL_law 32 = .ok (.tableswitch 526 0 19 #[96, 119, 132, 145, 168, 201, 234, 257, 280, 313, 336, 359, 382, 395, 418, 431, 454, 467, 480, 503], 96) := by decide +kernel
theorem dL_law_128 : decode cL_law 128 = .ok (.aload_n 1, 1) := by decide +kernel
theorem dL_law_129 : decode cL_law 129 = .ok (.aload_n 0, 1) := by decide +kernel
theorem dL_law_130 : decode cL_law 130 = .ok (.iload_n 3, 1) := by decide +kernel
theorem dL_law_131 : decode cL_law 131 = .ok (.iconst 1, 1) := by decide +kernel
theorem dL_law_132 : decode cL_law 132 = .ok (.iadd, 1) := by decide +kernel
theorem dL_law_133 : decode cL_law 133 = .ok (.iaload, 1) := by decide +kernel
theorem dL_law_134 : decode cL_law 134 = .ok (.invokevirtual 13, 3) := by decide +kernel
theorem dL_law_137 : decode cL_law 137 = .ok (.aload_n 2, 1) := by decide +kernel
theorem dL_law_138 : decode cL_law 138 = .ok (.aload_n 0, 1) := by decide +kernel
theorem dL_law_139 : decode cL_law 139 = .ok (.iload_n 3, 1) := by decide +kernel
theorem dL_law_140 : decode cL_law 140 = .ok (.iconst 1, 1) := by decide +kernel
theorem dL_law_141 : decode cL_law 141 = .ok (.iadd, 1) := by decide +kernel
theorem dL_law_142 : decode cL_law 142 = .ok (.iaload, 1) := by decide +kernel
theorem dL_law_143 : decode cL_law 143 = .ok (.invokevirtual 17, 3) := by decide +kernel
theorem dL_law_146 : decode cL_law 146 = .ok (.if_icmp .eq 412, 3) := by decide +kernel
theorem dL_law_149 : decode cL_law 149 = .ok (.iconst 0, 1) := by decide +kernel
theorem dL_law_150 : decode cL_law 150 = .ok (.ireturn, 1) := by decide +kernel
theorem dL_law_151 : decode cL_law 151 = .ok (.aload_n 1, 1) := by decide +kernel
theorem dL_law_152 : decode cL_law 152 = .ok (.invokevirtual 18, 3) := by decide +kernel
theorem dL_law_155 : decode cL_law 155 = .ok (.aload_n 2, 1) := by decide +kernel
theorem dL_law_156 : decode cL_law 156 = .ok (.invokevirtual 22, 3) := by decide +kernel
theorem dL_law_159 : decode cL_law 159 = .ok (.if_icmp .eq 399, 3) := by decide +kernel
theorem dL_law_162 : decode cL_law 162 = .ok (.iconst 0, 1) := by decide +kernel
theorem dL_law_163 : decode cL_law 163 = .ok (.ireturn, 1) := by decide +kernel
theorem dL_law_164 : decode cL_law 164 = .ok (.aload_n 1, 1) := by decide +kernel
theorem dL_law_165 : decode cL_law 165 = .ok (.invokevirtual 23, 3) := by decide +kernel
theorem dL_law_168 : decode cL_law 168 = .ok (.aload_n 2, 1) := by decide +kernel
theorem dL_law_169 : decode cL_law 169 = .ok (.invokevirtual 26, 3) := by decide +kernel
theorem dL_law_172 : decode cL_law 172 = .ok (.if_icmp .eq 386, 3) := by decide +kernel
theorem dL_law_175 : decode cL_law 175 = .ok (.iconst 0, 1) := by decide +kernel
theorem dL_law_176 : decode cL_law 176 = .ok (.ireturn, 1) := by decide +kernel
theorem dL_law_177 : decode cL_law 177 = .ok (.aload_n 1, 1) := by decide +kernel
theorem dL_law_178 : decode cL_law 178 = .ok (.aload_n 0, 1) := by decide +kernel
theorem dL_law_179 : decode cL_law 179 = .ok (.iload_n 3, 1) := by decide +kernel
theorem dL_law_180 : decode cL_law 180 = .ok (.iconst 1, 1) := by decide +kernel
theorem dL_law_181 : decode cL_law 181 = .ok (.iadd, 1) := by decide +kernel
theorem dL_law_182 : decode cL_law 182 = .ok (.iaload, 1) := by decide +kernel
theorem dL_law_183 : decode cL_law 183 = .ok (.invokevirtual 27, 3) := by decide +kernel
theorem dL_law_186 : decode cL_law 186 = .ok (.aload_n 2, 1) := by decide +kernel
theorem dL_law_187 : decode cL_law 187 = .ok (.aload_n 0, 1) := by decide +kernel
theorem dL_law_188 : decode cL_law 188 = .ok (.iload_n 3, 1) := by decide +kernel
theorem dL_law_189 : decode cL_law 189 = .ok (.iconst 1, 1) := by decide +kernel
theorem dL_law_190 : decode cL_law 190 = .ok (.iadd, 1) := by decide +kernel
theorem dL_law_191 : decode cL_law 191 = .ok (.iaload, 1) := by decide +kernel
theorem dL_law_192 : decode cL_law 192 = .ok (.invokevirtual 30, 3) := by decide +kernel
theorem dL_law_195 : decode cL_law 195 = .ok (.if_icmp .eq 363, 3) := by decide +kernel
theorem dL_law_198 : decode cL_law 198 = .ok (.iconst 0, 1) := by decide +kernel
theorem dL_law_199 : decode cL_law 199 = .ok (.ireturn, 1) := by decide +kernel
theorem dL_law_200 : decode cL_law 200 = .ok (.aload_n 1, 1) := by decide +kernel
theorem dL_law_201 : decode cL_law 201 = .ok (.aload_n 0, 1) := by decide +kernel
theorem dL_law_202 : decode cL_law 202 = .ok (.iload_n 3, 1) := by decide +kernel
theorem dL_law_203 : decode cL_law 203 = .ok (.iconst 1, 1) := by decide +kernel
theorem dL_law_204 : decode cL_law 204 = .ok (.iadd, 1) := by decide +kernel
theorem dL_law_205 : decode cL_law 205 = .ok (.iaload, 1) := by decide +kernel
theorem dL_law_206 : decode cL_law 206 = .ok (.aload_n 0, 1) := by decide +kernel
theorem dL_law_207 : decode cL_law 207 = .ok (.iload_n 3, 1) := by decide +kernel
theorem dL_law_208 : decode cL_law 208 = .ok (.iconst 2, 1) := by decide +kernel
theorem dL_law_209 : decode cL_law 209 = .ok (.iadd, 1) := by decide +kernel
theorem dL_law_210 : decode cL_law 210 = .ok (.iaload, 1) := by decide +kernel
theorem dL_law_211 : decode cL_law 211 = .ok (.invokevirtual 31, 3) := by decide +kernel
theorem dL_law_214 : decode cL_law 214 = .ok (.aload_n 2, 1) := by decide +kernel
theorem dL_law_215 : decode cL_law 215 = .ok (.aload_n 0, 1) := by decide +kernel
theorem dL_law_216 : decode cL_law 216 = .ok (.iload_n 3, 1) := by decide +kernel
theorem dL_law_217 : decode cL_law 217 = .ok (.iconst 1, 1) := by decide +kernel
theorem dL_law_218 : decode cL_law 218 = .ok (.iadd, 1) := by decide +kernel
theorem dL_law_219 : decode cL_law 219 = .ok (.iaload, 1) := by decide +kernel
theorem dL_law_220 : decode cL_law 220 = .ok (.aload_n 0, 1) := by decide +kernel
theorem dL_law_221 : decode cL_law 221 = .ok (.iload_n 3, 1) := by decide +kernel
theorem dL_law_222 : decode cL_law 222 = .ok (.iconst 2, 1) := by decide +kernel
theorem dL_law_223 : decode cL_law 223 = .ok (.iadd, 1) := by decide +kernel
theorem dL_law_224 : decode cL_law 224 = .ok (.iaload, 1) := by decide +kernel
theorem dL_law_225 : decode cL_law 225 = .ok (.invokevirtual 35, 3) := by decide +kernel
theorem dL_law_228 : decode cL_law 228 = .ok (.if_icmp .eq 330, 3) := by decide +kernel
theorem dL_law_231 : decode cL_law 231 = .ok (.iconst 0, 1) := by decide +kernel
theorem dL_law_232 : decode cL_law 232 = .ok (.ireturn, 1) := by decide +kernel
theorem dL_law_233 : decode cL_law 233 = .ok (.aload_n 1, 1) := by decide +kernel
theorem dL_law_234 : decode cL_law 234 = .ok (.aload_n 0, 1) := by decide +kernel
theorem dL_law_235 : decode cL_law 235 = .ok (.iload_n 3, 1) := by decide +kernel
theorem dL_law_236 : decode cL_law 236 = .ok (.iconst 1, 1) := by decide +kernel
theorem dL_law_237 : decode cL_law 237 = .ok (.iadd, 1) := by decide +kernel
theorem dL_law_238 : decode cL_law 238 = .ok (.iaload, 1) := by decide +kernel
theorem dL_law_239 : decode cL_law 239 = .ok (.aload_n 0, 1) := by decide +kernel
theorem dL_law_240 : decode cL_law 240 = .ok (.iload_n 3, 1) := by decide +kernel
theorem dL_law_241 : decode cL_law 241 = .ok (.iconst 2, 1) := by decide +kernel
theorem dL_law_242 : decode cL_law 242 = .ok (.iadd, 1) := by decide +kernel
theorem dL_law_243 : decode cL_law 243 = .ok (.iaload, 1) := by decide +kernel
theorem dL_law_244 : decode cL_law 244 = .ok (.invokevirtual 36, 3) := by decide +kernel
theorem dL_law_247 : decode cL_law 247 = .ok (.aload_n 2, 1) := by decide +kernel
theorem dL_law_248 : decode cL_law 248 = .ok (.aload_n 0, 1) := by decide +kernel
theorem dL_law_249 : decode cL_law 249 = .ok (.iload_n 3, 1) := by decide +kernel
theorem dL_law_250 : decode cL_law 250 = .ok (.iconst 1, 1) := by decide +kernel
theorem dL_law_251 : decode cL_law 251 = .ok (.iadd, 1) := by decide +kernel
theorem dL_law_252 : decode cL_law 252 = .ok (.iaload, 1) := by decide +kernel
theorem dL_law_253 : decode cL_law 253 = .ok (.aload_n 0, 1) := by decide +kernel
theorem dL_law_254 : decode cL_law 254 = .ok (.iload_n 3, 1) := by decide +kernel
theorem dL_law_255 : decode cL_law 255 = .ok (.iconst 2, 1) := by decide +kernel
theorem dL_law_256 : decode cL_law 256 = .ok (.iadd, 1) := by decide +kernel
theorem dL_law_257 : decode cL_law 257 = .ok (.iaload, 1) := by decide +kernel
theorem dL_law_258 : decode cL_law 258 = .ok (.invokevirtual 39, 3) := by decide +kernel
theorem dL_law_261 : decode cL_law 261 = .ok (.if_icmp .eq 297, 3) := by decide +kernel
theorem dL_law_264 : decode cL_law 264 = .ok (.iconst 0, 1) := by decide +kernel
theorem dL_law_265 : decode cL_law 265 = .ok (.ireturn, 1) := by decide +kernel
theorem dL_law_266 : decode cL_law 266 = .ok (.aload_n 1, 1) := by decide +kernel
theorem dL_law_267 : decode cL_law 267 = .ok (.aload_n 0, 1) := by decide +kernel
theorem dL_law_268 : decode cL_law 268 = .ok (.iload_n 3, 1) := by decide +kernel
theorem dL_law_269 : decode cL_law 269 = .ok (.iconst 1, 1) := by decide +kernel
theorem dL_law_270 : decode cL_law 270 = .ok (.iadd, 1) := by decide +kernel
theorem dL_law_271 : decode cL_law 271 = .ok (.iaload, 1) := by decide +kernel
theorem dL_law_272 : decode cL_law 272 = .ok (.invokevirtual 40, 3) := by decide +kernel
theorem dL_law_275 : decode cL_law 275 = .ok (.aload_n 2, 1) := by decide +kernel
theorem dL_law_276 : decode cL_law 276 = .ok (.aload_n 0, 1) := by decide +kernel
theorem dL_law_277 : decode cL_law 277 = .ok (.iload_n 3, 1) := by decide +kernel
theorem dL_law_278 : decode cL_law 278 = .ok (.iconst 1, 1) := by decide +kernel
theorem dL_law_279 : decode cL_law 279 = .ok (.iadd, 1) := by decide +kernel
theorem dL_law_280 : decode cL_law 280 = .ok (.iaload, 1) := by decide +kernel
theorem dL_law_281 : decode cL_law 281 = .ok (.invokevirtual 43, 3) := by decide +kernel
theorem dL_law_284 : decode cL_law 284 = .ok (.if_icmp .eq 274, 3) := by decide +kernel
theorem dL_law_287 : decode cL_law 287 = .ok (.iconst 0, 1) := by decide +kernel
theorem dL_law_288 : decode cL_law 288 = .ok (.ireturn, 1) := by decide +kernel
theorem dL_law_289 : decode cL_law 289 = .ok (.aload_n 1, 1) := by decide +kernel
theorem dL_law_290 : decode cL_law 290 = .ok (.aload_n 0, 1) := by decide +kernel
theorem dL_law_291 : decode cL_law 291 = .ok (.iload_n 3, 1) := by decide +kernel
theorem dL_law_292 : decode cL_law 292 = .ok (.iconst 1, 1) := by decide +kernel
theorem dL_law_293 : decode cL_law 293 = .ok (.iadd, 1) := by decide +kernel
theorem dL_law_294 : decode cL_law 294 = .ok (.iaload, 1) := by decide +kernel
theorem dL_law_295 : decode cL_law 295 = .ok (.invokevirtual 44, 3) := by decide +kernel
theorem dL_law_298 : decode cL_law 298 = .ok (.aload_n 2, 1) := by decide +kernel
theorem dL_law_299 : decode cL_law 299 = .ok (.aload_n 0, 1) := by decide +kernel
theorem dL_law_300 : decode cL_law 300 = .ok (.iload_n 3, 1) := by decide +kernel
theorem dL_law_301 : decode cL_law 301 = .ok (.iconst 1, 1) := by decide +kernel
theorem dL_law_302 : decode cL_law 302 = .ok (.iadd, 1) := by decide +kernel
theorem dL_law_303 : decode cL_law 303 = .ok (.iaload, 1) := by decide +kernel
theorem dL_law_304 : decode cL_law 304 = .ok (.invokevirtual 47, 3) := by decide +kernel
theorem dL_law_307 : decode cL_law 307 = .ok (.if_icmp .eq 251, 3) := by decide +kernel
theorem dL_law_310 : decode cL_law 310 = .ok (.iconst 0, 1) := by decide +kernel
theorem dL_law_311 : decode cL_law 311 = .ok (.ireturn, 1) := by decide +kernel
theorem dL_law_312 : decode cL_law 312 = .ok (.aload_n 1, 1) := by decide +kernel
theorem dL_law_313 : decode cL_law 313 = .ok (.aload_n 0, 1) := by decide +kernel
theorem dL_law_314 : decode cL_law 314 = .ok (.iload_n 3, 1) := by decide +kernel
theorem dL_law_315 : decode cL_law 315 = .ok (.iconst 1, 1) := by decide +kernel
theorem dL_law_316 : decode cL_law 316 = .ok (.iadd, 1) := by decide +kernel
theorem dL_law_317 : decode cL_law 317 = .ok (.iaload, 1) := by decide +kernel
theorem dL_law_318 : decode cL_law 318 = .ok (.aload_n 0, 1) := by decide +kernel
theorem dL_law_319 : decode cL_law 319 = .ok (.iload_n 3, 1) := by decide +kernel
theorem dL_law_320 : decode cL_law 320 = .ok (.iconst 2, 1) := by decide +kernel
theorem dL_law_321 : decode cL_law 321 = .ok (.iadd, 1) := by decide +kernel
theorem dL_law_322 : decode cL_law 322 = .ok (.iaload, 1) := by decide +kernel
theorem dL_law_323 : decode cL_law 323 = .ok (.invokevirtual 48, 3) := by decide +kernel
theorem dL_law_326 : decode cL_law 326 = .ok (.aload_n 2, 1) := by decide +kernel
theorem dL_law_327 : decode cL_law 327 = .ok (.aload_n 0, 1) := by decide +kernel
theorem dL_law_328 : decode cL_law 328 = .ok (.iload_n 3, 1) := by decide +kernel
theorem dL_law_329 : decode cL_law 329 = .ok (.iconst 1, 1) := by decide +kernel
theorem dL_law_330 : decode cL_law 330 = .ok (.iadd, 1) := by decide +kernel
theorem dL_law_331 : decode cL_law 331 = .ok (.iaload, 1) := by decide +kernel
theorem dL_law_332 : decode cL_law 332 = .ok (.aload_n 0, 1) := by decide +kernel
theorem dL_law_333 : decode cL_law 333 = .ok (.iload_n 3, 1) := by decide +kernel
theorem dL_law_334 : decode cL_law 334 = .ok (.iconst 2, 1) := by decide +kernel
theorem dL_law_335 : decode cL_law 335 = .ok (.iadd, 1) := by decide +kernel
theorem dL_law_336 : decode cL_law 336 = .ok (.iaload, 1) := by decide +kernel
theorem dL_law_337 : decode cL_law 337 = .ok (.invokevirtual 51, 3) := by decide +kernel
theorem dL_law_340 : decode cL_law 340 = .ok (.if_icmp .eq 218, 3) := by decide +kernel
theorem dL_law_343 : decode cL_law 343 = .ok (.iconst 0, 1) := by decide +kernel
theorem dL_law_344 : decode cL_law 344 = .ok (.ireturn, 1) := by decide +kernel
theorem dL_law_345 : decode cL_law 345 = .ok (.aload_n 1, 1) := by decide +kernel
theorem dL_law_346 : decode cL_law 346 = .ok (.aload_n 0, 1) := by decide +kernel
theorem dL_law_347 : decode cL_law 347 = .ok (.iload_n 3, 1) := by decide +kernel
theorem dL_law_348 : decode cL_law 348 = .ok (.iconst 1, 1) := by decide +kernel
theorem dL_law_349 : decode cL_law 349 = .ok (.iadd, 1) := by decide +kernel
theorem dL_law_350 : decode cL_law 350 = .ok (.iaload, 1) := by decide +kernel
theorem dL_law_351 : decode cL_law 351 = .ok (.invokevirtual 52, 3) := by decide +kernel
theorem dL_law_354 : decode cL_law 354 = .ok (.aload_n 2, 1) := by decide +kernel
theorem dL_law_355 : decode cL_law 355 = .ok (.aload_n 0, 1) := by decide +kernel
theorem dL_law_356 : decode cL_law 356 = .ok (.iload_n 3, 1) := by decide +kernel
theorem dL_law_357 : decode cL_law 357 = .ok (.iconst 1, 1) := by decide +kernel
theorem dL_law_358 : decode cL_law 358 = .ok (.iadd, 1) := by decide +kernel
theorem dL_law_359 : decode cL_law 359 = .ok (.iaload, 1) := by decide +kernel
theorem dL_law_360 : decode cL_law 360 = .ok (.invokevirtual 55, 3) := by decide +kernel
theorem dL_law_363 : decode cL_law 363 = .ok (.if_icmp .eq 195, 3) := by decide +kernel
theorem dL_law_366 : decode cL_law 366 = .ok (.iconst 0, 1) := by decide +kernel
theorem dL_law_367 : decode cL_law 367 = .ok (.ireturn, 1) := by decide +kernel
theorem dL_law_368 : decode cL_law 368 = .ok (.aload_n 1, 1) := by decide +kernel
theorem dL_law_369 : decode cL_law 369 = .ok (.aload_n 0, 1) := by decide +kernel
theorem dL_law_370 : decode cL_law 370 = .ok (.iload_n 3, 1) := by decide +kernel
theorem dL_law_371 : decode cL_law 371 = .ok (.iconst 1, 1) := by decide +kernel
theorem dL_law_372 : decode cL_law 372 = .ok (.iadd, 1) := by decide +kernel
theorem dL_law_373 : decode cL_law 373 = .ok (.iaload, 1) := by decide +kernel
theorem dL_law_374 : decode cL_law 374 = .ok (.invokevirtual 56, 3) := by decide +kernel
theorem dL_law_377 : decode cL_law 377 = .ok (.aload_n 2, 1) := by decide +kernel
theorem dL_law_378 : decode cL_law 378 = .ok (.aload_n 0, 1) := by decide +kernel
theorem dL_law_379 : decode cL_law 379 = .ok (.iload_n 3, 1) := by decide +kernel
theorem dL_law_380 : decode cL_law 380 = .ok (.iconst 1, 1) := by decide +kernel
theorem dL_law_381 : decode cL_law 381 = .ok (.iadd, 1) := by decide +kernel
theorem dL_law_382 : decode cL_law 382 = .ok (.iaload, 1) := by decide +kernel
theorem dL_law_383 : decode cL_law 383 = .ok (.invokevirtual 59, 3) := by decide +kernel
theorem dL_law_386 : decode cL_law 386 = .ok (.if_icmp .eq 172, 3) := by decide +kernel
theorem dL_law_389 : decode cL_law 389 = .ok (.iconst 0, 1) := by decide +kernel
theorem dL_law_390 : decode cL_law 390 = .ok (.ireturn, 1) := by decide +kernel
theorem dL_law_391 : decode cL_law 391 = .ok (.aload_n 1, 1) := by decide +kernel
theorem dL_law_392 : decode cL_law 392 = .ok (.aload_n 0, 1) := by decide +kernel
theorem dL_law_393 : decode cL_law 393 = .ok (.iload_n 3, 1) := by decide +kernel
theorem dL_law_394 : decode cL_law 394 = .ok (.iconst 1, 1) := by decide +kernel
theorem dL_law_395 : decode cL_law 395 = .ok (.iadd, 1) := by decide +kernel
theorem dL_law_396 : decode cL_law 396 = .ok (.iaload, 1) := by decide +kernel
theorem dL_law_397 : decode cL_law 397 = .ok (.invokevirtual 60, 3) := by decide +kernel
theorem dL_law_400 : decode cL_law 400 = .ok (.aload_n 2, 1) := by decide +kernel
theorem dL_law_401 : decode cL_law 401 = .ok (.aload_n 0, 1) := by decide +kernel
theorem dL_law_402 : decode cL_law 402 = .ok (.iload_n 3, 1) := by decide +kernel
theorem dL_law_403 : decode cL_law 403 = .ok (.iconst 1, 1) := by decide +kernel
theorem dL_law_404 : decode cL_law 404 = .ok (.iadd, 1) := by decide +kernel
theorem dL_law_405 : decode cL_law 405 = .ok (.iaload, 1) := by decide +kernel
theorem dL_law_406 : decode cL_law 406 = .ok (.invokevirtual 63, 3) := by decide +kernel
theorem dL_law_409 : decode cL_law 409 = .ok (.if_icmp .eq 149, 3) := by decide +kernel
theorem dL_law_412 : decode cL_law 412 = .ok (.iconst 0, 1) := by decide +kernel
theorem dL_law_413 : decode cL_law 413 = .ok (.ireturn, 1) := by decide +kernel
theorem dL_law_414 : decode cL_law 414 = .ok (.aload_n 1, 1) := by decide +kernel
theorem dL_law_415 : decode cL_law 415 = .ok (.invokevirtual 64, 3) := by decide +kernel
theorem dL_law_418 : decode cL_law 418 = .ok (.aload_n 2, 1) := by decide +kernel
theorem dL_law_419 : decode cL_law 419 = .ok (.invokevirtual 67, 3) := by decide +kernel
theorem dL_law_422 : decode cL_law 422 = .ok (.if_icmp .eq 136, 3) := by decide +kernel
theorem dL_law_425 : decode cL_law 425 = .ok (.iconst 0, 1) := by decide +kernel
theorem dL_law_426 : decode cL_law 426 = .ok (.ireturn, 1) := by decide +kernel
theorem dL_law_427 : decode cL_law 427 = .ok (.aload_n 1, 1) := by decide +kernel
theorem dL_law_428 : decode cL_law 428 = .ok (.aload_n 0, 1) := by decide +kernel
theorem dL_law_429 : decode cL_law 429 = .ok (.iload_n 3, 1) := by decide +kernel
theorem dL_law_430 : decode cL_law 430 = .ok (.iconst 1, 1) := by decide +kernel
theorem dL_law_431 : decode cL_law 431 = .ok (.iadd, 1) := by decide +kernel
theorem dL_law_432 : decode cL_law 432 = .ok (.iaload, 1) := by decide +kernel
theorem dL_law_433 : decode cL_law 433 = .ok (.invokevirtual 68, 3) := by decide +kernel
theorem dL_law_436 : decode cL_law 436 = .ok (.aload_n 2, 1) := by decide +kernel
theorem dL_law_437 : decode cL_law 437 = .ok (.aload_n 0, 1) := by decide +kernel
theorem dL_law_438 : decode cL_law 438 = .ok (.iload_n 3, 1) := by decide +kernel
theorem dL_law_439 : decode cL_law 439 = .ok (.iconst 1, 1) := by decide +kernel
theorem dL_law_440 : decode cL_law 440 = .ok (.iadd, 1) := by decide +kernel
theorem dL_law_441 : decode cL_law 441 = .ok (.iaload, 1) := by decide +kernel
theorem dL_law_442 : decode cL_law 442 = .ok (.invokevirtual 71, 3) := by decide +kernel
theorem dL_law_445 : decode cL_law 445 = .ok (.if_icmp .eq 113, 3) := by decide +kernel
theorem dL_law_448 : decode cL_law 448 = .ok (.iconst 0, 1) := by decide +kernel
theorem dL_law_449 : decode cL_law 449 = .ok (.ireturn, 1) := by decide +kernel
theorem dL_law_450 : decode cL_law 450 = .ok (.aload_n 1, 1) := by decide +kernel
theorem dL_law_451 : decode cL_law 451 = .ok (.invokevirtual 72, 3) := by decide +kernel
theorem dL_law_454 : decode cL_law 454 = .ok (.aload_n 2, 1) := by decide +kernel
theorem dL_law_455 : decode cL_law 455 = .ok (.invokevirtual 75, 3) := by decide +kernel
theorem dL_law_458 : decode cL_law 458 = .ok (.if_icmp .eq 100, 3) := by decide +kernel
theorem dL_law_461 : decode cL_law 461 = .ok (.iconst 0, 1) := by decide +kernel
theorem dL_law_462 : decode cL_law 462 = .ok (.ireturn, 1) := by decide +kernel
theorem dL_law_463 : decode cL_law 463 = .ok (.aload_n 1, 1) := by decide +kernel
theorem dL_law_464 : decode cL_law 464 = .ok (.aload_n 0, 1) := by decide +kernel
theorem dL_law_465 : decode cL_law 465 = .ok (.iload_n 3, 1) := by decide +kernel
theorem dL_law_466 : decode cL_law 466 = .ok (.iconst 1, 1) := by decide +kernel
theorem dL_law_467 : decode cL_law 467 = .ok (.iadd, 1) := by decide +kernel
theorem dL_law_468 : decode cL_law 468 = .ok (.iaload, 1) := by decide +kernel
theorem dL_law_469 : decode cL_law 469 = .ok (.invokevirtual 76, 3) := by decide +kernel
theorem dL_law_472 : decode cL_law 472 = .ok (.aload_n 2, 1) := by decide +kernel
theorem dL_law_473 : decode cL_law 473 = .ok (.aload_n 0, 1) := by decide +kernel
theorem dL_law_474 : decode cL_law 474 = .ok (.iload_n 3, 1) := by decide +kernel
theorem dL_law_475 : decode cL_law 475 = .ok (.iconst 1, 1) := by decide +kernel
theorem dL_law_476 : decode cL_law 476 = .ok (.iadd, 1) := by decide +kernel
theorem dL_law_477 : decode cL_law 477 = .ok (.iaload, 1) := by decide +kernel
theorem dL_law_478 : decode cL_law 478 = .ok (.invokevirtual 79, 3) := by decide +kernel
theorem dL_law_481 : decode cL_law 481 = .ok (.if_icmp .eq 77, 3) := by decide +kernel
theorem dL_law_484 : decode cL_law 484 = .ok (.iconst 0, 1) := by decide +kernel
theorem dL_law_485 : decode cL_law 485 = .ok (.ireturn, 1) := by decide +kernel
theorem dL_law_486 : decode cL_law 486 = .ok (.aload_n 1, 1) := by decide +kernel
theorem dL_law_487 : decode cL_law 487 = .ok (.invokevirtual 80, 3) := by decide +kernel
theorem dL_law_490 : decode cL_law 490 = .ok (.aload_n 2, 1) := by decide +kernel
theorem dL_law_491 : decode cL_law 491 = .ok (.invokevirtual 83, 3) := by decide +kernel
theorem dL_law_494 : decode cL_law 494 = .ok (.if_icmp .eq 64, 3) := by decide +kernel
theorem dL_law_497 : decode cL_law 497 = .ok (.iconst 0, 1) := by decide +kernel
theorem dL_law_498 : decode cL_law 498 = .ok (.ireturn, 1) := by decide +kernel
theorem dL_law_499 : decode cL_law 499 = .ok (.aload_n 1, 1) := by decide +kernel
theorem dL_law_500 : decode cL_law 500 = .ok (.invokevirtual 84, 3) := by decide +kernel
theorem dL_law_503 : decode cL_law 503 = .ok (.aload_n 2, 1) := by decide +kernel
theorem dL_law_504 : decode cL_law 504 = .ok (.invokevirtual 87, 3) := by decide +kernel
theorem dL_law_507 : decode cL_law 507 = .ok (.if_icmp .eq 51, 3) := by decide +kernel
theorem dL_law_510 : decode cL_law 510 = .ok (.iconst 0, 1) := by decide +kernel
theorem dL_law_511 : decode cL_law 511 = .ok (.ireturn, 1) := by decide +kernel
theorem dL_law_512 : decode cL_law 512 = .ok (.aload_n 1, 1) := by decide +kernel
theorem dL_law_513 : decode cL_law 513 = .ok (.aload_n 0, 1) := by decide +kernel
theorem dL_law_514 : decode cL_law 514 = .ok (.iload_n 3, 1) := by decide +kernel
theorem dL_law_515 : decode cL_law 515 = .ok (.iconst 1, 1) := by decide +kernel
theorem dL_law_516 : decode cL_law 516 = .ok (.iadd, 1) := by decide +kernel
theorem dL_law_517 : decode cL_law 517 = .ok (.iaload, 1) := by decide +kernel
theorem dL_law_518 : decode cL_law 518 = .ok (.invokevirtual 88, 3) := by decide +kernel
theorem dL_law_521 : decode cL_law 521 = .ok (.aload_n 2, 1) := by decide +kernel
theorem dL_law_522 : decode cL_law 522 = .ok (.aload_n 0, 1) := by decide +kernel
theorem dL_law_523 : decode cL_law 523 = .ok (.iload_n 3, 1) := by decide +kernel
theorem dL_law_524 : decode cL_law 524 = .ok (.iconst 1, 1) := by decide +kernel
theorem dL_law_525 : decode cL_law 525 = .ok (.iadd, 1) := by decide +kernel
theorem dL_law_526 : decode cL_law 526 = .ok (.iaload, 1) := by decide +kernel
theorem dL_law_527 : decode cL_law 527 = .ok (.invokevirtual 91, 3) := by decide +kernel
theorem dL_law_530 : decode cL_law 530 = .ok (.if_icmp .eq 28, 3) := by decide +kernel
theorem dL_law_533 : decode cL_law 533 = .ok (.iconst 0, 1) := by decide +kernel
theorem dL_law_534 : decode cL_law 534 = .ok (.ireturn, 1) := by decide +kernel
theorem dL_law_535 : decode cL_law 535 = .ok (.aload_n 1, 1) := by decide +kernel
theorem dL_law_536 : decode cL_law 536 = .ok (.aload_n 0, 1) := by decide +kernel
theorem dL_law_537 : decode cL_law 537 = .ok (.iload_n 3, 1) := by decide +kernel
theorem dL_law_538 : decode cL_law 538 = .ok (.iconst 1, 1) := by decide +kernel
theorem dL_law_539 : decode cL_law 539 = .ok (.iadd, 1) := by decide +kernel
theorem dL_law_540 : decode cL_law 540 = .ok (.iaload, 1) := by decide +kernel
theorem dL_law_541 : decode cL_law 541 = .ok (.invokevirtual 92, 3) := by decide +kernel
theorem dL_law_544 : decode cL_law 544 = .ok (.aload_n 2, 1) := by decide +kernel
theorem dL_law_545 : decode cL_law 545 = .ok (.aload_n 0, 1) := by decide +kernel
theorem dL_law_546 : decode cL_law 546 = .ok (.iload_n 3, 1) := by decide +kernel
theorem dL_law_547 : decode cL_law 547 = .ok (.iconst 1, 1) := by decide +kernel
theorem dL_law_548 : decode cL_law 548 = .ok (.iadd, 1) := by decide +kernel
theorem dL_law_549 : decode cL_law 549 = .ok (.iaload, 1) := by decide +kernel
theorem dL_law_550 : decode cL_law 550 = .ok (.invokevirtual 95, 3) := by decide +kernel
theorem dL_law_553 : decode cL_law 553 = .ok (.if_icmp .eq 5, 3) := by decide +kernel
theorem dL_law_556 : decode cL_law 556 = .ok (.iconst 0, 1) := by decide +kernel
theorem dL_law_557 : decode cL_law 557 = .ok (.ireturn, 1) := by decide +kernel
theorem dL_law_558 : decode cL_law 558 = .ok (.iinc 3 3, 3) := by decide +kernel
theorem dL_law_561 : decode cL_law 561 = .ok (.goto (-543), 3) := by decide +kernel
theorem dL_law_564 : decode cL_law 564 = .ok (.iconst 1, 1) := by decide +kernel
theorem dL_law_565 : decode cL_law 565 = .ok (.ireturn, 1) := by decide +kernel
