theorem dX8_put_19 : decode cX8_put 19 = .ok (.bipush (-2), 2) := by decide +kernel
theorem dX8_put_21 : decode cX8_put 21 = .ok (.ireturn, 1) := by decide +kernel
theorem dX8_put_22 : decode cX8_put 22 = .ok (.aload_n 0, 1) := by decide +kernel
theorem dX8_put_23 : decode cX8_put 23 = .ok (.getfield 12, 3) := by decide +kernel
theorem dX8_put_26 : decode cX8_put 26 = .ok (.getfield 62, 3) := by decide +kernel
theorem dX8_put_29 : decode cX8_put 29 = .ok (.bipush 40, 2) := by decide +kernel
theorem dX8_put_31 : decode cX8_put 31 = .ok (.if_icmp .lt 6, 3) := by decide +kernel
theorem dX8_put_34 : decode cX8_put 34 = .ok (.bipush (-3), 2) := by decide +kernel
theorem dX8_put_36 : decode cX8_put 36 = .ok (.ireturn, 1) := by decide +kernel
theorem dX8_put_37 : decode cX8_put 37 = .ok (.aload_n 0, 1) := by decide +kernel
theorem dX8_put_38 : decode cX8_put 38 = .ok (.getfield 50, 3) := by decide +kernel
theorem dX8_put_41 : decode cX8_put 41 = .ok (.aload_n 0, 1) := by decide +kernel
theorem dX8_put_42 : decode cX8_put 42 = .ok (.getfield 12, 3) := by decide +kernel
theorem dX8_put_45 : decode cX8_put 45 = .ok (.invokevirtual 66, 3) := by decide +kernel
theorem dX8_put_48 : decode cX8_put 48 = .ok (.aload_n 0, 1) := by decide +kernel
theorem dX8_put_49 : decode cX8_put 49 = .ok (.getfield 12, 3) := by decide +kernel
theorem dX8_put_52 : decode cX8_put 52 = .ok (.iload_n 1, 1) := by decide +kernel
theorem dX8_put_53 : decode cX8_put 53 = .ok (.invokevirtual 70, 3) := by decide +kernel
theorem dX8_put_56 : decode cX8_put 56 = .ok (.aload_n 0, 1) := by decide +kernel
theorem dX8_put_57 : decode cX8_put 57 = .ok (.getfield 19, 3) := by decide +kernel
theorem dX8_put_60 : decode cX8_put 60 = .ok (.iload_n 1, 1) := by decide +kernel
theorem dX8_put_61 : decode cX8_put 61 = .ok (.invokevirtual 74, 3) := by decide +kernel
theorem dX8_put_64 : decode cX8_put 64 = .ok (.ireturn, 1) := by decide +kernel
theorem dX8_end_0 : decode cX8_end 0 = .ok (.aload_n 0, 1) := by decide +kernel
theorem dX8_end_1 : decode cX8_end 1 = .ok (.getfield 12, 3) := by decide +kernel
theorem dX8_end_4 : decode cX8_end 4 = .ok (.getfield 58, 3) := by decide +kernel
theorem dX8_end_7 : decode cX8_end 7 = .ok (.ifCond .eq 6, 3) := by decide +kernel
theorem dX8_end_10 : decode cX8_end 10 = .ok (.bipush (-2), 2) := by decide +kernel
theorem dX8_end_12 : decode cX8_end 12 = .ok (.ireturn, 1) := by decide +kernel
theorem dX8_end_13 : decode cX8_end 13 = .ok (.aload_n 0, 1) := by decide +kernel
theorem dX8_end_14 : decode cX8_end 14 = .ok (.getfield 50, 3) := by decide +kernel
theorem dX8_end_17 : decode cX8_end 17 = .ok (.aload_n 0, 1) := by decide +kernel
theorem dX8_end_18 : decode cX8_end 18 = .ok (.getfield 12, 3) := by decide +kernel
theorem dX8_end_21 : decode cX8_end 21 = .ok (.invokevirtual 66, 3) := by decide +kernel
theorem dX8_end_24 : decode cX8_end 24 = .ok (.aload_n 0, 1) := by decide +kernel
theorem dX8_end_25 : decode cX8_end 25 = .ok (.getfield 12, 3) := by decide +kernel
theorem dX8_end_28 : decode cX8_end 28 = .ok (.iconst 1, 1) := by decide +kernel
theorem dX8_end_29 : decode cX8_end 29 = .ok (.putfield 58, 3) := by decide +kernel
theorem dX8_end_32 : decode cX8_end 32 = .ok (.aload_n 0, 1) := by decide +kernel
theorem dX8_end_33 : decode cX8_end 33 = .ok (.getfield 19, 3) := by decide +kernel
theorem dX8_end_36 : decode cX8_end 36 = .ok (.invokevirtual 78, 3) := by decide +kernel
theorem dX8_end_39 : decode cX8_end 39 = .ok (.aload_n 0, 1) := by decide +kernel
theorem dX8_end_40 : decode cX8_end 40 = .ok (.getfield 19, 3) := by decide +kernel
theorem dX8_end_43 : decode cX8_end 43 = .ok (.getfield 81, 3) := by decide +kernel
theorem dX8_end_46 : decode cX8_end 46 = .ok (.getfield 84, 3) := by decide +kernel
theorem dX8_end_49 : decode cX8_end 49 = .ok (.ireturn, 1) := by decide +kernel
theorem dX8_begin_0 : decode cX8_begin 0 = .ok (.aload_n 0, 1) := by decide +kernel
theorem dX8_begin_1 : decode cX8_begin 1 = .ok (.getfield 12, 3) := by decide +kernel
theorem dX8_begin_4 : decode cX8_begin 4 = .ok (.getfield 62, 3) := by decide +kernel
theorem dX8_begin_7 : decode cX8_begin 7 = .ok (.istore_n 1, 1) := by decide +kernel
theorem dX8_begin_8 : decode cX8_begin 8 = .ok (.aload_n 0, 1) := by decide +kernel
theorem dX8_begin_9 : decode cX8_begin 9 = .ok (.getfield 50, 3) := by decide +kernel
theorem dX8_begin_12 : decode cX8_begin 12 = .ok (.aload_n 0, 1) := by decide +kernel
theorem dX8_begin_13 : decode cX8_begin 13 = .ok (.getfield 12, 3) := by decide +kernel
theorem dX8_begin_16 : decode cX8_begin 16 = .ok (.invokevirtual 66, 3) := by decide +kernel
theorem dX8_begin_19 : decode cX8_begin 19 = .ok (.aload_n 0, 1) := by decide +kernel
theorem dX8_begin_20 : decode cX8_begin 20 = .ok (.getfield 12, 3) := by decide +kernel
theorem dX8_begin_23 : decode cX8_begin 23 = .ok (.invokevirtual 85, 3) := by decide +kernel
theorem dX8_begin_26 : decode cX8_begin 26 = .ok (.aload_n 0, 1) := by decide +kernel
theorem dX8_begin_27 : decode cX8_begin 27 = .ok (.invokevirtual 88, 3) := by decide +kernel
theorem dX8_begin_30 : decode cX8_begin 30 = .ok (.iload_n 1, 1) := by decide +kernel
theorem dX8_begin_31 : decode cX8_begin 31 = .ok (.ireturn, 1) := by decide +kernel
theorem dX8_drop_0 : decode cX8_drop 0 = .ok (.iload_n 1, 1) := by decide +kernel
theorem dX8_drop_1 : decode cX8_drop 1 = .ok (.iconst 1, 1) := by decide +kernel
theorem dX8_drop_2 : decode cX8_drop 2 = .ok (.if_icmp .lt 9, 3) := by decide +kernel
theorem dX8_drop_5 : decode cX8_drop 5 = .ok (.iload_n 1, 1) := by decide +kernel
theorem dX8_drop_6 : decode cX8_drop 6 = .ok (.bipush 40, 2) := by decide +kernel
theorem dX8_drop_8 : decode cX8_drop 8 = .ok (.if_icmp .le 5, 3) := by decide +kernel
theorem dX8_drop_11 : decode cX8_drop 11 = .ok (.iconst (-1), 1) := by decide +kernel
theorem dX8_drop_12 : decode cX8_drop 12 = .ok (.ireturn, 1) := by decide +kernel
theorem dX8_drop_13 : decode cX8_drop 13 = .ok (.iload_n 1, 1) := by decide +kernel
theorem dX8_drop_14 : decode cX8_drop 14 = .ok (.aload_n 0, 1) := by decide +kernel
theorem dX8_drop_15 : decode cX8_drop 15 = .ok (.getfield 12, 3) := by decide +kernel
theorem dX8_drop_18 : decode cX8_drop 18 = .ok (.getfield 62, 3) := by decide +kernel
theorem dX8_drop_21 : decode cX8_drop 21 = .ok (.if_icmp .le 6, 3) := by decide +kernel
theorem dX8_drop_24 : decode cX8_drop 24 = .ok (.bipush (-2), 2) := by decide +kernel
theorem dX8_drop_26 : decode cX8_drop 26 = .ok (.ireturn, 1) := by decide +kernel
theorem dX8_drop_27 : decode cX8_drop 27 = .ok (.aload_n 0, 1) := by decide +kernel
theorem dX8_drop_28 : decode cX8_drop 28 = .ok (.getfield 50, 3) := by decide +kernel
theorem dX8_drop_31 : decode cX8_drop 31 = .ok (.aload_n 0, 1) := by decide +kernel
theorem dX8_drop_32 : decode cX8_drop 32 = .ok (.getfield 12, 3) := by decide +kernel
theorem dX8_drop_35 : decode cX8_drop 35 = .ok (.invokevirtual 66, 3) := by decide +kernel
theorem dX8_drop_38 : decode cX8_drop 38 = .ok (.aload_n 0, 1) := by decide +kernel
theorem dX8_drop_39 : decode cX8_drop 39 = .ok (.getfield 12, 3) := by decide +kernel
theorem dX8_drop_42 : decode cX8_drop 42 = .ok (.iload_n 1, 1) := by decide +kernel
theorem dX8_drop_43 : decode cX8_drop 43 = .ok (.invokevirtual 91, 3) := by decide +kernel
theorem dX8_drop_46 : decode cX8_drop 46 = .ok (.aload_n 0, 1) := by decide +kernel
theorem dX8_drop_47 : decode cX8_drop 47 = .ok (.invokevirtual 88, 3) := by decide +kernel
theorem dX8_drop_50 : decode cX8_drop 50 = .ok (.aload_n 0, 1) := by decide +kernel
theorem dX8_drop_51 : decode cX8_drop 51 = .ok (.getfield 19, 3) := by decide +kernel
theorem dX8_drop_54 : decode cX8_drop 54 = .ok (.getfield 81, 3) := by decide +kernel
theorem dX8_drop_57 : decode cX8_drop 57 = .ok (.getfield 84, 3) := by decide +kernel
theorem dX8_drop_60 : decode cX8_drop 60 = .ok (.ireturn, 1) := by decide +kernel
theorem dX8_mend_0 : decode cX8_mend 0 = .ok (.iload_n 1, 1) := by decide +kernel
theorem dX8_mend_1 : decode cX8_mend 1 = .ok (.ifCond .lt 10, 3) := by decide +kernel
theorem dX8_mend_4 : decode cX8_mend 4 = .ok (.iload_n 2, 1) := by decide +kernel
theorem dX8_mend_5 : decode cX8_mend 5 = .ok (.invokestatic 54, 3) := by decide +kernel
theorem dX8_mend_8 : decode cX8_mend 8 = .ok (.ifCond .ne 5, 3) := by decide +kernel
theorem dX8_mend_11 : decode cX8_mend 11 = .ok (.iconst (-1), 1) := by decide +kernel
theorem dX8_mend_12 : decode cX8_mend 12 = .ok (.ireturn, 1) := by decide +kernel
theorem dX8_mend_13 : decode cX8_mend 13 = .ok (.iload_n 1, 1) := by decide +kernel
theorem dX8_mend_14 : decode cX8_mend 14 = .ok (.aload_n 0, 1) := by decide +kernel
theorem dX8_mend_15 : decode cX8_mend 15 = .ok (.getfield 12, 3) := by decide +kernel
theorem dX8_mend_18 : decode cX8_mend 18 = .ok (.getfield 62, 3) := by decide +kernel
theorem dX8_mend_21 : decode cX8_mend 21 = .ok (.if_icmp .lt 6, 3) := by decide +kernel
theorem dX8_mend_24 : decode cX8_mend 24 = .ok (.bipush (-2), 2) := by decide +kernel
theorem dX8_mend_26 : decode cX8_mend 26 = .ok (.ireturn, 1) := by decide +kernel
theorem dX8_mend_27 : decode cX8_mend 27 = .ok (.aload_n 0, 1) := by decide +kernel
theorem dX8_mend_28 : decode cX8_mend 28 = .ok (.getfield 50, 3) := by decide +kernel
theorem dX8_mend_31 : decode cX8_mend 31 = .ok (.aload_n 0, 1) := by decide +kernel
theorem dX8_mend_32 : decode cX8_mend 32 = .ok (.getfield 12, 3) := by decide +kernel
theorem dX8_mend_35 : decode cX8_mend 35 = .ok (.invokevirtual 66, 3) := by decide +kernel
theorem dX8_mend_38 : decode cX8_mend 38 = .ok (.aload_n 0, 1) := by decide +kernel
theorem dX8_mend_39 : decode cX8_mend 39 = .ok (.getfield 12, 3) := by decide +kernel
theorem dX8_mend_42 : decode cX8_mend 42 = .ok (.iload_n 1, 1) := by decide +kernel
theorem dX8_mend_43 : decode cX8_mend 43 = .ok (.iload_n 2, 1) := by decide +kernel
theorem dX8_mend_44 : decode cX8_mend 44 = .ok (.invokevirtual 94, 3) := by decide +kernel
theorem dX8_mend_47 : decode cX8_mend 47 = .ok (.aload_n 0, 1) := by decide +kernel
theorem dX8_mend_48 : decode cX8_mend 48 = .ok (.invokevirtual 88, 3) := by decide +kernel
theorem dX8_mend_51 : decode cX8_mend 51 = .ok (.aload_n 0, 1) := by decide +kernel
theorem dX8_mend_52 : decode cX8_mend 52 = .ok (.getfield 19, 3) := by decide +kernel
theorem dX8_mend_55 : decode cX8_mend 55 = .ok (.getfield 81, 3) := by decide +kernel
theorem dX8_mend_58 : decode cX8_mend 58 = .ok (.getfield 84, 3) := by decide +kernel
theorem dX8_mend_61 : decode cX8_mend 61 = .ok (.ireturn, 1) := by decide +kernel
theorem dX8_set_0 : decode cX8_set 0 = .ok (.iload_n 1, 1) := by decide +kernel
theorem dX8_set_1 : decode cX8_set 1 = .ok (.iload_n 2, 1) := by decide +kernel
theorem dX8_set_2 : decode cX8_set 2 = .ok (.invokestatic 98, 3) := by decide +kernel
theorem dX8_set_5 : decode cX8_set 5 = .ok (.ifCond .ne 5, 3) := by decide +kernel
theorem dX8_set_8 : decode cX8_set 8 = .ok (.iconst (-1), 1) := by decide +kernel
theorem dX8_set_9 : decode cX8_set 9 = .ok (.ireturn, 1) := by decide +kernel
theorem dX8_set_10 : decode cX8_set 10 = .ok (.aload_n 0, 1) := by decide +kernel
theorem dX8_set_11 : decode cX8_set 11 = .ok (.getfield 50, 3) := by decide +kernel
theorem dX8_set_14 : decode cX8_set 14 = .ok (.aload_n 0, 1) := by decide +kernel
theorem dX8_set_15 : decode cX8_set 15 = .ok (.getfield 12, 3) := by decide +kernel
theorem dX8_set_18 : decode cX8_set 18 = .ok (.invokevirtual 66, 3) := by decide +kernel
theorem dX8_set_21 : decode cX8_set 21 = .ok (.iload_n 1, 1) := by decide +kernel
theorem dX8_set_22 : decode cX8_set 22 = .ok (.ifCond .ne 13, 3) := by decide +kernel
theorem dX8_set_25 : decode cX8_set 25 = .ok (.aload_n 0, 1) := by decide +kernel
theorem dX8_set_26 : decode cX8_set 26 = .ok (.getfield 12, 3) := by decide +kernel
theorem dX8_set_29 : decode cX8_set 29 = .ok (.getfield 102, 3) := by decide +kernel
theorem dX8_set_32 : decode cX8_set 32 = .ok (.goto 10, 3) := by decide +kernel
theorem dX8_set_35 : decode cX8_set 35 = .ok (.aload_n 0, 1) := by decide +kernel
theorem dX8_set_36 : decode cX8_set 36 = .ok (.getfield 12, 3) := by decide +kernel
theorem dX8_set_39 : decode cX8_set 39 = .ok (.getfield 105, 3) := by decide +kernel
theorem dX8_set_42 : decode cX8_set 42 = .ok (.istore_n 3, 1) := by decide +kernel
theorem dX8_set_43 : decode cX8_set 43 = .ok (.iload_n 1, 1) := by decide +kernel
theorem dX8_set_44 : decode cX8_set 44 = .ok (.ifCond .ne 14, 3) := by decide +kernel
theorem dX8_set_47 : decode cX8_set 47 = .ok (.aload_n 0, 1) := by decide +kernel
theorem dX8_set_48 : decode cX8_set 48 = .ok (.getfield 12, 3) := by decide +kernel
theorem dX8_set_51 : decode cX8_set 51 = .ok (.iload_n 2, 1) := by decide +kernel
theorem dX8_set_52 : decode cX8_set 52 = .ok (.putfield 102, 3) := by decide +kernel
theorem dX8_set_55 : decode cX8_set 55 = .ok (.goto 11, 3) := by decide +kernel
theorem dX8_set_58 : decode cX8_set 58 = .ok (.aload_n 0, 1) := by decide +kernel
theorem dX8_set_59 : decode cX8_set 59 = .ok (.getfield 12, 3) := by decide +kernel
theorem dX8_set_62 : decode cX8_set 62 = .ok (.iload_n 2, 1) := by decide +kernel
theorem dX8_set_63 : decode cX8_set 63 = .ok (.putfield 105, 3) := by decide +kernel
theorem dX8_set_66 : decode cX8_set 66 = .ok (.aload_n 0, 1) := by decide +kernel
theorem dX8_set_67 : decode cX8_set 67 = .ok (.getfield 12, 3) := by decide +kernel
theorem dX8_set_70 : decode cX8_set 70 = .ok (.invokevirtual 85, 3) := by decide +kernel
theorem dX8_set_73 : decode cX8_set 73 = .ok (.aload_n 0, 1) := by decide +kernel
theorem dX8_set_74 : decode cX8_set 74 = .ok (.invokevirtual 88, 3) := by decide +kernel
theorem dX8_set_77 : decode cX8_set 77 = .ok (.iload_n 3, 1) := by decide +kernel
theorem dX8_set_78 : decode cX8_set 78 = .ok (.ireturn, 1) := by decide +kernel
theorem dX8_letter_0 : decode cX8_letter 0 = .ok (.iload_n 1, 1) := by decide +kernel
theorem dX8_letter_1 : decode cX8_letter 1 = .ok (.ifCond .ge 5, 3) := by decide +kernel
theorem dX8_letter_4 : decode cX8_letter 4 = .ok (.iconst (-1), 1) := by decide +kernel
theorem dX8_letter_5 : decode cX8_letter 5 = .ok (.ireturn, 1) := by decide +kernel
theorem dX8_letter_6 : decode cX8_letter 6 = .ok (.iload_n 1, 1) := by decide +kernel
theorem dX8_letter_7 : decode cX8_letter 7 = .ok (.aload_n 0, 1) := by decide +kernel
theorem dX8_letter_8 : decode cX8_letter 8 = .ok (.getfield 12, 3) := by decide +kernel
theorem dX8_letter_11 : decode cX8_letter 11 = .ok (.getfield 62, 3) := by decide +kernel
theorem dX8_letter_14 : decode cX8_letter 14 = .ok (.if_icmp .ge 14, 3) := by decide +kernel
theorem dX8_letter_17 : decode cX8_letter 17 = .ok (.aload_n 0, 1) := by decide +kernel
theorem dX8_letter_18 : decode cX8_letter 18 = .ok (.getfield 12, 3) := by decide +kernel
theorem dX8_letter_21 : decode cX8_letter 21 = .ok (.iload_n 1, 1) := by decide +kernel
theorem dX8_letter_22 : decode cX8_letter 22 = .ok (.invokevirtual 108, 3) := by decide +kernel
theorem dX8_letter_25 : decode cX8_letter 25 = .ok (.goto 5, 3) := by decide +kernel
theorem dX8_letter_28 : decode cX8_letter 28 = .ok (.bipush (-4), 2) := by decide +kernel
theorem dX8_letter_30 : decode cX8_letter 30 = .ok (.ireturn, 1) := by decide +kernel
theorem dX8_bit_0 : decode cX8_bit 0 = .ok (.iload_n 1, 1) := by decide +kernel
theorem dX8_bit_1 : decode cX8_bit 1 = .ok (.ifCond .ge 5, 3) := by decide +kernel
theorem dX8_bit_4 : decode cX8_bit 4 = .ok (.iconst (-1), 1) := by decide +kernel
theorem dX8_bit_5 : decode cX8_bit 5 = .ok (.ireturn, 1) := by decide +kernel
theorem dX8_bit_6 : decode cX8_bit 6 = .ok (.iload_n 1, 1) := by decide +kernel
theorem dX8_bit_7 : decode cX8_bit 7 = .ok (.aload_n 0, 1) := by decide +kernel
theorem dX8_bit_8 : decode cX8_bit 8 = .ok (.getfield 19, 3) := by decide +kernel
theorem dX8_bit_11 : decode cX8_bit 11 = .ok (.getfield 81, 3) := by decide +kernel
theorem dX8_bit_14 : decode cX8_bit 14 = .ok (.getfield 84, 3) := by decide +kernel
theorem dX8_bit_17 : decode cX8_bit 17 = .ok (.if_icmp .ge 17, 3) := by decide +kernel
theorem dX8_bit_20 : decode cX8_bit 20 = .ok (.aload_n 0, 1) := by decide +kernel
theorem dX8_bit_21 : decode cX8_bit 21 = .ok (.getfield 19, 3) := by decide +kernel
theorem dX8_bit_24 : decode cX8_bit 24 = .ok (.getfield 81, 3) := by decide +kernel
theorem dX8_bit_27 : decode cX8_bit 27 = .ok (.iload_n 1, 1) := by decide +kernel
theorem dX8_bit_28 : decode cX8_bit 28 = .ok (.invokevirtual 111, 3) := by decide +kernel
theorem dX8_bit_31 : decode cX8_bit 31 = .ok (.goto 5, 3) := by decide +kernel
theorem dX8_bit_34 : decode cX8_bit 34 = .ok (.bipush (-4), 2) := by decide +kernel
theorem dX8_bit_36 : decode cX8_bit 36 = .ok (.ireturn, 1) := by decide +kernel
theorem dX8_letterOf_0 : decode cX8_letterOf 0 = .ok (.iload_n 1, 1) := by decide +kernel
theorem dX8_letterOf_1 : decode cX8_letterOf 1 = .ok (.ifCond .lt 18, 3) := by decide +kernel
theorem dX8_letterOf_4 : decode cX8_letterOf 4 = .ok (.iload_n 1, 1) := by decide +kernel
theorem dX8_letterOf_5 : decode cX8_letterOf 5 = .ok (.bipush 8, 2) := by decide +kernel
theorem dX8_letterOf_7 : decode cX8_letterOf 7 = .ok (.if_icmp .gt 12, 3) := by decide +kernel
theorem dX8_letterOf_10 : decode cX8_letterOf 10 = .ok (.iload_n 2, 1) := by decide +kernel
theorem dX8_letterOf_11 : decode cX8_letterOf 11 = .ok (.ifCond .lt 8, 3) := by decide +kernel
theorem dX8_letterOf_14 : decode cX8_letterOf 14 = .ok (.iload_n 2, 1) := by decide +kernel
theorem dX8_letterOf_15 : decode cX8_letterOf 15 = .ok (.iconst 3, 1) := by decide +kernel
theorem dX8_letterOf_16 : decode cX8_letterOf 16 = .ok (.if_icmp .le 5, 3) := by decide +kernel
theorem dX8_letterOf_19 : decode cX8_letterOf 19 = .ok (.iconst (-1), 1) := by decide +kernel
theorem dX8_letterOf_20 : decode cX8_letterOf 20 = .ok (.ireturn, 1) := by decide +kernel
theorem dX8_letterOf_21 : decode cX8_letterOf 21 = .ok (.iload_n 2, 1) := by decide +kernel
theorem dX8_letterOf_22 : decode cX8_letterOf 22 = .ok (.ifCond .ne 15, 3) := by decide +kernel
theorem dX8_letterOf_25 : decode cX8_letterOf 25 = .ok (.aload_n 0, 1) := by decide +kernel
theorem dX8_letterOf_26 : decode cX8_letterOf 26 = .ok (.getfield 19, 3) := by decide +kernel
theorem dX8_letterOf_29 : decode cX8_letterOf 29 = .ok (.getfield 114, 3) := by decide +kernel
theorem dX8_letterOf_32 : decode cX8_letterOf 32 = .ok (.iload_n 1, 1) := by decide +kernel
theorem dX8_letterOf_33 : decode cX8_letterOf 33 = .ok (.invokevirtual 118, 3) := by decide +kernel
theorem dX8_letterOf_36 : decode cX8_letterOf 36 = .ok (.ireturn, 1) := by decide +kernel
theorem dX8_letterOf_37 : decode cX8_letterOf 37 = .ok (.iload_n 2, 1) := by decide +kernel
theorem dX8_letterOf_38 : decode cX8_letterOf 38 = .ok (.iconst 1, 1) := by decide +kernel
theorem dX8_letterOf_39 : decode cX8_letterOf 39 = .ok (.if_icmp .ne 15, 3) := by decide +kernel
theorem dX8_letterOf_42 : decode cX8_letterOf 42 = .ok (.aload_n 0, 1) := by decide +kernel
theorem dX8_letterOf_43 : decode cX8_letterOf 43 = .ok (.getfield 19, 3) := by decide +kernel
theorem dX8_letterOf_46 : decode cX8_letterOf 46 = .ok (.getfield 114, 3) := by decide +kernel
theorem dX8_letterOf_49 : decode cX8_letterOf 49 = .ok (.iload_n 1, 1) := by decide +kernel
theorem dX8_letterOf_50 : decode cX8_letterOf 50 = .ok (.invokevirtual 123, 3) := by decide +kernel
theorem dX8_letterOf_53 : decode cX8_letterOf 53 = .ok (.ireturn, 1) := by decide +kernel
theorem dX8_letterOf_54 : decode cX8_letterOf 54 = .ok (.iload_n 2, 1) := by decide +kernel
theorem dX8_letterOf_55 : decode cX8_letterOf 55 = .ok (.iconst 2, 1) := by decide +kernel
theorem dX8_letterOf_56 : decode cX8_letterOf 56 = .ok (.if_icmp .ne 12, 3) := by decide +kernel
theorem dX8_letterOf_59 : decode cX8_letterOf 59 = .ok (.aload_n 0, 1) := by decide +kernel
theorem dX8_letterOf_60 : decode cX8_letterOf 60 = .ok (.getfield 12, 3) := by decide +kernel
theorem dX8_letterOf_63 : decode cX8_letterOf 63 = .ok (.iload_n 1, 1) := by decide +kernel
theorem dX8_letterOf_64 : decode cX8_letterOf 64 = .ok (.invokevirtual 126, 3) := by decide +kernel
theorem dX8_letterOf_67 : decode cX8_letterOf 67 = .ok (.ireturn, 1) := by decide +kernel
theorem dX8_letterOf_68 : decode cX8_letterOf 68 = .ok (.aload_n 0, 1) := by decide +kernel
theorem dX8_letterOf_69 : decode cX8_letterOf 69 = .ok (.getfield 12, 3) := by decide +kernel
theorem dX8_letterOf_72 : decode cX8_letterOf 72 = .ok (.getfield 58, 3) := by decide +kernel
theorem dX8_letterOf_75 : decode cX8_letterOf 75 = .ok (.ifCond .eq 8, 3) := by decide +kernel
theorem dX8_letterOf_78 : decode cX8_letterOf 78 = .ok (.bipush (-2), 2) := by decide +kernel
theorem dX8_letterOf_80 : decode cX8_letterOf 80 = .ok (.goto 8, 3) := by decide +kernel
theorem dX8_letterOf_83 : decode cX8_letterOf 83 = .ok (.aload_n 0, 1) := by decide +kernel
theorem dX8_letterOf_84 : decode cX8_letterOf 84 = .ok (.iload_n 1, 1) := by decide +kernel
theorem dX8_letterOf_85 : decode cX8_letterOf 85 = .ok (.invokevirtual 129, 3) := by decide +kernel
theorem dX8_letterOf_88 : decode cX8_letterOf 88 = .ok (.ireturn, 1) := by decide +kernel
theorem dX8_count_0 : decode cX8_count 0 = .ok (.iload_n 1, 1) := by decide +kernel
theorem dX8_count_1 : decode cX8_count 1 = .ok (.tableswitch 194 0 12 #[67, 75, 86, 94, 105, 116, 127, 138, 154, 162, 170, 178, 186], 67) := by decide +kernel
theorem dX8_count_68 : decode cX8_count 68 = .ok (.aload_n 0, 1) := by decide +kernel
theorem dX8_count_69 : decode cX8_count 69 = .ok (.getfield 12, 3) := by decide +kernel
theorem dX8_count_72 : decode cX8_count 72 = .ok (.getfield 62, 3) := by decide +kernel
theorem dX8_count_75 : decode cX8_count 75 = .ok (.ireturn, 1) := by decide +kernel
theorem dX8_count_76 : decode cX8_count 76 = .ok (.aload_n 0, 1) := by decide +kernel
theorem dX8_count_77 : decode cX8_count 77 = .ok (.getfield 19, 3) := by decide +kernel
theorem dX8_count_80 : decode cX8_count 80 = .ok (.getfield 81, 3) := by decide +kernel
theorem dX8_count_83 : decode cX8_count 83 = .ok (.getfield 84, 3) := by decide +kernel
theorem dX8_count_86 : decode cX8_count 86 = .ok (.ireturn, 1) := by decide +kernel
theorem dX8_count_87 : decode cX8_count 87 = .ok (.aload_n 0, 1) := by decide +kernel
theorem dX8_count_88 : decode cX8_count 88 = .ok (.getfield 19, 3) := by decide +kernel
theorem dX8_count_91 : decode cX8_count 91 = .ok (.getfield 132, 3) := by decide +kernel
theorem dX8_count_94 : decode cX8_count 94 = .ok (.ireturn, 1) := by decide +kernel
theorem dX8_count_95 : decode cX8_count 95 = .ok (.aload_n 0, 1) := by decide +kernel
theorem dX8_count_96 : decode cX8_count 96 = .ok (.getfield 19, 3) := by decide +kernel
theorem dX8_count_99 : decode cX8_count 99 = .ok (.getfield 135, 3) := by decide +kernel
theorem dX8_count_102 : decode cX8_count 102 = .ok (.getfield 139, 3) := by decide +kernel
theorem dX8_count_105 : decode cX8_count 105 = .ok (.ireturn, 1) := by decide +kernel
theorem dX8_count_106 : decode cX8_count 106 = .ok (.aload_n 0, 1) := by decide +kernel
theorem dX8_count_107 : decode cX8_count 107 = .ok (.getfield 19, 3) := by decide +kernel
theorem dX8_count_110 : decode cX8_count 110 = .ok (.getfield 135, 3) := by decide +kernel
theorem dX8_count_113 : decode cX8_count 113 = .ok (.getfield 144, 3) := by decide +kernel
theorem dX8_count_116 : decode cX8_count 116 = .ok (.ireturn, 1) := by decide +kernel
theorem dX8_count_117 : decode cX8_count 117 = .ok (.aload_n 0, 1) := by decide +kernel
theorem dX8_count_118 : decode cX8_count 118 = .ok (.getfield 19, 3) := by decide +kernel
theorem dX8_count_121 : decode cX8_count 121 = .ok (.getfield 114, 3) := by decide +kernel
theorem dX8_count_124 : decode cX8_count 124 = .ok (.getfield 147, 3) := by decide +kernel
theorem dX8_count_127 : decode cX8_count 127 = .ok (.ireturn, 1) := by decide +kernel
theorem dX8_count_128 : decode cX8_count 128 = .ok (.aload_n 0, 1) := by decide +kernel
theorem dX8_count_129 : decode cX8_count 129 = .ok (.getfield 19, 3) := by decide +kernel
theorem dX8_count_132 : decode cX8_count 132 = .ok (.getfield 114, 3) := by decide +kernel
theorem dX8_count_135 : decode cX8_count 135 = .ok (.getfield 150, 3) := by decide +kernel
theorem dX8_count_138 : decode cX8_count 138 = .ok (.ireturn, 1) := by decide +kernel
theorem dX8_count_139 : decode cX8_count 139 = .ok (.aload_n 0, 1) := by decide +kernel
theorem dX8_count_140 : decode cX8_count 140 = .ok (.getfield 12, 3) := by decide +kernel
theorem dX8_count_143 : decode cX8_count 143 = .ok (.getfield 58, 3) := by decide +kernel
theorem dX8_count_146 : decode cX8_count 146 = .ok (.ifCond .eq 7, 3) := by decide +kernel
theorem dX8_count_149 : decode cX8_count 149 = .ok (.iconst 1, 1) := by decide +kernel
theorem dX8_count_150 : decode cX8_count 150 = .ok (.goto 4, 3) := by decide +kernel
theorem dX8_count_153 : decode cX8_count 153 = .ok (.iconst 0, 1) := by decide +kernel
theorem dX8_count_154 : decode cX8_count 154 = .ok (.ireturn, 1) := by decide +kernel
theorem dX8_count_155 : decode cX8_count 155 = .ok (.aload_n 0, 1) := by decide +kernel
theorem dX8_count_156 : decode cX8_count 156 = .ok (.getfield 50, 3) := by decide +kernel
theorem dX8_count_159 : decode cX8_count 159 = .ok (.getfield 153, 3) := by decide +kernel
theorem dX8_count_162 : decode cX8_count 162 = .ok (.ireturn, 1) := by decide +kernel
theorem dX8_count_163 : decode cX8_count 163 = .ok (.aload_n 0, 1) := by decide +kernel
theorem dX8_count_164 : decode cX8_count 164 = .ok (.getfield 36, 3) := by decide +kernel
theorem dX8_count_167 : decode cX8_count 167 = .ok (.getfield 154, 3) := by decide +kernel
theorem dX8_count_170 : decode cX8_count 170 = .ok (.ireturn, 1) := by decide +kernel
theorem dX8_count_171 : decode cX8_count 171 = .ok (.aload_n 0, 1) := by decide +kernel
theorem dX8_count_172 : decode cX8_count 172 = .ok (.getfield 12, 3) := by decide +kernel
theorem dX8_count_175 : decode cX8_count 175 = .ok (.getfield 102, 3) := by decide +kernel
theorem dX8_count_178 : decode cX8_count 178 = .ok (.ireturn, 1) := by decide +kernel
theorem dX8_count_179 : decode cX8_count 179 = .ok (.aload_n 0, 1) := by decide +kernel
theorem dX8_count_180 : decode cX8_count 180 = .ok (.getfield 12, 3) := by decide +kernel
theorem dX8_count_183 : decode cX8_count 183 = .ok (.getfield 105, 3) := by decide +kernel
theorem dX8_count_186 : decode cX8_count 186 = .ok (.ireturn, 1) := by decide +kernel
theorem dX8_count_187 : decode cX8_count 187 = .ok (.aload_n 0, 1) := by decide +kernel
theorem dX8_count_188 : decode cX8_count 188 = .ok (.getfield 19, 3) := by decide +kernel
theorem dX8_count_191 : decode cX8_count 191 = .ok (.invokevirtual 155, 3) := by decide +kernel
theorem dX8_count_194 : decode cX8_count 194 = .ok (.ireturn, 1) := by decide +kernel
theorem dX8_count_195 : decode cX8_count 195 = .ok (.iconst (-1), 1) := by decide +kernel
theorem dX8_count_196 : decode cX8_count 196 = .ok (.ireturn, 1) := by decide +kernel
theorem dX8_cost_0 : decode cX8_cost 0 = .ok (.iload_n 1, 1) := by decide +kernel
theorem dX8_cost_1 : decode cX8_cost 1 = .ok (.ifCond .ge 5, 3) := by decide +kernel
theorem dX8_cost_4 : decode cX8_cost 4 = .ok (.iconst (-1), 1) := by decide +kernel
theorem dX8_cost_5 : decode cX8_cost 5 = .ok (.ireturn, 1) := by decide +kernel
theorem dX8_cost_6 : decode cX8_cost 6 = .ok (.iload_n 1, 1) := by decide +kernel
theorem dX8_cost_7 : decode cX8_cost 7 = .ok (.aload_n 0, 1) := by decide +kernel
theorem dX8_cost_8 : decode cX8_cost 8 = .ok (.getfield 12, 3) := by decide +kernel
theorem dX8_cost_11 : decode cX8_cost 11 = .ok (.getfield 62, 3) := by decide +kernel
theorem dX8_cost_14 : decode cX8_cost 14 = .ok (.if_icmp .ge 14, 3) := by decide +kernel
theorem dX8_cost_17 : decode cX8_cost 17 = .ok (.aload_n 0, 1) := by decide +kernel
theorem dX8_cost_18 : decode cX8_cost 18 = .ok (.getfield 19, 3) := by decide +kernel
theorem dX8_cost_21 : decode cX8_cost 21 = .ok (.iload_n 1, 1) := by decide +kernel
theorem dX8_cost_22 : decode cX8_cost 22 = .ok (.invokevirtual 159, 3) := by decide +kernel
theorem dX8_cost_25 : decode cX8_cost 25 = .ok (.goto 5, 3) := by decide +kernel
theorem dX8_cost_28 : decode cX8_cost 28 = .ok (.bipush (-4), 2) := by decide +kernel
theorem dX8_cost_30 : decode cX8_cost 30 = .ok (.ireturn, 1) := by decide +kernel
theorem dX8_bitsBy_0 : decode cX8_bitsBy 0 = .ok (.iload_n 1, 1) := by decide +kernel
theorem dX8_bitsBy_1 : decode cX8_bitsBy 1 = .ok (.invokestatic 162, 3) := by decide +kernel
theorem dX8_bitsBy_4 : decode cX8_bitsBy 4 = .ok (.ifCond .ne 5, 3) := by decide +kernel
theorem dX8_bitsBy_7 : decode cX8_bitsBy 7 = .ok (.iconst (-1), 1) := by decide +kernel
theorem dX8_bitsBy_8 : decode cX8_bitsBy 8 = .ok (.ireturn, 1) := by decide +kernel
theorem dX8_bitsBy_9 : decode cX8_bitsBy 9 = .ok (.aload_n 0, 1) := by decide +kernel
theorem dX8_bitsBy_10 : decode cX8_bitsBy 10 = .ok (.iload_n 1, 1) := by decide +kernel
theorem dX8_bitsBy_11 : decode cX8_bitsBy 11 = .ok (.invokevirtual 165, 3) := by decide +kernel
theorem dX8_bitsBy_14 : decode cX8_bitsBy 14 = .ok (.ireturn, 1) := by decide +kernel
theorem dX8_bestPace_0 : decode cX8_bestPace 0 = .ok (.iconst 1, 1) := by decide +kernel
theorem dX8_bestPace_1 : decode cX8_bestPace 1 = .ok (.istore_n 1, 1) := by decide +kernel
theorem dX8_bestPace_2 : decode cX8_bestPace 2 = .ok (.aload_n 0, 1) := by decide +kernel
theorem dX8_bestPace_3 : decode cX8_bestPace 3 = .ok (.iload_n 1, 1) := by decide +kernel
theorem dX8_bestPace_4 : decode cX8_bestPace 4 = .ok (.invokevirtual 165, 3) := by decide +kernel
theorem dX8_bestPace_7 : decode cX8_bestPace 7 = .ok (.istore_n 2, 1) := by decide +kernel
theorem dX8_bestPace_8 : decode cX8_bestPace 8 = .ok (.iconst 2, 1) := by decide +kernel
theorem dX8_bestPace_9 : decode cX8_bestPace 9 = .ok (.istore_n 3, 1) := by decide +kernel
theorem dX8_bestPace_10 : decode cX8_bestPace 10 = .ok (.iload_n 3, 1) := by decide +kernel
theorem dX8_bestPace_11 : decode cX8_bestPace 11 = .ok (.bipush 64, 2) := by decide +kernel
theorem dX8_bestPace_13 : decode cX8_bestPace 13 = .ok (.if_icmp .gt 27, 3) := by decide +kernel
theorem dX8_bestPace_16 : decode cX8_bestPace 16 = .ok (.aload_n 0, 1) := by decide +kernel
theorem dX8_bestPace_17 : decode cX8_bestPace 17 = .ok (.iload_n 3, 1) := by decide +kernel
theorem dX8_bestPace_18 : decode cX8_bestPace 18 = .ok (.invokevirtual 165, 3) := by decide +kernel
theorem dX8_bestPace_21 : decode cX8_bestPace 21 = .ok (.istore 4, 2) := by decide +kernel
theorem dX8_bestPace_23 : decode cX8_bestPace 23 = .ok (.iload 4, 2) := by decide +kernel
theorem dX8_bestPace_25 : decode cX8_bestPace 25 = .ok (.iload_n 2, 1) := by decide +kernel
theorem dX8_bestPace_26 : decode cX8_bestPace 26 = .ok (.if_icmp .ge 8, 3) := by decide +kernel
theorem dX8_bestPace_29 : decode cX8_bestPace 29 = .ok (.iload 4, 2) := by decide +kernel
theorem dX8_bestPace_31 : decode cX8_bestPace 31 = .ok (.istore_n 2, 1) := by decide +kernel
theorem dX8_bestPace_32 : decode cX8_bestPace 32 = .ok (.iload_n 3, 1) := by decide +kernel
theorem dX8_bestPace_33 : decode cX8_bestPace 33 = .ok (.istore_n 1, 1) := by decide +kernel
theorem dX8_bestPace_34 : decode cX8_bestPace 34 = .ok (.iinc 3 1, 3) := by decide +kernel
theorem dX8_bestPace_37 : decode cX8_bestPace 37 = .ok (.goto (-27), 3) := by decide +kernel
theorem dX8_bestPace_40 : decode cX8_bestPace 40 = .ok (.iload_n 1, 1) := by decide +kernel
theorem dX8_bestPace_41 : decode cX8_bestPace 41 = .ok (.ireturn, 1) := by decide +kernel
theorem dX8_readBack_0 : decode cX8_readBack 0 = .ok (.iload_n 1, 1) := by decide +kernel
theorem dX8_readBack_1 : decode cX8_readBack 1 = .ok (.ifCond .lt 8, 3) := by decide +kernel
theorem dX8_readBack_4 : decode cX8_readBack 4 = .ok (.iload_n 1, 1) := by decide +kernel
theorem dX8_readBack_5 : decode cX8_readBack 5 = .ok (.iconst 2, 1) := by decide +kernel
theorem dX8_readBack_6 : decode cX8_readBack 6 = .ok (.if_icmp .le 5, 3) := by decide +kernel
theorem dX8_readBack_9 : decode cX8_readBack 9 = .ok (.iconst (-1), 1) := by decide +kernel
theorem dX8_readBack_10 : decode cX8_readBack 10 = .ok (.ireturn, 1) := by decide +kernel
theorem dX8_readBack_11 : decode cX8_readBack 11 = .ok (.aload_n 0, 1) := by decide +kernel
theorem dX8_readBack_12 : decode cX8_readBack 12 = .ok (.getfield 29, 3) := by decide +kernel
theorem dX8_readBack_15 : decode cX8_readBack 15 = .ok (.aload_n 0, 1) := by decide +kernel
theorem dX8_readBack_16 : decode cX8_readBack 16 = .ok (.getfield 19, 3) := by decide +kernel
theorem dX8_readBack_19 : decode cX8_readBack 19 = .ok (.getfield 81, 3) := by decide +kernel
theorem dX8_readBack_22 : decode cX8_readBack 22 = .ok (.aload_n 0, 1) := by decide +kernel
theorem dX8_readBack_23 : decode cX8_readBack 23 = .ok (.getfield 12, 3) := by decide +kernel
theorem dX8_readBack_26 : decode cX8_readBack 26 = .ok (.getfield 102, 3) := by decide +kernel
theorem dX8_readBack_29 : decode cX8_readBack 29 = .ok (.aload_n 0, 1) := by decide +kernel
theorem dX8_readBack_30 : decode cX8_readBack 30 = .ok (.getfield 12, 3) := by decide +kernel
theorem dX8_readBack_33 : decode cX8_readBack 33 = .ok (.getfield 105, 3) := by decide +kernel
theorem dX8_readBack_36 : decode cX8_readBack 36 = .ok (.invokevirtual 168, 3) := by decide +kernel
theorem dX8_readBack_39 : decode cX8_readBack 39 = .ok (.iload_n 1, 1) := by decide +kernel
theorem dX8_readBack_40 : decode cX8_readBack 40 = .ok (.ifCond .ne 11, 3) := by decide +kernel
theorem dX8_readBack_43 : decode cX8_readBack 43 = .ok (.aload_n 0, 1) := by decide +kernel
theorem dX8_readBack_44 : decode cX8_readBack 44 = .ok (.getfield 29, 3) := by decide +kernel
theorem dX8_readBack_47 : decode cX8_readBack 47 = .ok (.getfield 172, 3) := by decide +kernel
theorem dX8_readBack_50 : decode cX8_readBack 50 = .ok (.ireturn, 1) := by decide +kernel
theorem dX8_readBack_51 : decode cX8_readBack 51 = .ok (.iload_n 1, 1) := by decide +kernel
theorem dX8_readBack_52 : decode cX8_readBack 52 = .ok (.iconst 1, 1) := by decide +kernel
theorem dX8_readBack_53 : decode cX8_readBack 53 = .ok (.if_icmp .ne 19, 3) := by decide +kernel
theorem dX8_readBack_56 : decode cX8_readBack 56 = .ok (.aload_n 0, 1) := by decide +kernel
theorem dX8_readBack_57 : decode cX8_readBack 57 = .ok (.getfield 29, 3) := by decide +kernel
theorem dX8_readBack_60 : decode cX8_readBack 60 = .ok (.getfield 173, 3) := by decide +kernel
theorem dX8_readBack_63 : decode cX8_readBack 63 = .ok (.ifCond .eq 7, 3) := by decide +kernel
theorem dX8_readBack_66 : decode cX8_readBack 66 = .ok (.iconst 1, 1) := by decide +kernel
theorem dX8_readBack_67 : decode cX8_readBack 67 = .ok (.goto 4, 3) := by decide +kernel
theorem dX8_readBack_70 : decode cX8_readBack 70 = .ok (.iconst 0, 1) := by decide +kernel
theorem dX8_readBack_71 : decode cX8_readBack 71 = .ok (.ireturn, 1) := by decide +kernel
theorem dX8_readBack_72 : decode cX8_readBack 72 = .ok (.aload_n 0, 1) := by decide +kernel
theorem dX8_readBack_73 : decode cX8_readBack 73 = .ok (.invokevirtual 176, 3) := by decide +kernel
theorem dX8_readBack_76 : decode cX8_readBack 76 = .ok (.ireturn, 1) := by decide +kernel
theorem dX8_undo_0 : decode cX8_undo 0 = .ok (.aload_n 0, 1) := by decide +kernel
theorem dX8_undo_1 : decode cX8_undo 1 = .ok (.getfield 50, 3) := by decide +kernel
theorem dX8_undo_4 : decode cX8_undo 4 = .ok (.getfield 153, 3) := by decide +kernel
theorem dX8_undo_7 : decode cX8_undo 7 = .ok (.ifCond .ne 6, 3) := by decide +kernel
theorem dX8_undo_10 : decode cX8_undo 10 = .ok (.bipush (-2), 2) := by decide +kernel
theorem dX8_undo_12 : decode cX8_undo 12 = .ok (.ireturn, 1) := by decide +kernel
theorem dX8_undo_13 : decode cX8_undo 13 = .ok (.aload_n 0, 1) := by decide +kernel
theorem dX8_undo_14 : decode cX8_undo 14 = .ok (.getfield 50, 3) := by decide +kernel
theorem dX8_undo_17 : decode cX8_undo 17 = .ok (.aload_n 0, 1) := by decide +kernel
theorem dX8_undo_18 : decode cX8_undo 18 = .ok (.getfield 12, 3) := by decide +kernel
theorem dX8_undo_21 : decode cX8_undo 21 = .ok (.invokevirtual 179, 3) := by decide +kernel
theorem dX8_undo_24 : decode cX8_undo 24 = .ok (.aload_n 0, 1) := by decide +kernel
theorem dX8_undo_25 : decode cX8_undo 25 = .ok (.invokevirtual 88, 3) := by decide +kernel
theorem dX8_undo_28 : decode cX8_undo 28 = .ok (.aload_n 0, 1) := by decide +kernel
theorem dX8_undo_29 : decode cX8_undo 29 = .ok (.getfield 50, 3) := by decide +kernel
theorem dX8_undo_32 : decode cX8_undo 32 = .ok (.getfield 153, 3) := by decide +kernel
theorem dX8_undo_35 : decode cX8_undo 35 = .ok (.ireturn, 1) := by decide +kernel
theorem dX8_type_0 : decode cX8_type 0 = .ok (.iload_n 1, 1) := by decide +kernel
theorem dX8_type_1 : decode cX8_type 1 = .ok (.bipush 32, 2) := by decide +kernel
theorem dX8_type_3 : decode cX8_type 3 = .ok (.if_icmp .lt 9, 3) := by decide +kernel
theorem dX8_type_6 : decode cX8_type 6 = .ok (.iload_n 1, 1) := by decide +kernel
theorem dX8_type_7 : decode cX8_type 7 = .ok (.bipush 126, 2) := by decide +kernel
theorem dX8_type_9 : decode cX8_type 9 = .ok (.if_icmp .le 5, 3) := by decide +kernel
theorem dX8_type_12 : decode cX8_type 12 = .ok (.iconst (-1), 1) := by decide +kernel
theorem dX8_type_13 : decode cX8_type 13 = .ok (.ireturn, 1) := by decide +kernel
theorem dX8_type_14 : decode cX8_type 14 = .ok (.aload_n 0, 1) := by decide +kernel
theorem dX8_type_15 : decode cX8_type 15 = .ok (.getfield 36, 3) := by decide +kernel
theorem dX8_type_18 : decode cX8_type 18 = .ok (.getfield 154, 3) := by decide +kernel
theorem dX8_type_21 : decode cX8_type 21 = .ok (.bipush 120, 2) := by decide +kernel
theorem dX8_type_23 : decode cX8_type 23 = .ok (.if_icmp .lt 6, 3) := by decide +kernel
theorem dX8_type_26 : decode cX8_type 26 = .ok (.bipush (-3), 2) := by decide +kernel
theorem dX8_type_28 : decode cX8_type 28 = .ok (.ireturn, 1) := by decide +kernel
theorem dX8_type_29 : decode cX8_type 29 = .ok (.aload_n 0, 1) := by decide +kernel
theorem dX8_type_30 : decode cX8_type 30 = .ok (.getfield 36, 3) := by decide +kernel
theorem dX8_type_33 : decode cX8_type 33 = .ok (.iload_n 1, 1) := by decide +kernel
theorem dX8_type_34 : decode cX8_type 34 = .ok (.invokevirtual 182, 3) := by decide +kernel
theorem dX8_type_37 : decode cX8_type 37 = .ok (.aload_n 0, 1) := by decide +kernel
theorem dX8_type_38 : decode cX8_type 38 = .ok (.getfield 36, 3) := by decide +kernel
theorem dX8_type_41 : decode cX8_type 41 = .ok (.getfield 154, 3) := by decide +kernel
theorem dX8_type_44 : decode cX8_type 44 = .ok (.ireturn, 1) := by decide +kernel
theorem dX8_clearText_0 : decode cX8_clearText 0 = .ok (.aload_n 0, 1) := by decide +kernel
theorem dX8_clearText_1 : decode cX8_clearText 1 = .ok (.getfield 36, 3) := by decide +kernel
theorem dX8_clearText_4 : decode cX8_clearText 4 = .ok (.getfield 154, 3) := by decide +kernel
theorem dX8_clearText_7 : decode cX8_clearText 7 = .ok (.istore_n 1, 1) := by decide +kernel
theorem dX8_clearText_8 : decode cX8_clearText 8 = .ok (.aload_n 0, 1) := by decide +kernel
theorem dX8_clearText_9 : decode cX8_clearText 9 = .ok (.getfield 36, 3) := by decide +kernel
theorem dX8_clearText_12 : decode cX8_clearText 12 = .ok (.invokevirtual 183, 3) := by decide +kernel
theorem dX8_clearText_15 : decode cX8_clearText 15 = .ok (.iload_n 1, 1) := by decide +kernel
theorem dX8_clearText_16 : decode cX8_clearText 16 = .ok (.ireturn, 1) := by decide +kernel
theorem dX8_write_0 : decode cX8_write 0 = .ok (.aload_n 0, 1) := by decide +kernel
theorem dX8_write_1 : decode cX8_write 1 = .ok (.getfield 19, 3) := by decide +kernel
theorem dX8_write_4 : decode cX8_write 4 = .ok (.getfield 81, 3) := by decide +kernel
theorem dX8_write_7 : decode cX8_write 7 = .ok (.getfield 84, 3) := by decide +kernel
theorem dX8_write_10 : decode cX8_write 10 = .ok (.bipush 120, 2) := by decide +kernel
theorem dX8_write_12 : decode cX8_write 12 = .ok (.if_icmp .le 6, 3) := by decide +kernel
theorem dX8_write_15 : decode cX8_write 15 = .ok (.bipush (-3), 2) := by decide +kernel
theorem dX8_write_17 : decode cX8_write 17 = .ok (.ireturn, 1) := by decide +kernel
theorem dX8_write_18 : decode cX8_write 18 = .ok (.aload_n 0, 1) := by decide +kernel
theorem dX8_write_19 : decode cX8_write 19 = .ok (.getfield 36, 3) := by decide +kernel
theorem dX8_write_22 : decode cX8_write 22 = .ok (.aload_n 0, 1) := by decide +kernel
theorem dX8_write_23 : decode cX8_write 23 = .ok (.getfield 19, 3) := by decide +kernel
theorem dX8_write_26 : decode cX8_write 26 = .ok (.getfield 81, 3) := by decide +kernel
theorem dX8_write_29 : decode cX8_write 29 = .ok (.invokevirtual 184, 3) := by decide +kernel
theorem dX8_write_32 : decode cX8_write 32 = .ok (.aload_n 0, 1) := by decide +kernel
theorem dX8_write_33 : decode cX8_write 33 = .ok (.getfield 36, 3) := by decide +kernel
theorem dX8_write_36 : decode cX8_write 36 = .ok (.getfield 154, 3) := by decide +kernel
theorem dX8_write_39 : decode cX8_write 39 = .ok (.ireturn, 1) := by decide +kernel
theorem dX8_fault_0 : decode cX8_fault 0 = .ok (.iload_n 1, 1) := by decide +kernel
theorem dX8_fault_1 : decode cX8_fault 1 = .ok (.ifCond .lt 8, 3) := by decide +kernel
theorem dX8_fault_4 : decode cX8_fault 4 = .ok (.iload_n 1, 1) := by decide +kernel
theorem dX8_fault_5 : decode cX8_fault 5 = .ok (.iconst 1, 1) := by decide +kernel
theorem dX8_fault_6 : decode cX8_fault 6 = .ok (.if_icmp .le 5, 3) := by decide +kernel
theorem dX8_fault_9 : decode cX8_fault 9 = .ok (.iconst (-1), 1) := by decide +kernel
theorem dX8_fault_10 : decode cX8_fault 10 = .ok (.ireturn, 1) := by decide +kernel
theorem dX8_fault_11 : decode cX8_fault 11 = .ok (.aload_n 0, 1) := by decide +kernel
theorem dX8_fault_12 : decode cX8_fault 12 = .ok (.invokevirtual 188, 3) := by decide +kernel
theorem dX8_fault_15 : decode cX8_fault 15 = .ok (.istore_n 2, 1) := by decide +kernel
theorem dX8_fault_16 : decode cX8_fault 16 = .ok (.iload_n 2, 1) := by decide +kernel
theorem dX8_fault_17 : decode cX8_fault 17 = .ok (.ifCond .ne 6, 3) := by decide +kernel
theorem dX8_fault_20 : decode cX8_fault 20 = .ok (.bipush (-4), 2) := by decide +kernel
theorem dX8_fault_22 : decode cX8_fault 22 = .ok (.ireturn, 1) := by decide +kernel
theorem dX8_fault_23 : decode cX8_fault 23 = .ok (.iload_n 1, 1) := by decide +kernel
theorem dX8_fault_24 : decode cX8_fault 24 = .ok (.ifCond .ne 11, 3) := by decide +kernel
theorem dX8_fault_27 : decode cX8_fault 27 = .ok (.aload_n 0, 1) := by decide +kernel
theorem dX8_fault_28 : decode cX8_fault 28 = .ok (.iload_n 2, 1) := by decide +kernel
theorem dX8_fault_29 : decode cX8_fault 29 = .ok (.invokevirtual 191, 3) := by decide +kernel
theorem dX8_fault_32 : decode cX8_fault 32 = .ok (.goto 4, 3) := by decide +kernel
theorem dX8_fault_35 : decode cX8_fault 35 = .ok (.iload_n 2, 1) := by decide +kernel
theorem dX8_fault_36 : decode cX8_fault 36 = .ok (.ireturn, 1) := by decide +kernel
theorem dX8_told_0 : decode cX8_told 0 = .ok (.iload_n 1, 1) := by decide +kernel
theorem dX8_told_1 : decode cX8_told 1 = .ok (.ifCond .ge 5, 3) := by decide +kernel
theorem dX8_told_4 : decode cX8_told 4 = .ok (.iconst (-1), 1) := by decide +kernel
theorem dX8_told_5 : decode cX8_told 5 = .ok (.ireturn, 1) := by decide +kernel
theorem dX8_told_6 : decode cX8_told 6 = .ok (.aload_n 0, 1) := by decide +kernel
theorem dX8_told_7 : decode cX8_told 7 = .ok (.invokevirtual 188, 3) := by decide +kernel
theorem dX8_told_10 : decode cX8_told 10 = .ok (.ifCond .eq 6, 3) := by decide +kernel
theorem dX8_told_13 : decode cX8_told 13 = .ok (.bipush (-2), 2) := by decide +kernel
theorem dX8_told_15 : decode cX8_told 15 = .ok (.ireturn, 1) := by decide +kernel
theorem dX8_told_16 : decode cX8_told 16 = .ok (.iload_n 1, 1) := by decide +kernel
theorem dX8_told_17 : decode cX8_told 17 = .ok (.aload_n 0, 1) := by decide +kernel
theorem dX8_told_18 : decode cX8_told 18 = .ok (.getfield 29, 3) := by decide +kernel
theorem dX8_told_21 : decode cX8_told 21 = .ok (.getfield 172, 3) := by decide +kernel
theorem dX8_told_24 : decode cX8_told 24 = .ok (.if_icmp .ge 14, 3) := by decide +kernel
theorem dX8_told_27 : decode cX8_told 27 = .ok (.aload_n 0, 1) := by decide +kernel
theorem dX8_told_28 : decode cX8_told 28 = .ok (.getfield 29, 3) := by decide +kernel
theorem dX8_told_31 : decode cX8_told 31 = .ok (.iload_n 1, 1) := by decide +kernel
theorem dX8_told_32 : decode cX8_told 32 = .ok (.invokevirtual 194, 3) := by decide +kernel
theorem dX8_told_35 : decode cX8_told 35 = .ok (.goto 5, 3) := by decide +kernel
theorem dX8_told_38 : decode cX8_told 38 = .ok (.bipush (-4), 2) := by decide +kernel
theorem dX8_told_40 : decode cX8_told 40 = .ok (.ireturn, 1) := by decide +kernel
theorem dX8_isLetter_0 : decode cX8_isLetter 0 = .ok (.iload_n 0, 1) := by decide +kernel
theorem dX8_isLetter_1 : decode cX8_isLetter 1 = .ok (.ifCond .lt 13, 3) := by decide +kernel
theorem dX8_isLetter_4 : decode cX8_isLetter 4 = .ok (.iload_n 0, 1) := by decide +kernel
theorem dX8_isLetter_5 : decode cX8_isLetter 5 = .ok (.bipush 8, 2) := by decide +kernel
theorem dX8_isLetter_7 : decode cX8_isLetter 7 = .ok (.if_icmp .ge 7, 3) := by decide +kernel
theorem dX8_isLetter_10 : decode cX8_isLetter 10 = .ok (.iconst 1, 1) := by decide +kernel
theorem dX8_isLetter_11 : decode cX8_isLetter 11 = .ok (.goto 4, 3) := by decide +kernel
theorem dX8_isLetter_14 : decode cX8_isLetter 14 = .ok (.iconst 0, 1) := by decide +kernel
theorem dX8_isLetter_15 : decode cX8_isLetter 15 = .ok (.ireturn, 1) := by decide +kernel
theorem dX8_isPace_0 : decode cX8_isPace 0 = .ok (.iload_n 0, 1) := by decide +kernel
theorem dX8_isPace_1 : decode cX8_isPace 1 = .ok (.iconst 1, 1) := by decide +kernel
theorem dX8_isPace_2 : decode cX8_isPace 2 = .ok (.if_icmp .lt 13, 3) := by decide +kernel
theorem dX8_isPace_5 : decode cX8_isPace 5 = .ok (.iload_n 0, 1) := by decide +kernel
theorem dX8_isPace_6 : decode cX8_isPace 6 = .ok (.bipush 64, 2) := by decide +kernel
theorem dX8_isPace_8 : decode cX8_isPace 8 = .ok (.if_icmp .gt 7, 3) := by decide +kernel
theorem dX8_isPace_11 : decode cX8_isPace 11 = .ok (.iconst 1, 1) := by decide +kernel
theorem dX8_isPace_12 : decode cX8_isPace 12 = .ok (.goto 4, 3) := by decide +kernel
theorem dX8_isPace_15 : decode cX8_isPace 15 = .ok (.iconst 0, 1) := by decide +kernel
theorem dX8_isPace_16 : decode cX8_isPace 16 = .ok (.ireturn, 1) := by decide +kernel
theorem dX8_isSetting_0 : decode cX8_isSetting 0 = .ok (.iload_n 0, 1) := by decide +kernel
theorem dX8_isSetting_1 : decode cX8_isSetting 1 = .ok (.ifCond .ne 8, 3) := by decide +kernel
theorem dX8_isSetting_4 : decode cX8_isSetting 4 = .ok (.iload_n 1, 1) := by decide +kernel
theorem dX8_isSetting_5 : decode cX8_isSetting 5 = .ok (.invokestatic 162, 3) := by decide +kernel
theorem dX8_isSetting_8 : decode cX8_isSetting 8 = .ok (.ireturn, 1) := by decide +kernel
theorem dX8_isSetting_9 : decode cX8_isSetting 9 = .ok (.iload_n 0, 1) := by decide +kernel
theorem dX8_isSetting_10 : decode cX8_isSetting 10 = .ok (.iconst 1, 1) := by decide +kernel
theorem dX8_isSetting_11 : decode cX8_isSetting 11 = .ok (.if_icmp .ne 20, 3) := by decide +kernel
theorem dX8_isSetting_14 : decode cX8_isSetting 14 = .ok (.iload_n 1, 1) := by decide +kernel
theorem dX8_isSetting_15 : decode cX8_isSetting 15 = .ok (.bipush 32, 2) := by decide +kernel
theorem dX8_isSetting_17 : decode cX8_isSetting 17 = .ok (.if_icmp .lt 14, 3) := by decide +kernel
theorem dX8_isSetting_20 : decode cX8_isSetting 20 = .ok (.iload_n 1, 1) := by decide +kernel
theorem dX8_isSetting_21 : decode cX8_isSetting 21 = .ok (.sipush 2000, 3) := by decide +kernel
theorem dX8_isSetting_24 : decode cX8_isSetting 24 = .ok (.if_icmp .gt 7, 3) := by decide +kernel
theorem dX8_isSetting_27 : decode cX8_isSetting 27 = .ok (.iconst 1, 1) := by decide +kernel
theorem dX8_isSetting_28 : decode cX8_isSetting 28 = .ok (.goto 4, 3) := by decide +kernel
theorem dX8_isSetting_31 : decode cX8_isSetting 31 = .ok (.iconst 0, 1) := by decide +kernel
theorem dX8_isSetting_32 : decode cX8_isSetting 32 = .ok (.ireturn, 1) := by decide +kernel
theorem dX8_writeAnew_0 : decode cX8_writeAnew 0 = .ok (.aload_n 0, 1) := by decide +kernel
theorem dX8_writeAnew_1 : decode cX8_writeAnew 1 = .ok (.getfield 19, 3) := by decide +kernel
theorem dX8_writeAnew_4 : decode cX8_writeAnew 4 = .ok (.aload_n 0, 1) := by decide +kernel
theorem dX8_writeAnew_5 : decode cX8_writeAnew 5 = .ok (.getfield 12, 3) := by decide +kernel
theorem dX8_writeAnew_8 : decode cX8_writeAnew 8 = .ok (.getfield 102, 3) := by decide +kernel
theorem dX8_writeAnew_11 : decode cX8_writeAnew 11 = .ok (.aload_n 0, 1) := by decide +kernel
theorem dX8_writeAnew_12 : decode cX8_writeAnew 12 = .ok (.getfield 12, 3) := by decide +kernel
theorem dX8_writeAnew_15 : decode cX8_writeAnew 15 = .ok (.getfield 105, 3) := by decide +kernel
theorem dX8_writeAnew_18 : decode cX8_writeAnew 18 = .ok (.invokevirtual 195, 3) := by decide +kernel
theorem dX8_writeAnew_21 : decode cX8_writeAnew 21 = .ok (.aload_n 0, 1) := by decide +kernel
theorem dX8_writeAnew_22 : decode cX8_writeAnew 22 = .ok (.getfield 19, 3) := by decide +kernel
theorem dX8_writeAnew_25 : decode cX8_writeAnew 25 = .ok (.aload_n 0, 1) := by decide +kernel
theorem dX8_writeAnew_26 : decode cX8_writeAnew 26 = .ok (.getfield 12, 3) := by decide +kernel
theorem dX8_writeAnew_29 : decode cX8_writeAnew 29 = .ok (.invokevirtual 198, 3) := by decide +kernel
theorem dX8_writeAnew_32 : decode cX8_writeAnew 32 = .ok (.aload_n 0, 1) := by decide +kernel
theorem dX8_writeAnew_33 : decode cX8_writeAnew 33 = .ok (.getfield 12, 3) := by decide +kernel
theorem dX8_writeAnew_36 : decode cX8_writeAnew 36 = .ok (.getfield 58, 3) := by decide +kernel
theorem dX8_writeAnew_39 : decode cX8_writeAnew 39 = .ok (.ifCond .eq 10, 3) := by decide +kernel
theorem dX8_writeAnew_42 : decode cX8_writeAnew 42 = .ok (.aload_n 0, 1) := by decide +kernel
theorem dX8_writeAnew_43 : decode cX8_writeAnew 43 = .ok (.getfield 19, 3) := by decide +kernel
theorem dX8_writeAnew_46 : decode cX8_writeAnew 46 = .ok (.invokevirtual 78, 3) := by decide +kernel
theorem dX8_writeAnew_49 : decode cX8_writeAnew 49 = .ok (.return_, 1) := by decide +kernel
theorem dX8_bitsMoreWith_0 : decode cX8_bitsMoreWith 0 = .ok (.aload_n 0, 1) := by decide +kernel
theorem dX8_bitsMoreWith_1 : decode cX8_bitsMoreWith 1 = .ok (.getfield 23, 3) := by decide +kernel
theorem dX8_bitsMoreWith_4 : decode cX8_bitsMoreWith 4 = .ok (.aload_n 0, 1) := by decide +kernel
theorem dX8_bitsMoreWith_5 : decode cX8_bitsMoreWith 5 = .ok (.getfield 12, 3) := by decide +kernel
theorem dX8_bitsMoreWith_8 : decode cX8_bitsMoreWith 8 = .ok (.getfield 102, 3) := by decide +kernel
theorem dX8_bitsMoreWith_11 : decode cX8_bitsMoreWith 11 = .ok (.aload_n 0, 1) := by decide +kernel
theorem dX8_bitsMoreWith_12 : decode cX8_bitsMoreWith 12 = .ok (.getfield 12, 3) := by decide +kernel
theorem dX8_bitsMoreWith_15 : decode cX8_bitsMoreWith 15 = .ok (.getfield 105, 3) := by decide +kernel
theorem dX8_bitsMoreWith_18 : decode cX8_bitsMoreWith 18 = .ok (.invokevirtual 195, 3) := by decide +kernel
theorem dX8_bitsMoreWith_21 : decode cX8_bitsMoreWith 21 = .ok (.aload_n 0, 1) := by decide +kernel
theorem dX8_bitsMoreWith_22 : decode cX8_bitsMoreWith 22 = .ok (.getfield 23, 3) := by decide +kernel
theorem dX8_bitsMoreWith_25 : decode cX8_bitsMoreWith 25 = .ok (.aload_n 0, 1) := by decide +kernel
theorem dX8_bitsMoreWith_26 : decode cX8_bitsMoreWith 26 = .ok (.getfield 12, 3) := by decide +kernel
theorem dX8_bitsMoreWith_29 : decode cX8_bitsMoreWith 29 = .ok (.invokevirtual 198, 3) := by decide +kernel
theorem dX8_bitsMoreWith_32 : decode cX8_bitsMoreWith 32 = .ok (.iload_n 1, 1) := by decide +kernel
theorem dX8_bitsMoreWith_33 : decode cX8_bitsMoreWith 33 = .ok (.bipush 8, 2) := by decide +kernel
theorem dX8_bitsMoreWith_35 : decode cX8_bitsMoreWith 35 = .ok (.if_icmp .eq 12, 3) := by decide +kernel
theorem dX8_bitsMoreWith_38 : decode cX8_bitsMoreWith 38 = .ok (.aload_n 0, 1) := by decide +kernel
theorem dX8_bitsMoreWith_39 : decode cX8_bitsMoreWith 39 = .ok (.getfield 23, 3) := by decide +kernel
theorem dX8_bitsMoreWith_42 : decode cX8_bitsMoreWith 42 = .ok (.iload_n 1, 1) := by decide +kernel
theorem dX8_bitsMoreWith_43 : decode cX8_bitsMoreWith 43 = .ok (.invokevirtual 74, 3) := by decide +kernel
theorem dX8_bitsMoreWith_46 : decode cX8_bitsMoreWith 46 = .ok (.ireturn, 1) := by decide +kernel
theorem dX8_bitsMoreWith_47 : decode cX8_bitsMoreWith 47 = .ok (.aload_n 0, 1) := by decide +kernel
theorem dX8_bitsMoreWith_48 : decode cX8_bitsMoreWith 48 = .ok (.getfield 23, 3) := by decide +kernel
theorem dX8_bitsMoreWith_51 : decode cX8_bitsMoreWith 51 = .ok (.getfield 81, 3) := by decide +kernel
theorem dX8_bitsMoreWith_54 : decode cX8_bitsMoreWith 54 = .ok (.getfield 84, 3) := by decide +kernel
theorem dX8_bitsMoreWith_57 : decode cX8_bitsMoreWith 57 = .ok (.istore_n 2, 1) := by decide +kernel
theorem dX8_bitsMoreWith_58 : decode cX8_bitsMoreWith 58 = .ok (.aload_n 0, 1) := by decide +kernel
theorem dX8_bitsMoreWith_59 : decode cX8_bitsMoreWith 59 = .ok (.getfield 23, 3) := by decide +kernel
theorem dX8_bitsMoreWith_62 : decode cX8_bitsMoreWith 62 = .ok (.invokevirtual 78, 3) := by decide +kernel
theorem dX8_bitsMoreWith_65 : decode cX8_bitsMoreWith 65 = .ok (.aload_n 0, 1) := by decide +kernel
theorem dX8_bitsMoreWith_66 : decode cX8_bitsMoreWith 66 = .ok (.getfield 23, 3) := by decide +kernel
theorem dX8_bitsMoreWith_69 : decode cX8_bitsMoreWith 69 = .ok (.getfield 81, 3) := by decide +kernel
theorem dX8_bitsMoreWith_72 : decode cX8_bitsMoreWith 72 = .ok (.getfield 84, 3) := by decide +kernel
theorem dX8_bitsMoreWith_75 : decode cX8_bitsMoreWith 75 = .ok (.iload_n 2, 1) := by decide +kernel
theorem dX8_bitsMoreWith_76 : decode cX8_bitsMoreWith 76 = .ok (.isub, 1) := by decide +kernel
theorem dX8_bitsMoreWith_77 : decode cX8_bitsMoreWith 77 = .ok (.ireturn, 1) := by decide +kernel
theorem dX8_bitsEnded_0 : decode cX8_bitsEnded 0 = .ok (.aload_n 0, 1) := by decide +kernel
theorem dX8_bitsEnded_1 : decode cX8_bitsEnded 1 = .ok (.getfield 23, 3) := by decide +kernel
theorem dX8_bitsEnded_4 : decode cX8_bitsEnded 4 = .ok (.iload_n 1, 1) := by decide +kernel
theorem dX8_bitsEnded_5 : decode cX8_bitsEnded 5 = .ok (.aload_n 0, 1) := by decide +kernel
theorem dX8_bitsEnded_6 : decode cX8_bitsEnded 6 = .ok (.getfield 12, 3) := by decide +kernel
theorem dX8_bitsEnded_9 : decode cX8_bitsEnded 9 = .ok (.getfield 105, 3) := by decide +kernel
theorem dX8_bitsEnded_12 : decode cX8_bitsEnded 12 = .ok (.invokevirtual 195, 3) := by decide +kernel
theorem dX8_bitsEnded_15 : decode cX8_bitsEnded 15 = .ok (.aload_n 0, 1) := by decide +kernel
theorem dX8_bitsEnded_16 : decode cX8_bitsEnded 16 = .ok (.getfield 23, 3) := by decide +kernel
theorem dX8_bitsEnded_19 : decode cX8_bitsEnded 19 = .ok (.aload_n 0, 1) := by decide +kernel
theorem dX8_bitsEnded_20 : decode cX8_bitsEnded 20 = .ok (.getfield 12, 3) := by decide +kernel
theorem dX8_bitsEnded_23 : decode cX8_bitsEnded 23 = .ok (.invokevirtual 198, 3) := by decide +kernel
theorem dX8_bitsEnded_26 : decode cX8_bitsEnded 26 = .ok (.aload_n 0, 1) := by decide +kernel
theorem dX8_bitsEnded_27 : decode cX8_bitsEnded 27 = .ok (.getfield 23, 3) := by decide +kernel
theorem dX8_bitsEnded_30 : decode cX8_bitsEnded 30 = .ok (.invokevirtual 78, 3) := by decide +kernel
theorem dX8_bitsEnded_33 : decode cX8_bitsEnded 33 = .ok (.aload_n 0, 1) := by decide +kernel
theorem dX8_bitsEnded_34 : decode cX8_bitsEnded 34 = .ok (.getfield 23, 3) := by decide +kernel
theorem dX8_bitsEnded_37 : decode cX8_bitsEnded 37 = .ok (.getfield 81, 3) := by decide +kernel
theorem dX8_bitsEnded_40 : decode cX8_bitsEnded 40 = .ok (.getfield 84, 3) := by decide +kernel
theorem dX8_bitsEnded_43 : decode cX8_bitsEnded 43 = .ok (.ireturn, 1) := by decide +kernel
theorem dX8_alikeFromFirst_0 : decode cX8_alikeFromFirst 0 = .ok (.aload_n 0, 1) := by decide +kernel
theorem dX8_alikeFromFirst_1 : decode cX8_alikeFromFirst 1 = .ok (.getfield 29, 3) := by decide +kernel
theorem dX8_alikeFromFirst_4 : decode cX8_alikeFromFirst 4 = .ok (.getfield 172, 3) := by decide +kernel
theorem dX8_alikeFromFirst_7 : decode cX8_alikeFromFirst 7 = .ok (.aload_n 0, 1) := by decide +kernel
theorem dX8_alikeFromFirst_8 : decode cX8_alikeFromFirst 8 = .ok (.getfield 12, 3) := by decide +kernel
theorem dX8_alikeFromFirst_11 : decode cX8_alikeFromFirst 11 = .ok (.getfield 62, 3) := by decide +kernel
theorem dX8_alikeFromFirst_14 : decode cX8_alikeFromFirst 14 = .ok (.invokestatic 201, 3) := by decide +kernel
theorem dX8_alikeFromFirst_17 : decode cX8_alikeFromFirst 17 = .ok (.istore_n 1, 1) := by decide +kernel
theorem dX8_alikeFromFirst_18 : decode cX8_alikeFromFirst 18 = .ok (.iconst 0, 1) := by decide +kernel
theorem dX8_alikeFromFirst_19 : decode cX8_alikeFromFirst 19 = .ok (.istore_n 2, 1) := by decide +kernel
theorem dX8_alikeFromFirst_20 : decode cX8_alikeFromFirst 20 = .ok (.iload_n 2, 1) := by decide +kernel
theorem dX8_alikeFromFirst_21 : decode cX8_alikeFromFirst 21 = .ok (.iload_n 1, 1) := by decide +kernel
theorem dX8_alikeFromFirst_22 : decode cX8_alikeFromFirst 22 = .ok (.if_icmp .ge 30, 3) := by decide +kernel
theorem dX8_alikeFromFirst_25 : decode cX8_alikeFromFirst 25 = .ok (.aload_n 0, 1) := by decide +kernel
theorem dX8_alikeFromFirst_26 : decode cX8_alikeFromFirst 26 = .ok (.getfield 29, 3) := by decide +kernel
theorem dX8_alikeFromFirst_29 : decode cX8_alikeFromFirst 29 = .ok (.iload_n 2, 1) := by decide +kernel
theorem dX8_alikeFromFirst_30 : decode cX8_alikeFromFirst 30 = .ok (.invokevirtual 194, 3) := by decide +kernel
theorem dX8_alikeFromFirst_33 : decode cX8_alikeFromFirst 33 = .ok (.aload_n 0, 1) := by decide +kernel
theorem dX8_alikeFromFirst_34 : decode cX8_alikeFromFirst 34 = .ok (.getfield 12, 3) := by decide +kernel
theorem dX8_alikeFromFirst_37 : decode cX8_alikeFromFirst 37 = .ok (.iload_n 2, 1) := by decide +kernel
theorem dX8_alikeFromFirst_38 : decode cX8_alikeFromFirst 38 = .ok (.invokevirtual 108, 3) := by decide +kernel
theorem dX8_alikeFromFirst_41 : decode cX8_alikeFromFirst 41 = .ok (.if_icmp .eq 5, 3) := by decide +kernel
theorem dX8_alikeFromFirst_44 : decode cX8_alikeFromFirst 44 = .ok (.iload_n 2, 1) := by decide +kernel
theorem dX8_alikeFromFirst_45 : decode cX8_alikeFromFirst 45 = .ok (.ireturn, 1) := by decide +kernel
theorem dX8_alikeFromFirst_46 : decode cX8_alikeFromFirst 46 = .ok (.iinc 2 1, 3) := by decide +kernel
theorem dX8_alikeFromFirst_49 : decode cX8_alikeFromFirst 49 = .ok (.goto (-29), 3) := by decide +kernel
theorem dX8_alikeFromFirst_52 : decode cX8_alikeFromFirst 52 = .ok (.iload_n 1, 1) := by decide +kernel
theorem dX8_alikeFromFirst_53 : decode cX8_alikeFromFirst 53 = .ok (.ireturn, 1) := by decide +kernel
theorem dX8_faultReason_0 : decode cX8_faultReason 0 = .ok (.aload_n 0, 1) := by decide +kernel
theorem dX8_faultReason_1 : decode cX8_faultReason 1 = .ok (.getfield 36, 3) := by decide +kernel
theorem dX8_faultReason_4 : decode cX8_faultReason 4 = .ok (.invokevirtual 207, 3) := by decide +kernel
theorem dX8_faultReason_7 : decode cX8_faultReason 7 = .ok (.aload_n 0, 1) := by decide +kernel
theorem dX8_faultReason_8 : decode cX8_faultReason 8 = .ok (.getfield 36, 3) := by decide +kernel
theorem dX8_faultReason_11 : decode cX8_faultReason 11 = .ok (.getfield 154, 3) := by decide +kernel
theorem dX8_faultReason_14 : decode cX8_faultReason 14 = .ok (.if_icmp .ge 5, 3) := by decide +kernel
theorem dX8_faultReason_17 : decode cX8_faultReason 17 = .ok (.iconst 1, 1) := by decide +kernel
theorem dX8_faultReason_18 : decode cX8_faultReason 18 = .ok (.ireturn, 1) := by decide +kernel
theorem dX8_faultReason_19 : decode cX8_faultReason 19 = .ok (.aload_n 0, 1) := by decide +kernel
theorem dX8_faultReason_20 : decode cX8_faultReason 20 = .ok (.getfield 36, 3) := by decide +kernel
theorem dX8_faultReason_23 : decode cX8_faultReason 23 = .ok (.aload_n 0, 1) := by decide +kernel
theorem dX8_faultReason_24 : decode cX8_faultReason 24 = .ok (.getfield 43, 3) := by decide +kernel
theorem dX8_faultReason_27 : decode cX8_faultReason 27 = .ok (.invokevirtual 210, 3) := by decide +kernel
theorem dX8_faultReason_30 : decode cX8_faultReason 30 = .ok (.aload_n 0, 1) := by decide +kernel
theorem dX8_faultReason_31 : decode cX8_faultReason 31 = .ok (.getfield 29, 3) := by decide +kernel
theorem dX8_faultReason_34 : decode cX8_faultReason 34 = .ok (.aload_n 0, 1) := by decide +kernel
theorem dX8_faultReason_35 : decode cX8_faultReason 35 = .ok (.getfield 43, 3) := by decide +kernel
theorem dX8_faultReason_38 : decode cX8_faultReason 38 = .ok (.aload_n 0, 1) := by decide +kernel
theorem dX8_faultReason_39 : decode cX8_faultReason 39 = .ok (.getfield 12, 3) := by decide +kernel
theorem dX8_faultReason_42 : decode cX8_faultReason 42 = .ok (.getfield 102, 3) := by decide +kernel
theorem dX8_faultReason_45 : decode cX8_faultReason 45 = .ok (.aload_n 0, 1) := by decide +kernel
theorem dX8_faultReason_46 : decode cX8_faultReason 46 = .ok (.getfield 12, 3) := by decide +kernel
theorem dX8_faultReason_49 : decode cX8_faultReason 49 = .ok (.getfield 105, 3) := by decide +kernel
theorem dX8_faultReason_52 : decode cX8_faultReason 52 = .ok (.invokevirtual 168, 3) := by decide +kernel
theorem dX8_faultReason_55 : decode cX8_faultReason 55 = .ok (.aload_n 0, 1) := by decide +kernel
theorem dX8_faultReason_56 : decode cX8_faultReason 56 = .ok (.getfield 29, 3) := by decide +kernel
theorem dX8_faultReason_59 : decode cX8_faultReason 59 = .ok (.getfield 173, 3) := by decide +kernel
theorem dX8_faultReason_62 : decode cX8_faultReason 62 = .ok (.ifCond .ne 5, 3) := by decide +kernel
theorem dX8_faultReason_65 : decode cX8_faultReason 65 = .ok (.iconst 2, 1) := by decide +kernel
theorem dX8_faultReason_66 : decode cX8_faultReason 66 = .ok (.ireturn, 1) := by decide +kernel
theorem dX8_faultReason_67 : decode cX8_faultReason 67 = .ok (.aload_n 0, 1) := by decide +kernel
theorem dX8_faultReason_68 : decode cX8_faultReason 68 = .ok (.getfield 43, 3) := by decide +kernel
theorem dX8_faultReason_71 : decode cX8_faultReason 71 = .ok (.aload_n 0, 1) := by decide +kernel
theorem dX8_faultReason_72 : decode cX8_faultReason 72 = .ok (.getfield 29, 3) := by decide +kernel
theorem dX8_faultReason_75 : decode cX8_faultReason 75 = .ok (.getfield 213, 3) := by decide +kernel
theorem dX8_faultReason_78 : decode cX8_faultReason 78 = .ok (.invokevirtual 216, 3) := by decide +kernel
theorem dX8_faultReason_81 : decode cX8_faultReason 81 = .ok (.aload_n 0, 1) := by decide +kernel
theorem dX8_faultReason_82 : decode cX8_faultReason 82 = .ok (.getfield 43, 3) := by decide +kernel
theorem dX8_faultReason_85 : decode cX8_faultReason 85 = .ok (.getfield 84, 3) := by decide +kernel
theorem dX8_faultReason_88 : decode cX8_faultReason 88 = .ok (.if_icmp .ge 7, 3) := by decide +kernel
theorem dX8_faultReason_91 : decode cX8_faultReason 91 = .ok (.iconst 3, 1) := by decide +kernel
theorem dX8_faultReason_92 : decode cX8_faultReason 92 = .ok (.goto 4, 3) := by decide +kernel
theorem dX8_faultReason_95 : decode cX8_faultReason 95 = .ok (.iconst 0, 1) := by decide +kernel
theorem dX8_faultReason_96 : decode cX8_faultReason 96 = .ok (.ireturn, 1) := by decide +kernel
theorem dX8_faultPlace_0 : decode cX8_faultPlace 0 = .ok (.iload_n 1, 1) := by decide +kernel
theorem dX8_faultPlace_1 : decode cX8_faultPlace 1 = .ok (.iconst 1, 1) := by decide +kernel
theorem dX8_faultPlace_2 : decode cX8_faultPlace 2 = .ok (.if_icmp .ne 11, 3) := by decide +kernel
theorem dX8_faultPlace_5 : decode cX8_faultPlace 5 = .ok (.aload_n 0, 1) := by decide +kernel
theorem dX8_faultPlace_6 : decode cX8_faultPlace 6 = .ok (.getfield 36, 3) := by decide +kernel
theorem dX8_faultPlace_9 : decode cX8_faultPlace 9 = .ok (.invokevirtual 207, 3) := by decide +kernel
theorem dX8_faultPlace_12 : decode cX8_faultPlace 12 = .ok (.ireturn, 1) := by decide +kernel
theorem dX8_faultPlace_13 : decode cX8_faultPlace 13 = .ok (.iload_n 1, 1) := by decide +kernel
theorem dX8_faultPlace_14 : decode cX8_faultPlace 14 = .ok (.iconst 3, 1) := by decide +kernel
theorem dX8_faultPlace_15 : decode cX8_faultPlace 15 = .ok (.if_icmp .ne 18, 3) := by decide +kernel
theorem dX8_faultPlace_18 : decode cX8_faultPlace 18 = .ok (.aload_n 0, 1) := by decide +kernel
theorem dX8_faultPlace_19 : decode cX8_faultPlace 19 = .ok (.getfield 43, 3) := by decide +kernel
theorem dX8_faultPlace_22 : decode cX8_faultPlace 22 = .ok (.aload_n 0, 1) := by decide +kernel
theorem dX8_faultPlace_23 : decode cX8_faultPlace 23 = .ok (.getfield 29, 3) := by decide +kernel
theorem dX8_faultPlace_26 : decode cX8_faultPlace 26 = .ok (.getfield 213, 3) := by decide +kernel
theorem dX8_faultPlace_29 : decode cX8_faultPlace 29 = .ok (.invokevirtual 216, 3) := by decide +kernel
theorem dX8_faultPlace_32 : decode cX8_faultPlace 32 = .ok (.ireturn, 1) := by decide +kernel
theorem dX8_faultPlace_33 : decode cX8_faultPlace 33 = .ok (.aload_n 0, 1) := by decide +kernel
theorem dX8_faultPlace_34 : decode cX8_faultPlace 34 = .ok (.getfield 36, 3) := by decide +kernel
theorem dX8_faultPlace_37 : decode cX8_faultPlace 37 = .ok (.getfield 154, 3) := by decide +kernel
theorem dX8_faultPlace_40 : decode cX8_faultPlace 40 = .ok (.ireturn, 1) := by decide +kernel
theorem dX9_init_0 : decode cX9_init 0 = .ok (.aload_n 0, 1) := by decide +kernel
theorem dX9_init_1 : decode cX9_init 1 = .ok (.invokespecial 1, 3) := by decide +kernel
theorem dX9_init_4 : decode cX9_init 4 = .ok (.aload_n 0, 1) := by decide +kernel
theorem dX9_init_5 : decode cX9_init 5 = .ok (.bipush 44, 2) := by decide +kernel
theorem dX9_init_7 : decode cX9_init 7 = .ok (.newarray .int, 2) := by decide +kernel
theorem dX9_init_9 : decode cX9_init 9 = .ok (.putfield 7, 3) := by decide +kernel
theorem dX9_init_12 : decode cX9_init 12 = .ok (.aload_n 0, 1) := by decide +kernel
theorem dX9_init_13 : decode cX9_init 13 = .ok (.sipush 176, 3) := by decide +kernel
theorem dX9_init_16 : decode cX9_init 16 = .ok (.newarray .int, 2) := by decide +kernel
theorem dX9_init_18 : decode cX9_init 18 = .ok (.putfield 13, 3) := by decide +kernel
theorem dX9_init_21 : decode cX9_init 21 = .ok (.aload_n 0, 1) := by decide +kernel
theorem dX9_init_22 : decode cX9_init 22 = .ok (.bipush 9, 2) := by decide +kernel
theorem dX9_init_24 : decode cX9_init 24 = .ok (.newarray .int, 2) := by decide +kernel
theorem dX9_init_26 : decode cX9_init 26 = .ok (.putfield 16, 3) := by decide +kernel
theorem dX9_init_29 : decode cX9_init 29 = .ok (.aload_n 0, 1) := by decide +kernel
theorem dX9_init_30 : decode cX9_init 30 = .ok (.sipush 1400, 3) := by decide +kernel
theorem dX9_init_33 : decode cX9_init 33 = .ok (.newarray .int, 2) := by decide +kernel
theorem dX9_init_35 : decode cX9_init 35 = .ok (.putfield 19, 3) := by decide +kernel
theorem dX9_init_38 : decode cX9_init 38 = .ok (.aload_n 0, 1) := by decide +kernel
theorem dX9_init_39 : decode cX9_init 39 = .ok (.bipush 40, 2) := by decide +kernel
theorem dX9_init_41 : decode cX9_init 41 = .ok (.newarray .int, 2) := by decide +kernel
theorem dX9_init_43 : decode cX9_init 43 = .ok (.putfield 22, 3) := by decide +kernel
theorem dX9_init_46 : decode cX9_init 46 = .ok (.aload_n 0, 1) := by decide +kernel
theorem dX9_init_47 : decode cX9_init 47 = .ok (.sipush 1400, 3) := by decide +kernel
theorem dX9_init_50 : decode cX9_init 50 = .ok (.newarray .int, 2) := by decide +kernel
theorem dX9_init_52 : decode cX9_init 52 = .ok (.putfield 25, 3) := by decide +kernel
theorem dX9_init_55 : decode cX9_init 55 = .ok (.aload_n 0, 1) := by decide +kernel
theorem dX9_init_56 : decode cX9_init 56 = .ok (.bipush 40, 2) := by decide +kernel
theorem dX9_init_58 : decode cX9_init 58 = .ok (.newarray .int, 2) := by decide +kernel
theorem dX9_init_60 : decode cX9_init 60 = .ok (.putfield 28, 3) := by decide +kernel
theorem dX9_init_63 : decode cX9_init 63 = .ok (.aload_n 0, 1) := by decide +kernel
theorem dX9_init_64 : decode cX9_init 64 = .ok (.bipush 120, 2) := by decide +kernel
theorem dX9_init_66 : decode cX9_init 66 = .ok (.newarray .int, 2) := by decide +kernel
theorem dX9_init_68 : decode cX9_init 68 = .ok (.putfield 31, 3) := by decide +kernel
theorem dX9_init_71 : decode cX9_init 71 = .ok (.aload_n 0, 1) := by decide +kernel
theorem dX9_init_72 : decode cX9_init 72 = .ok (.getfield 7, 3) := by decide +kernel
theorem dX9_init_75 : decode cX9_init 75 = .ok (.iconst 0, 1) := by decide +kernel
theorem dX9_init_76 : decode cX9_init 76 = .ok (.bipush 8, 2) := by decide +kernel
theorem dX9_init_78 : decode cX9_init 78 = .ok (.iastore, 1) := by decide +kernel
theorem dX9_init_79 : decode cX9_init 79 = .ok (.aload_n 0, 1) := by decide +kernel
theorem dX9_init_80 : decode cX9_init 80 = .ok (.getfield 7, 3) := by decide +kernel
theorem dX9_init_83 : decode cX9_init 83 = .ok (.iconst 1, 1) := by decide +kernel
theorem dX9_init_84 : decode cX9_init 84 = .ok (.sipush 400, 3) := by decide +kernel
theorem dX9_init_87 : decode cX9_init 87 = .ok (.iastore, 1) := by decide +kernel
theorem dX9_init_88 : decode cX9_init 88 = .ok (.return_, 1) := by decide +kernel
theorem dX9_in_0 : decode cX9_in 0 = .ok (.lload_n 0, 1) := by decide +kernel
theorem dX9_in_1 : decode cX9_in 1 = .ok (.lload_n 2, 1) := by decide +kernel
theorem dX9_in_2 : decode cX9_in 2 = .ok (.lcmp, 1) := by decide +kernel
theorem dX9_in_3 : decode cX9_in 3 = .ok (.ifCond .lt 14, 3) := by decide +kernel
theorem dX9_in_6 : decode cX9_in 6 = .ok (.lload_n 0, 1) := by decide +kernel
theorem dX9_in_7 : decode cX9_in 7 = .ok (.lload 4, 2) := by decide +kernel
theorem dX9_in_9 : decode cX9_in 9 = .ok (.lcmp, 1) := by decide +kernel
theorem dX9_in_10 : decode cX9_in 10 = .ok (.ifCond .gt 7, 3) := by decide +kernel
theorem dX9_in_13 : decode cX9_in 13 = .ok (.iconst 1, 1) := by decide +kernel
theorem dX9_in_14 : decode cX9_in 14 = .ok (.goto 4, 3) := by decide +kernel
theorem dX9_in_17 : decode cX9_in 17 = .ok (.iconst 0, 1) := by decide +kernel
theorem dX9_in_18 : decode cX9_in 18 = .ok (.ireturn, 1) := by decide +kernel
theorem dX9_record_0 : decode cX9_record 0 = .ok (.aload_n 0, 1) := by decide +kernel
theorem dX9_record_1 : decode cX9_record 1 = .ok (.getfield 34, 3) := by decide +kernel
theorem dX9_record_4 : decode cX9_record 4 = .ok (.iconst 4, 1) := by decide +kernel
theorem dX9_record_5 : decode cX9_record 5 = .ok (.if_icmp .ne 43, 3) := by decide +kernel
theorem dX9_record_8 : decode cX9_record 8 = .ok (.iconst 0, 1) := by decide +kernel
theorem dX9_record_9 : decode cX9_record 9 = .ok (.istore_n 1, 1) := by decide +kernel
theorem dX9_record_10 : decode cX9_record 10 = .ok (.iload_n 1, 1) := by decide +kernel
theorem dX9_record_11 : decode cX9_record 11 = .ok (.sipush 132, 3) := by decide +kernel
theorem dX9_record_14 : decode cX9_record 14 = .ok (.if_icmp .ge 24, 3) := by decide +kernel
theorem dX9_record_17 : decode cX9_record 17 = .ok (.aload_n 0, 1) := by decide +kernel
theorem dX9_record_18 : decode cX9_record 18 = .ok (.getfield 13, 3) := by decide +kernel
theorem dX9_record_21 : decode cX9_record 21 = .ok (.iload_n 1, 1) := by decide +kernel
theorem dX9_record_22 : decode cX9_record 22 = .ok (.aload_n 0, 1) := by decide +kernel
theorem dX9_record_23 : decode cX9_record 23 = .ok (.getfield 13, 3) := by decide +kernel
theorem dX9_record_26 : decode cX9_record 26 = .ok (.iload_n 1, 1) := by decide +kernel
theorem dX9_record_27 : decode cX9_record 27 = .ok (.bipush 44, 2) := by decide +kernel
theorem dX9_record_29 : decode cX9_record 29 = .ok (.iadd, 1) := by decide +kernel
theorem dX9_record_30 : decode cX9_record 30 = .ok (.iaload, 1) := by decide +kernel
theorem dX9_record_31 : decode cX9_record 31 = .ok (.iastore, 1) := by decide +kernel
theorem dX9_record_32 : decode cX9_record 32 = .ok (.iinc 1 1, 3) := by decide +kernel
theorem dX9_record_35 : decode cX9_record 35 = .ok (.goto (-25), 3) := by decide +kernel
theorem dX9_record_38 : decode cX9_record 38 = .ok (.aload_n 0, 1) := by decide +kernel
theorem dX9_record_39 : decode cX9_record 39 = .ok (.dup, 1) := by decide +kernel
theorem dX9_record_40 : decode cX9_record 40 = .ok (.getfield 34, 3) := by decide +kernel
theorem dX9_record_43 : decode cX9_record 43 = .ok (.iconst 1, 1) := by decide +kernel
theorem dX9_record_44 : decode cX9_record 44 = .ok (.isub, 1) := by decide +kernel
theorem dX9_record_45 : decode cX9_record 45 = .ok (.putfield 34, 3) := by decide +kernel
theorem dX9_record_48 : decode cX9_record 48 = .ok (.iconst 0, 1) := by decide +kernel
theorem dX9_record_49 : decode cX9_record 49 = .ok (.istore_n 1, 1) := by decide +kernel
theorem dX9_record_50 : decode cX9_record 50 = .ok (.iload_n 1, 1) := by decide +kernel
theorem dX9_record_51 : decode cX9_record 51 = .ok (.bipush 44, 2) := by decide +kernel
theorem dX9_record_53 : decode cX9_record 53 = .ok (.if_icmp .ge 29, 3) := by decide +kernel
theorem dX9_record_56 : decode cX9_record 56 = .ok (.aload_n 0, 1) := by decide +kernel
theorem dX9_record_57 : decode cX9_record 57 = .ok (.getfield 13, 3) := by decide +kernel
theorem dX9_record_60 : decode cX9_record 60 = .ok (.bipush 44, 2) := by decide +kernel
theorem dX9_record_62 : decode cX9_record 62 = .ok (.aload_n 0, 1) := by decide +kernel
theorem dX9_record_63 : decode cX9_record 63 = .ok (.getfield 34, 3) := by decide +kernel
theorem dX9_record_66 : decode cX9_record 66 = .ok (.imul, 1) := by decide +kernel
theorem dX9_record_67 : decode cX9_record 67 = .ok (.iload_n 1, 1) := by decide +kernel
theorem dX9_record_68 : decode cX9_record 68 = .ok (.iadd, 1) := by decide +kernel
theorem dX9_record_69 : decode cX9_record 69 = .ok (.aload_n 0, 1) := by decide +kernel
theorem dX9_record_70 : decode cX9_record 70 = .ok (.getfield 7, 3) := by decide +kernel
theorem dX9_record_73 : decode cX9_record 73 = .ok (.iload_n 1, 1) := by decide +kernel
theorem dX9_record_74 : decode cX9_record 74 = .ok (.iaload, 1) := by decide +kernel
theorem dX9_record_75 : decode cX9_record 75 = .ok (.iastore, 1) := by decide +kernel
theorem dX9_record_76 : decode cX9_record 76 = .ok (.iinc 1 1, 3) := by decide +kernel
theorem dX9_record_79 : decode cX9_record 79 = .ok (.goto (-29), 3) := by decide +kernel
theorem dX9_record_82 : decode cX9_record 82 = .ok (.aload_n 0, 1) := by decide +kernel
theorem dX9_record_83 : decode cX9_record 83 = .ok (.dup, 1) := by decide +kernel
theorem dX9_record_84 : decode cX9_record 84 = .ok (.getfield 34, 3) := by decide +kernel
theorem dX9_record_87 : decode cX9_record 87 = .ok (.iconst 1, 1) := by decide +kernel
theorem dX9_record_88 : decode cX9_record 88 = .ok (.iadd, 1) := by decide +kernel
theorem dX9_record_89 : decode cX9_record 89 = .ok (.putfield 34, 3) := by decide +kernel
theorem dX9_record_92 : decode cX9_record 92 = .ok (.return_, 1) := by decide +kernel
theorem dX9_beginsCounts_0 : decode cX9_beginsCounts 0 = .ok (.iconst 0, 1) := by decide +kernel
theorem dX9_beginsCounts_1 : decode cX9_beginsCounts 1 = .ok (.istore_n 1, 1) := by decide +kernel
theorem dX9_beginsCounts_2 : decode cX9_beginsCounts 2 = .ok (.iload_n 1, 1) := by decide +kernel
theorem dX9_beginsCounts_3 : decode cX9_beginsCounts 3 = .ok (.bipush 8, 2) := by decide +kernel
theorem dX9_beginsCounts_5 : decode cX9_beginsCounts 5 = .ok (.if_icmp .gt 16, 3) := by decide +kernel
theorem dX9_beginsCounts_8 : decode cX9_beginsCounts 8 = .ok (.aload_n 0, 1) := by decide +kernel
theorem dX9_beginsCounts_9 : decode cX9_beginsCounts 9 = .ok (.getfield 16, 3) := by decide +kernel
theorem dX9_beginsCounts_12 : decode cX9_beginsCounts 12 = .ok (.iload_n 1, 1) := by decide +kernel
theorem dX9_beginsCounts_13 : decode cX9_beginsCounts 13 = .ok (.iconst 1, 1) := by decide +kernel
theorem dX9_beginsCounts_14 : decode cX9_beginsCounts 14 = .ok (.iastore, 1) := by decide +kernel
theorem dX9_beginsCounts_15 : decode cX9_beginsCounts 15 = .ok (.iinc 1 1, 3) := by decide +kernel
theorem dX9_beginsCounts_18 : decode cX9_beginsCounts 18 = .ok (.goto (-16), 3) := by decide +kernel
theorem dX9_beginsCounts_21 : decode cX9_beginsCounts 21 = .ok (.aload_n 0, 1) := by decide +kernel
theorem dX9_beginsCounts_22 : decode cX9_beginsCounts 22 = .ok (.bipush 9, 2) := by decide +kernel
theorem dX9_beginsCounts_24 : decode cX9_beginsCounts 24 = .ok (.putfield 38, 3) := by decide +kernel
theorem dX9_beginsCounts_27 : decode cX9_beginsCounts 27 = .ok (.aload_n 0, 1) := by decide +kernel
theorem dX9_beginsCounts_28 : decode cX9_beginsCounts 28 = .ok (.iconst 0, 1) := by decide +kernel
theorem dX9_beginsCounts_29 : decode cX9_beginsCounts 29 = .ok (.putfield 41, 3) := by decide +kernel
theorem dX9_beginsCounts_32 : decode cX9_beginsCounts 32 = .ok (.return_, 1) := by decide +kernel
theorem dX9_learns_0 : decode cX9_learns 0 = .ok (.aload_n 0, 1) := by decide +kernel
theorem dX9_learns_1 : decode cX9_learns 1 = .ok (.getfield 16, 3) := by decide +kernel
theorem dX9_learns_4 : decode cX9_learns 4 = .ok (.iload_n 1, 1) := by decide +kernel
theorem dX9_learns_5 : decode cX9_learns 5 = .ok (.dup2, 1) := by decide +kernel
theorem dX9_learns_6 : decode cX9_learns 6 = .ok (.iaload, 1) := by decide +kernel
theorem dX9_learns_7 : decode cX9_learns 7 = .ok (.iload_n 2, 1) := by decide +kernel
theorem dX9_learns_8 : decode cX9_learns 8 = .ok (.iadd, 1) := by decide +kernel
theorem dX9_learns_9 : decode cX9_learns 9 = .ok (.iastore, 1) := by decide +kernel
theorem dX9_learns_10 : decode cX9_learns 10 = .ok (.aload_n 0, 1) := by decide +kernel
theorem dX9_learns_11 : decode cX9_learns 11 = .ok (.dup, 1) := by decide +kernel
theorem dX9_learns_12 : decode cX9_learns 12 = .ok (.getfield 38, 3) := by decide +kernel
theorem dX9_learns_15 : decode cX9_learns 15 = .ok (.iload_n 2, 1) := by decide +kernel
theorem dX9_learns_16 : decode cX9_learns 16 = .ok (.iadd, 1) := by decide +kernel
theorem dX9_learns_17 : decode cX9_learns 17 = .ok (.putfield 38, 3) := by decide +kernel
theorem dX9_learns_20 : decode cX9_learns 20 = .ok (.aload_n 0, 1) := by decide +kernel
theorem dX9_learns_21 : decode cX9_learns 21 = .ok (.getfield 38, 3) := by decide +kernel
theorem dX9_learns_24 : decode cX9_learns 24 = .ok (.aload_n 0, 1) := by decide +kernel
theorem dX9_learns_25 : decode cX9_learns 25 = .ok (.getfield 7, 3) := by decide +kernel
theorem dX9_learns_28 : decode cX9_learns 28 = .ok (.iconst 1, 1) := by decide +kernel
theorem dX9_learns_29 : decode cX9_learns 29 = .ok (.iaload, 1) := by decide +kernel
theorem dX9_learns_30 : decode cX9_learns 30 = .ok (.if_icmp .le 63, 3) := by decide +kernel
theorem dX9_learns_33 : decode cX9_learns 33 = .ok (.aload_n 0, 1) := by decide +kernel
theorem dX9_learns_34 : decode cX9_learns 34 = .ok (.iconst 0, 1) := by decide +kernel
theorem dX9_learns_35 : decode cX9_learns 35 = .ok (.putfield 38, 3) := by decide +kernel
theorem dX9_learns_38 : decode cX9_learns 38 = .ok (.aload_n 0, 1) := by decide +kernel
theorem dX9_learns_39 : decode cX9_learns 39 = .ok (.dup, 1) := by decide +kernel
theorem dX9_learns_40 : decode cX9_learns 40 = .ok (.getfield 41, 3) := by decide +kernel
theorem dX9_learns_43 : decode cX9_learns 43 = .ok (.iconst 1, 1) := by decide +kernel
theorem dX9_learns_44 : decode cX9_learns 44 = .ok (.iadd, 1) := by decide +kernel
theorem dX9_learns_45 : decode cX9_learns 45 = .ok (.putfield 41, 3) := by decide +kernel
theorem dX9_learns_48 : decode cX9_learns 48 = .ok (.iconst 0, 1) := by decide +kernel
theorem dX9_learns_49 : decode cX9_learns 49 = .ok (.istore_n 3, 1) := by decide +kernel
theorem dX9_learns_50 : decode cX9_learns 50 = .ok (.iload_n 3, 1) := by decide +kernel
theorem dX9_learns_51 : decode cX9_learns 51 = .ok (.bipush 8, 2) := by decide +kernel
theorem dX9_learns_53 : decode cX9_learns 53 = .ok (.if_icmp .gt 40, 3) := by decide +kernel
theorem dX9_learns_56 : decode cX9_learns 56 = .ok (.aload_n 0, 1) := by decide +kernel
theorem dX9_learns_57 : decode cX9_learns 57 = .ok (.getfield 16, 3) := by decide +kernel
theorem dX9_learns_60 : decode cX9_learns 60 = .ok (.iload_n 3, 1) := by decide +kernel
theorem dX9_learns_61 : decode cX9_learns 61 = .ok (.aload_n 0, 1) := by decide +kernel
theorem dX9_learns_62 : decode cX9_learns 62 = .ok (.getfield 16, 3) := by decide +kernel
theorem dX9_learns_65 : decode cX9_learns 65 = .ok (.iload_n 3, 1) := by decide +kernel
theorem dX9_learns_66 : decode cX9_learns 66 = .ok (.iaload, 1) := by decide +kernel
theorem dX9_learns_67 : decode cX9_learns 67 = .ok (.iconst 1, 1) := by decide +kernel
theorem dX9_learns_68 : decode cX9_learns 68 = .ok (.iadd, 1) := by decide +kernel
theorem dX9_learns_69 : decode cX9_learns 69 = .ok (.iconst 2, 1) := by decide +kernel
theorem dX9_learns_70 : decode cX9_learns 70 = .ok (.idiv, 1) := by decide +kernel
theorem dX9_learns_71 : decode cX9_learns 71 = .ok (.iastore, 1) := by decide +kernel
theorem dX9_learns_72 : decode cX9_learns 72 = .ok (.aload_n 0, 1) := by decide +kernel
theorem dX9_learns_73 : decode cX9_learns 73 = .ok (.dup, 1) := by decide +kernel
theorem dX9_learns_74 : decode cX9_learns 74 = .ok (.getfield 38, 3) := by decide +kernel
theorem dX9_learns_77 : decode cX9_learns 77 = .ok (.aload_n 0, 1) := by decide +kernel
theorem dX9_learns_78 : decode cX9_learns 78 = .ok (.getfield 16, 3) := by decide +kernel
theorem dX9_learns_81 : decode cX9_learns 81 = .ok (.iload_n 3, 1) := by decide +kernel
theorem dX9_learns_82 : decode cX9_learns 82 = .ok (.iaload, 1) := by decide +kernel
theorem dX9_learns_83 : decode cX9_learns 83 = .ok (.iadd, 1) := by decide +kernel
theorem dX9_learns_84 : decode cX9_learns 84 = .ok (.putfield 38, 3) := by decide +kernel
theorem dX9_learns_87 : decode cX9_learns 87 = .ok (.iinc 3 1, 3) := by decide +kernel
theorem dX9_learns_90 : decode cX9_learns 90 = .ok (.goto (-40), 3) := by decide +kernel
theorem dX9_learns_93 : decode cX9_learns 93 = .ok (.return_, 1) := by decide +kernel
theorem dX9_below_0 : decode cX9_below 0 = .ok (.iconst 0, 1) := by decide +kernel
theorem dX9_below_1 : decode cX9_below 1 = .ok (.istore_n 2, 1) := by decide +kernel
theorem dX9_below_2 : decode cX9_below 2 = .ok (.iconst 0, 1) := by decide +kernel
theorem dX9_below_3 : decode cX9_below 3 = .ok (.istore_n 3, 1) := by decide +kernel
theorem dX9_below_4 : decode cX9_below 4 = .ok (.iload_n 3, 1) := by decide +kernel
theorem dX9_below_5 : decode cX9_below 5 = .ok (.iload_n 1, 1) := by decide +kernel
theorem dX9_below_6 : decode cX9_below 6 = .ok (.if_icmp .ge 18, 3) := by decide +kernel
theorem dX9_below_9 : decode cX9_below 9 = .ok (.iload_n 2, 1) := by decide +kernel
theorem dX9_below_10 : decode cX9_below 10 = .ok (.aload_n 0, 1) := by decide +kernel
theorem dX9_below_11 : decode cX9_below 11 = .ok (.getfield 16, 3) := by decide +kernel
theorem dX9_below_14 : decode cX9_below 14 = .ok (.iload_n 3, 1) := by decide +kernel
theorem dX9_below_15 : decode cX9_below 15 = .ok (.iaload, 1) := by decide +kernel
theorem dX9_below_16 : decode cX9_below 16 = .ok (.iadd, 1) := by decide +kernel
theorem dX9_below_17 : decode cX9_below 17 = .ok (.istore_n 2, 1) := by decide +kernel
theorem dX9_below_18 : decode cX9_below 18 = .ok (.iinc 3 1, 3) := by decide +kernel
theorem dX9_below_21 : decode cX9_below 21 = .ok (.goto (-17), 3) := by decide +kernel
theorem dX9_below_24 : decode cX9_below 24 = .ok (.iload_n 2, 1) := by decide +kernel
theorem dX9_below_25 : decode cX9_below 25 = .ok (.ireturn, 1) := by decide +kernel
theorem dX9_writes_0 : decode cX9_writes 0 = .ok (.aload_n 0, 1) := by decide +kernel
theorem dX9_writes_1 : decode cX9_writes 1 = .ok (.getfield 19, 3) := by decide +kernel
theorem dX9_writes_4 : decode cX9_writes 4 = .ok (.aload_n 0, 1) := by decide +kernel
theorem dX9_writes_5 : decode cX9_writes 5 = .ok (.getfield 44, 3) := by decide +kernel
theorem dX9_writes_8 : decode cX9_writes 8 = .ok (.iload_n 1, 1) := by decide +kernel
theorem dX9_writes_9 : decode cX9_writes 9 = .ok (.iastore, 1) := by decide +kernel
theorem dX9_writes_10 : decode cX9_writes 10 = .ok (.aload_n 0, 1) := by decide +kernel
theorem dX9_writes_11 : decode cX9_writes 11 = .ok (.dup, 1) := by decide +kernel
theorem dX9_writes_12 : decode cX9_writes 12 = .ok (.getfield 44, 3) := by decide +kernel
theorem dX9_writes_15 : decode cX9_writes 15 = .ok (.iconst 1, 1) := by decide +kernel
theorem dX9_writes_16 : decode cX9_writes 16 = .ok (.iadd, 1) := by decide +kernel
theorem dX9_writes_17 : decode cX9_writes 17 = .ok (.putfield 44, 3) := by decide +kernel
theorem dX9_writes_20 : decode cX9_writes 20 = .ok (.aload_n 0, 1) := by decide +kernel
theorem dX9_writes_21 : decode cX9_writes 21 = .ok (.getfield 47, 3) := by decide +kernel
theorem dX9_writes_24 : decode cX9_writes 24 = .ok (.ifCond .le 38, 3) := by decide +kernel
theorem dX9_writes_27 : decode cX9_writes 27 = .ok (.aload_n 0, 1) := by decide +kernel
theorem dX9_writes_28 : decode cX9_writes 28 = .ok (.getfield 19, 3) := by decide +kernel
theorem dX9_writes_31 : decode cX9_writes 31 = .ok (.aload_n 0, 1) := by decide +kernel
theorem dX9_writes_32 : decode cX9_writes 32 = .ok (.getfield 44, 3) := by decide +kernel
theorem dX9_writes_35 : decode cX9_writes 35 = .ok (.iconst 1, 1) := by decide +kernel
theorem dX9_writes_36 : decode cX9_writes 36 = .ok (.iload_n 1, 1) := by decide +kernel
theorem dX9_writes_37 : decode cX9_writes 37 = .ok (.isub, 1) := by decide +kernel
theorem dX9_writes_38 : decode cX9_writes 38 = .ok (.iastore, 1) := by decide +kernel
theorem dX9_writes_39 : decode cX9_writes 39 = .ok (.aload_n 0, 1) := by decide +kernel
theorem dX9_writes_40 : decode cX9_writes 40 = .ok (.dup, 1) := by decide +kernel
theorem dX9_writes_41 : decode cX9_writes 41 = .ok (.getfield 44, 3) := by decide +kernel
theorem dX9_writes_44 : decode cX9_writes 44 = .ok (.iconst 1, 1) := by decide +kernel
theorem dX9_writes_45 : decode cX9_writes 45 = .ok (.iadd, 1) := by decide +kernel
theorem dX9_writes_46 : decode cX9_writes 46 = .ok (.putfield 44, 3) := by decide +kernel
theorem dX9_writes_49 : decode cX9_writes 49 = .ok (.aload_n 0, 1) := by decide +kernel
theorem dX9_writes_50 : decode cX9_writes 50 = .ok (.dup, 1) := by decide +kernel
theorem dX9_writes_51 : decode cX9_writes 51 = .ok (.getfield 47, 3) := by decide +kernel
theorem dX9_writes_54 : decode cX9_writes 54 = .ok (.iconst 1, 1) := by decide +kernel
theorem dX9_writes_55 : decode cX9_writes 55 = .ok (.isub, 1) := by decide +kernel
theorem dX9_writes_56 : decode cX9_writes 56 = .ok (.putfield 47, 3) := by decide +kernel
theorem dX9_writes_59 : decode cX9_writes 59 = .ok (.goto (-39), 3) := by decide +kernel
theorem dX9_writes_62 : decode cX9_writes 62 = .ok (.return_, 1) := by decide +kernel
theorem dX9_cuts_0 : decode cX9_cuts 0 = .ok (.aload_n 0, 1) := by decide +kernel
theorem dX9_cuts_1 : decode cX9_cuts 1 = .ok (.getfield 50, 3) := by decide +kernel
theorem dX9_cuts_4 : decode cX9_cuts 4 = .ok (.aload_n 0, 1) := by decide +kernel
theorem dX9_cuts_5 : decode cX9_cuts 5 = .ok (.getfield 53, 3) := by decide +kernel
theorem dX9_cuts_8 : decode cX9_cuts 8 = .ok (.isub, 1) := by decide +kernel
theorem dX9_cuts_9 : decode cX9_cuts 9 = .ok (.iconst 1, 1) := by decide +kernel
theorem dX9_cuts_10 : decode cX9_cuts 10 = .ok (.iadd, 1) := by decide +kernel
theorem dX9_cuts_11 : decode cX9_cuts 11 = .ok (.istore_n 2, 1) := by decide +kernel
theorem dX9_cuts_12 : decode cX9_cuts 12 = .ok (.aload_n 0, 1) := by decide +kernel
theorem dX9_cuts_13 : decode cX9_cuts 13 = .ok (.iload_n 1, 1) := by decide +kernel
theorem dX9_cuts_14 : decode cX9_cuts 14 = .ok (.invokevirtual 56, 3) := by decide +kernel
theorem dX9_cuts_17 : decode cX9_cuts 17 = .ok (.istore_n 3, 1) := by decide +kernel
theorem dX9_cuts_18 : decode cX9_cuts 18 = .ok (.aload_n 0, 1) := by decide +kernel
theorem dX9_cuts_19 : decode cX9_cuts 19 = .ok (.aload_n 0, 1) := by decide +kernel
theorem dX9_cuts_20 : decode cX9_cuts 20 = .ok (.getfield 53, 3) := by decide +kernel
theorem dX9_cuts_23 : decode cX9_cuts 23 = .ok (.iload_n 2, 1) := by decide +kernel
theorem dX9_cuts_24 : decode cX9_cuts 24 = .ok (.iload_n 3, 1) := by decide +kernel
theorem dX9_cuts_25 : decode cX9_cuts 25 = .ok (.aload_n 0, 1) := by decide +kernel
theorem dX9_cuts_26 : decode cX9_cuts 26 = .ok (.getfield 16, 3) := by decide +kernel
theorem dX9_cuts_29 : decode cX9_cuts 29 = .ok (.iload_n 1, 1) := by decide +kernel
theorem dX9_cuts_30 : decode cX9_cuts 30 = .ok (.iaload, 1) := by decide +kernel
theorem dX9_cuts_31 : decode cX9_cuts 31 = .ok (.iadd, 1) := by decide +kernel
theorem dX9_cuts_32 : decode cX9_cuts 32 = .ok (.imul, 1) := by decide +kernel
theorem dX9_cuts_33 : decode cX9_cuts 33 = .ok (.aload_n 0, 1) := by decide +kernel
theorem dX9_cuts_34 : decode cX9_cuts 34 = .ok (.getfield 38, 3) := by decide +kernel
theorem dX9_cuts_37 : decode cX9_cuts 37 = .ok (.idiv, 1) := by decide +kernel
theorem dX9_cuts_38 : decode cX9_cuts 38 = .ok (.iadd, 1) := by decide +kernel
theorem dX9_cuts_39 : decode cX9_cuts 39 = .ok (.iconst 1, 1) := by decide +kernel
theorem dX9_cuts_40 : decode cX9_cuts 40 = .ok (.isub, 1) := by decide +kernel
theorem dX9_cuts_41 : decode cX9_cuts 41 = .ok (.putfield 50, 3) := by decide +kernel
theorem dX9_cuts_44 : decode cX9_cuts 44 = .ok (.aload_n 0, 1) := by decide +kernel
theorem dX9_cuts_45 : decode cX9_cuts 45 = .ok (.aload_n 0, 1) := by decide +kernel
theorem dX9_cuts_46 : decode cX9_cuts 46 = .ok (.getfield 53, 3) := by decide +kernel
theorem dX9_cuts_49 : decode cX9_cuts 49 = .ok (.iload_n 2, 1) := by decide +kernel
theorem dX9_cuts_50 : decode cX9_cuts 50 = .ok (.iload_n 3, 1) := by decide +kernel
theorem dX9_cuts_51 : decode cX9_cuts 51 = .ok (.imul, 1) := by decide +kernel
theorem dX9_cuts_52 : decode cX9_cuts 52 = .ok (.aload_n 0, 1) := by decide +kernel
theorem dX9_cuts_53 : decode cX9_cuts 53 = .ok (.getfield 38, 3) := by decide +kernel
theorem dX9_cuts_56 : decode cX9_cuts 56 = .ok (.idiv, 1) := by decide +kernel
theorem dX9_cuts_57 : decode cX9_cuts 57 = .ok (.iadd, 1) := by decide +kernel
theorem dX9_cuts_58 : decode cX9_cuts 58 = .ok (.putfield 53, 3) := by decide +kernel
theorem dX9_cuts_61 : decode cX9_cuts 61 = .ok (.return_, 1) := by decide +kernel
theorem dX9_takenOff_0 : decode cX9_takenOff 0 = .ok (.aload_n 0, 1) := by decide +kernel
theorem dX9_takenOff_1 : decode cX9_takenOff 1 = .ok (.getfield 50, 3) := by decide +kernel
theorem dX9_takenOff_4 : decode cX9_takenOff 4 = .ok (.ldc 60, 2) := by decide +kernel
theorem dX9_takenOff_6 : decode cX9_takenOff 6 = .ok (.if_icmp .ge 7, 3) := by decide +kernel
theorem dX9_takenOff_9 : decode cX9_takenOff 9 = .ok (.iconst 0, 1) := by decide +kernel
theorem dX9_takenOff_10 : decode cX9_takenOff 10 = .ok (.goto 43, 3) := by decide +kernel
theorem dX9_takenOff_13 : decode cX9_takenOff 13 = .ok (.aload_n 0, 1) := by decide +kernel
theorem dX9_takenOff_14 : decode cX9_takenOff 14 = .ok (.getfield 53, 3) := by decide +kernel
theorem dX9_takenOff_17 : decode cX9_takenOff 17 = .ok (.ldc 60, 2) := by decide +kernel
theorem dX9_takenOff_19 : decode cX9_takenOff 19 = .ok (.if_icmp .lt 8, 3) := by decide +kernel
theorem dX9_takenOff_22 : decode cX9_takenOff 22 = .ok (.ldc 60, 2) := by decide +kernel
theorem dX9_takenOff_24 : decode cX9_takenOff 24 = .ok (.goto 29, 3) := by decide +kernel
theorem dX9_takenOff_27 : decode cX9_takenOff 27 = .ok (.aload_n 0, 1) := by decide +kernel
theorem dX9_takenOff_28 : decode cX9_takenOff 28 = .ok (.getfield 53, 3) := by decide +kernel
theorem dX9_takenOff_31 : decode cX9_takenOff 31 = .ok (.sipush 16384, 3) := by decide +kernel
theorem dX9_takenOff_34 : decode cX9_takenOff 34 = .ok (.if_icmp .lt 18, 3) := by decide +kernel
theorem dX9_takenOff_37 : decode cX9_takenOff 37 = .ok (.aload_n 0, 1) := by decide +kernel
theorem dX9_takenOff_38 : decode cX9_takenOff 38 = .ok (.getfield 50, 3) := by decide +kernel
theorem dX9_takenOff_41 : decode cX9_takenOff 41 = .ok (.ldc 61, 2) := by decide +kernel
theorem dX9_takenOff_43 : decode cX9_takenOff 43 = .ok (.if_icmp .ge 9, 3) := by decide +kernel
theorem dX9_takenOff_46 : decode cX9_takenOff 46 = .ok (.sipush 16384, 3) := by decide +kernel
theorem dX9_takenOff_49 : decode cX9_takenOff 49 = .ok (.goto 4, 3) := by decide +kernel
theorem dX9_takenOff_52 : decode cX9_takenOff 52 = .ok (.iconst (-1), 1) := by decide +kernel
theorem dX9_takenOff_53 : decode cX9_takenOff 53 = .ok (.ireturn, 1) := by decide +kernel
theorem dX9_doubles_0 : decode cX9_doubles 0 = .ok (.aload_n 0, 1) := by decide +kernel
theorem dX9_doubles_1 : decode cX9_doubles 1 = .ok (.iconst 2, 1) := by decide +kernel
theorem dX9_doubles_2 : decode cX9_doubles 2 = .ok (.aload_n 0, 1) := by decide +kernel
theorem dX9_doubles_3 : decode cX9_doubles 3 = .ok (.getfield 53, 3) := by decide +kernel
theorem dX9_doubles_6 : decode cX9_doubles 6 = .ok (.iload_n 1, 1) := by decide +kernel
theorem dX9_doubles_7 : decode cX9_doubles 7 = .ok (.isub, 1) := by decide +kernel
theorem dX9_doubles_8 : decode cX9_doubles 8 = .ok (.imul, 1) := by decide +kernel
theorem dX9_doubles_9 : decode cX9_doubles 9 = .ok (.putfield 53, 3) := by decide +kernel
theorem dX9_doubles_12 : decode cX9_doubles 12 = .ok (.aload_n 0, 1) := by decide +kernel
theorem dX9_doubles_13 : decode cX9_doubles 13 = .ok (.iconst 2, 1) := by decide +kernel
theorem dX9_doubles_14 : decode cX9_doubles 14 = .ok (.aload_n 0, 1) := by decide +kernel
theorem dX9_doubles_15 : decode cX9_doubles 15 = .ok (.getfield 50, 3) := by decide +kernel
theorem dX9_doubles_18 : decode cX9_doubles 18 = .ok (.iload_n 1, 1) := by decide +kernel
theorem dX9_doubles_19 : decode cX9_doubles 19 = .ok (.isub, 1) := by decide +kernel
theorem dX9_doubles_20 : decode cX9_doubles 20 = .ok (.imul, 1) := by decide +kernel
theorem dX9_doubles_21 : decode cX9_doubles 21 = .ok (.iconst 1, 1) := by decide +kernel
theorem dX9_doubles_22 : decode cX9_doubles 22 = .ok (.iadd, 1) := by decide +kernel
theorem dX9_doubles_23 : decode cX9_doubles 23 = .ok (.putfield 50, 3) := by decide +kernel
theorem dX9_doubles_26 : decode cX9_doubles 26 = .ok (.return_, 1) := by decide +kernel
theorem dX9_narrows_0 : decode cX9_narrows 0 = .ok (.aload_n 0, 1) := by decide +kernel
theorem dX9_narrows_1 : decode cX9_narrows 1 = .ok (.iload_n 1, 1) := by decide +kernel
theorem dX9_narrows_2 : decode cX9_narrows 2 = .ok (.invokevirtual 62, 3) := by decide +kernel
theorem dX9_narrows_5 : decode cX9_narrows 5 = .ok (.aload_n 0, 1) := by decide +kernel
theorem dX9_narrows_6 : decode cX9_narrows 6 = .ok (.invokevirtual 66, 3) := by decide +kernel
theorem dX9_narrows_9 : decode cX9_narrows 9 = .ok (.istore_n 2, 1) := by decide +kernel
theorem dX9_narrows_10 : decode cX9_narrows 10 = .ok (.iload_n 2, 1) := by decide +kernel
theorem dX9_narrows_11 : decode cX9_narrows 11 = .ok (.ifCond .lt 49, 3) := by decide +kernel
theorem dX9_narrows_14 : decode cX9_narrows 14 = .ok (.iload_n 2, 1) := by decide +kernel
theorem dX9_narrows_15 : decode cX9_narrows 15 = .ok (.sipush 16384, 3) := by decide +kernel
theorem dX9_narrows_18 : decode cX9_narrows 18 = .ok (.if_icmp .ne 16, 3) := by decide +kernel
theorem dX9_narrows_21 : decode cX9_narrows 21 = .ok (.aload_n 0, 1) := by decide +kernel
theorem dX9_narrows_22 : decode cX9_narrows 22 = .ok (.dup, 1) := by decide +kernel
theorem dX9_narrows_23 : decode cX9_narrows 23 = .ok (.getfield 47, 3) := by decide +kernel
theorem dX9_narrows_26 : decode cX9_narrows 26 = .ok (.iconst 1, 1) := by decide +kernel
theorem dX9_narrows_27 : decode cX9_narrows 27 = .ok (.iadd, 1) := by decide +kernel
theorem dX9_narrows_28 : decode cX9_narrows 28 = .ok (.putfield 47, 3) := by decide +kernel
theorem dX9_narrows_31 : decode cX9_narrows 31 = .ok (.goto 16, 3) := by decide +kernel
theorem dX9_narrows_34 : decode cX9_narrows 34 = .ok (.aload_n 0, 1) := by decide +kernel
theorem dX9_narrows_35 : decode cX9_narrows 35 = .ok (.iload_n 2, 1) := by decide +kernel
theorem dX9_narrows_36 : decode cX9_narrows 36 = .ok (.ifCond .ne 7, 3) := by decide +kernel
theorem dX9_narrows_39 : decode cX9_narrows 39 = .ok (.iconst 0, 1) := by decide +kernel
theorem dX9_narrows_40 : decode cX9_narrows 40 = .ok (.goto 4, 3) := by decide +kernel
theorem dX9_narrows_43 : decode cX9_narrows 43 = .ok (.iconst 1, 1) := by decide +kernel
theorem dX9_narrows_44 : decode cX9_narrows 44 = .ok (.invokevirtual 70, 3) := by decide +kernel
theorem dX9_narrows_47 : decode cX9_narrows 47 = .ok (.aload_n 0, 1) := by decide +kernel
theorem dX9_narrows_48 : decode cX9_narrows 48 = .ok (.iload_n 2, 1) := by decide +kernel
theorem dX9_narrows_49 : decode cX9_narrows 49 = .ok (.invokevirtual 73, 3) := by decide +kernel
theorem dX9_narrows_52 : decode cX9_narrows 52 = .ok (.aload_n 0, 1) := by decide +kernel
theorem dX9_narrows_53 : decode cX9_narrows 53 = .ok (.invokevirtual 66, 3) := by decide +kernel
theorem dX9_narrows_56 : decode cX9_narrows 56 = .ok (.istore_n 2, 1) := by decide +kernel
theorem dX9_narrows_57 : decode cX9_narrows 57 = .ok (.goto (-47), 3) := by decide +kernel
theorem dX9_narrows_60 : decode cX9_narrows 60 = .ok (.return_, 1) := by decide +kernel
theorem dX9_beginsSpan_0 : decode cX9_beginsSpan 0 = .ok (.aload_n 0, 1) := by decide +kernel
theorem dX9_beginsSpan_1 : decode cX9_beginsSpan 1 = .ok (.invokevirtual 76, 3) := by decide +kernel
theorem dX9_beginsSpan_4 : decode cX9_beginsSpan 4 = .ok (.aload_n 0, 1) := by decide +kernel
theorem dX9_beginsSpan_5 : decode cX9_beginsSpan 5 = .ok (.iconst 0, 1) := by decide +kernel
theorem dX9_beginsSpan_6 : decode cX9_beginsSpan 6 = .ok (.putfield 53, 3) := by decide +kernel
theorem dX9_beginsSpan_9 : decode cX9_beginsSpan 9 = .ok (.aload_n 0, 1) := by decide +kernel
theorem dX9_beginsSpan_10 : decode cX9_beginsSpan 10 = .ok (.ldc 79, 2) := by decide +kernel
theorem dX9_beginsSpan_12 : decode cX9_beginsSpan 12 = .ok (.putfield 50, 3) := by decide +kernel
theorem dX9_beginsSpan_15 : decode cX9_beginsSpan 15 = .ok (.return_, 1) := by decide +kernel
theorem dX9_ends_0 : decode cX9_ends 0 = .ok (.aload_n 0, 1) := by decide +kernel
theorem dX9_ends_1 : decode cX9_ends 1 = .ok (.bipush 8, 2) := by decide +kernel
theorem dX9_ends_3 : decode cX9_ends 3 = .ok (.invokevirtual 80, 3) := by decide +kernel
theorem dX9_ends_6 : decode cX9_ends 6 = .ok (.aload_n 0, 1) := by decide +kernel
theorem dX9_ends_7 : decode cX9_ends 7 = .ok (.dup, 1) := by decide +kernel
theorem dX9_ends_8 : decode cX9_ends 8 = .ok (.getfield 47, 3) := by decide +kernel
theorem dX9_ends_11 : decode cX9_ends 11 = .ok (.iconst 1, 1) := by decide +kernel
theorem dX9_ends_12 : decode cX9_ends 12 = .ok (.iadd, 1) := by decide +kernel
theorem dX9_ends_13 : decode cX9_ends 13 = .ok (.putfield 47, 3) := by decide +kernel
theorem dX9_ends_16 : decode cX9_ends 16 = .ok (.aload_n 0, 1) := by decide +kernel
theorem dX9_ends_17 : decode cX9_ends 17 = .ok (.aload_n 0, 1) := by decide +kernel
theorem dX9_ends_18 : decode cX9_ends 18 = .ok (.getfield 53, 3) := by decide +kernel
theorem dX9_ends_21 : decode cX9_ends 21 = .ok (.sipush 16384, 3) := by decide +kernel
theorem dX9_ends_24 : decode cX9_ends 24 = .ok (.if_icmp .ge 7, 3) := by decide +kernel
theorem dX9_ends_27 : decode cX9_ends 27 = .ok (.iconst 0, 1) := by decide +kernel
theorem dX9_ends_28 : decode cX9_ends 28 = .ok (.goto 4, 3) := by decide +kernel
theorem dX9_ends_31 : decode cX9_ends 31 = .ok (.iconst 1, 1) := by decide +kernel
theorem dX9_ends_32 : decode cX9_ends 32 = .ok (.invokevirtual 70, 3) := by decide +kernel
theorem dX9_ends_35 : decode cX9_ends 35 = .ok (.return_, 1) := by decide +kernel
theorem dX9_putsAll_0 : decode cX9_putsAll 0 = .ok (.aload_n 0, 1) := by decide +kernel
theorem dX9_putsAll_1 : decode cX9_putsAll 1 = .ok (.invokevirtual 83, 3) := by decide +kernel
theorem dX9_putsAll_4 : decode cX9_putsAll 4 = .ok (.aload_n 0, 1) := by decide +kernel
theorem dX9_putsAll_5 : decode cX9_putsAll 5 = .ok (.iconst 0, 1) := by decide +kernel
theorem dX9_putsAll_6 : decode cX9_putsAll 6 = .ok (.putfield 47, 3) := by decide +kernel
theorem dX9_putsAll_9 : decode cX9_putsAll 9 = .ok (.aload_n 0, 1) := by decide +kernel
theorem dX9_putsAll_10 : decode cX9_putsAll 10 = .ok (.iconst 0, 1) := by decide +kernel
theorem dX9_putsAll_11 : decode cX9_putsAll 11 = .ok (.putfield 44, 3) := by decide +kernel
theorem dX9_putsAll_14 : decode cX9_putsAll 14 = .ok (.iconst 0, 1) := by decide +kernel
theorem dX9_putsAll_15 : decode cX9_putsAll 15 = .ok (.istore_n 3, 1) := by decide +kernel
theorem dX9_putsAll_16 : decode cX9_putsAll 16 = .ok (.iload_n 3, 1) := by decide +kernel
theorem dX9_putsAll_17 : decode cX9_putsAll 17 = .ok (.aload_n 0, 1) := by decide +kernel
theorem dX9_putsAll_18 : decode cX9_putsAll 18 = .ok (.getfield 7, 3) := by decide +kernel
theorem dX9_putsAll_21 : decode cX9_putsAll 21 = .ok (.iconst 2, 1) := by decide +kernel
theorem dX9_putsAll_22 : decode cX9_putsAll 22 = .ok (.iaload, 1) := by decide +kernel
theorem dX9_putsAll_23 : decode cX9_putsAll 23 = .ok (.if_icmp .ge 53, 3) := by decide +kernel
theorem dX9_putsAll_26 : decode cX9_putsAll 26 = .ok (.aload_n 0, 1) := by decide +kernel
theorem dX9_putsAll_27 : decode cX9_putsAll 27 = .ok (.getfield 44, 3) := by decide +kernel
theorem dX9_putsAll_30 : decode cX9_putsAll 30 = .ok (.istore 4, 2) := by decide +kernel
theorem dX9_putsAll_32 : decode cX9_putsAll 32 = .ok (.aload_n 0, 1) := by decide +kernel
theorem dX9_putsAll_33 : decode cX9_putsAll 33 = .ok (.aload_n 0, 1) := by decide +kernel
theorem dX9_putsAll_34 : decode cX9_putsAll 34 = .ok (.getfield 7, 3) := by decide +kernel
theorem dX9_putsAll_37 : decode cX9_putsAll 37 = .ok (.iconst 4, 1) := by decide +kernel
theorem dX9_putsAll_38 : decode cX9_putsAll 38 = .ok (.iload_n 3, 1) := by decide +kernel
theorem dX9_putsAll_39 : decode cX9_putsAll 39 = .ok (.iadd, 1) := by decide +kernel
theorem dX9_putsAll_40 : decode cX9_putsAll 40 = .ok (.iaload, 1) := by decide +kernel
theorem dX9_putsAll_41 : decode cX9_putsAll 41 = .ok (.invokevirtual 80, 3) := by decide +kernel
theorem dX9_putsAll_44 : decode cX9_putsAll 44 = .ok (.aload_n 0, 1) := by decide +kernel
theorem dX9_putsAll_45 : decode cX9_putsAll 45 = .ok (.getfield 22, 3) := by decide +kernel
theorem dX9_putsAll_48 : decode cX9_putsAll 48 = .ok (.iload_n 3, 1) := by decide +kernel
theorem dX9_putsAll_49 : decode cX9_putsAll 49 = .ok (.aload_n 0, 1) := by decide +kernel
theorem dX9_putsAll_50 : decode cX9_putsAll 50 = .ok (.getfield 44, 3) := by decide +kernel
theorem dX9_putsAll_53 : decode cX9_putsAll 53 = .ok (.iload 4, 2) := by decide +kernel
theorem dX9_putsAll_55 : decode cX9_putsAll 55 = .ok (.isub, 1) := by decide +kernel
theorem dX9_putsAll_56 : decode cX9_putsAll 56 = .ok (.iastore, 1) := by decide +kernel
theorem dX9_putsAll_57 : decode cX9_putsAll 57 = .ok (.aload_n 0, 1) := by decide +kernel
theorem dX9_putsAll_58 : decode cX9_putsAll 58 = .ok (.aload_n 0, 1) := by decide +kernel
theorem dX9_putsAll_59 : decode cX9_putsAll 59 = .ok (.getfield 7, 3) := by decide +kernel
theorem dX9_putsAll_62 : decode cX9_putsAll 62 = .ok (.iconst 4, 1) := by decide +kernel
theorem dX9_putsAll_63 : decode cX9_putsAll 63 = .ok (.iload_n 3, 1) := by decide +kernel
theorem dX9_putsAll_64 : decode cX9_putsAll 64 = .ok (.iadd, 1) := by decide +kernel
theorem dX9_putsAll_65 : decode cX9_putsAll 65 = .ok (.iaload, 1) := by decide +kernel
theorem dX9_putsAll_66 : decode cX9_putsAll 66 = .ok (.iload_n 1, 1) := by decide +kernel
theorem dX9_putsAll_67 : decode cX9_putsAll 67 = .ok (.invokevirtual 86, 3) := by decide +kernel
theorem dX9_putsAll_70 : decode cX9_putsAll 70 = .ok (.iinc 3 1, 3) := by decide +kernel
theorem dX9_putsAll_73 : decode cX9_putsAll 73 = .ok (.goto (-57), 3) := by decide +kernel
theorem dX9_putsAll_76 : decode cX9_putsAll 76 = .ok (.iload_n 2, 1) := by decide +kernel
theorem dX9_putsAll_77 : decode cX9_putsAll 77 = .ok (.ifCond .eq 7, 3) := by decide +kernel
theorem dX9_putsAll_80 : decode cX9_putsAll 80 = .ok (.aload_n 0, 1) := by decide +kernel
theorem dX9_putsAll_81 : decode cX9_putsAll 81 = .ok (.invokevirtual 90, 3) := by decide +kernel
theorem dX9_putsAll_84 : decode cX9_putsAll 84 = .ok (.return_, 1) := by decide +kernel
theorem dX9_putsNow_0 : decode cX9_putsNow 0 = .ok (.aload_n 0, 1) := by decide +kernel
theorem dX9_putsNow_1 : decode cX9_putsNow 1 = .ok (.aload_n 0, 1) := by decide +kernel
theorem dX9_putsNow_2 : decode cX9_putsNow 2 = .ok (.getfield 7, 3) := by decide +kernel
theorem dX9_putsNow_5 : decode cX9_putsNow 5 = .ok (.iconst 0, 1) := by decide +kernel
theorem dX9_putsNow_6 : decode cX9_putsNow 6 = .ok (.iaload, 1) := by decide +kernel
theorem dX9_putsNow_7 : decode cX9_putsNow 7 = .ok (.aload_n 0, 1) := by decide +kernel
theorem dX9_putsNow_8 : decode cX9_putsNow 8 = .ok (.getfield 7, 3) := by decide +kernel
theorem dX9_putsNow_11 : decode cX9_putsNow 11 = .ok (.iconst 3, 1) := by decide +kernel
theorem dX9_putsNow_12 : decode cX9_putsNow 12 = .ok (.iaload, 1) := by decide +kernel
theorem dX9_putsNow_13 : decode cX9_putsNow 13 = .ok (.iconst 1, 1) := by decide +kernel
theorem dX9_putsNow_14 : decode cX9_putsNow 14 = .ok (.if_icmp .ne 7, 3) := by decide +kernel
theorem dX9_putsNow_17 : decode cX9_putsNow 17 = .ok (.iconst 1, 1) := by decide +kernel
theorem dX9_putsNow_18 : decode cX9_putsNow 18 = .ok (.goto 4, 3) := by decide +kernel
theorem dX9_putsNow_21 : decode cX9_putsNow 21 = .ok (.iconst 0, 1) := by decide +kernel
theorem dX9_putsNow_22 : decode cX9_putsNow 22 = .ok (.invokevirtual 93, 3) := by decide +kernel
theorem dX9_putsNow_25 : decode cX9_putsNow 25 = .ok (.return_, 1) := by decide +kernel
theorem dX9_bitsNow_0 : decode cX9_bitsNow 0 = .ok (.aload_n 0, 1) := by decide +kernel
theorem dX9_bitsNow_1 : decode cX9_bitsNow 1 = .ok (.invokevirtual 97, 3) := by decide +kernel
theorem dX9_bitsNow_4 : decode cX9_bitsNow 4 = .ok (.aload_n 0, 1) := by decide +kernel
theorem dX9_bitsNow_5 : decode cX9_bitsNow 5 = .ok (.getfield 44, 3) := by decide +kernel
theorem dX9_bitsNow_8 : decode cX9_bitsNow 8 = .ok (.ireturn, 1) := by decide +kernel
theorem dX9_put_0 : decode cX9_put 0 = .ok (.iload_n 1, 1) := by decide +kernel
theorem dX9_put_1 : decode cX9_put 1 = .ok (.i2l, 1) := by decide +kernel
theorem dX9_put_2 : decode cX9_put 2 = .ok (.lconst 0, 1) := by decide +kernel
theorem dX9_put_3 : decode cX9_put 3 = .ok (.ldc2_w 100, 3) := by decide +kernel
theorem dX9_put_6 : decode cX9_put 6 = .ok (.invokestatic 102, 3) := by decide +kernel
theorem dX9_put_9 : decode cX9_put 9 = .ok (.ifCond .ne 5, 3) := by decide +kernel
theorem dX9_put_12 : decode cX9_put 12 = .ok (.iconst (-1), 1) := by decide +kernel
theorem dX9_put_13 : decode cX9_put 13 = .ok (.ireturn, 1) := by decide +kernel
theorem dX9_put_14 : decode cX9_put 14 = .ok (.aload_n 0, 1) := by decide +kernel
theorem dX9_put_15 : decode cX9_put 15 = .ok (.getfield 7, 3) := by decide +kernel
theorem dX9_put_18 : decode cX9_put 18 = .ok (.iconst 3, 1) := by decide +kernel
theorem dX9_put_19 : decode cX9_put 19 = .ok (.iaload, 1) := by decide +kernel
theorem dX9_put_20 : decode cX9_put 20 = .ok (.iconst 1, 1) := by decide +kernel
theorem dX9_put_21 : decode cX9_put 21 = .ok (.if_icmp .ne 6, 3) := by decide +kernel
