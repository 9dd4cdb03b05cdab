theorem dX4_init_0 : decode cX4_init 0 = .ok (.aload_n 0, 1) := by decide +kernel
theorem dX4_init_1 : decode cX4_init 1 = .ok (.invokespecial 1, 3) := by decide +kernel
theorem dX4_init_4 : decode cX4_init 4 = .ok (.aload_n 0, 1) := by decide +kernel
theorem dX4_init_5 : decode cX4_init 5 = .ok (.sipush 400, 3) := by decide +kernel
theorem dX4_init_8 : decode cX4_init 8 = .ok (.newarray .byte, 2) := by decide +kernel
theorem dX4_init_10 : decode cX4_init 10 = .ok (.putfield 7, 3) := by decide +kernel
theorem dX4_init_13 : decode cX4_init 13 = .ok (.aload_n 0, 1) := by decide +kernel
theorem dX4_init_14 : decode cX4_init 14 = .ok (.sipush 1200, 3) := by decide +kernel
theorem dX4_init_17 : decode cX4_init 17 = .ok (.newarray .byte, 2) := by decide +kernel
theorem dX4_init_19 : decode cX4_init 19 = .ok (.putfield 13, 3) := by decide +kernel
theorem dX4_init_22 : decode cX4_init 22 = .ok (.aload_n 0, 1) := by decide +kernel
theorem dX4_init_23 : decode cX4_init 23 = .ok (.iconst (-1), 1) := by decide +kernel
theorem dX4_init_24 : decode cX4_init 24 = .ok (.putfield 16, 3) := by decide +kernel
theorem dX4_init_27 : decode cX4_init 27 = .ok (.aload_n 0, 1) := by decide +kernel
theorem dX4_init_28 : decode cX4_init 28 = .ok (.bipush 81, 2) := by decide +kernel
theorem dX4_init_30 : decode cX4_init 30 = .ok (.newarray .int, 2) := by decide +kernel
theorem dX4_init_32 : decode cX4_init 32 = .ok (.putfield 20, 3) := by decide +kernel
theorem dX4_init_35 : decode cX4_init 35 = .ok (.aload_n 0, 1) := by decide +kernel
theorem dX4_init_36 : decode cX4_init 36 = .ok (.sipush 960, 3) := by decide +kernel
theorem dX4_init_39 : decode cX4_init 39 = .ok (.newarray .int, 2) := by decide +kernel
theorem dX4_init_41 : decode cX4_init 41 = .ok (.putfield 24, 3) := by decide +kernel
theorem dX4_init_44 : decode cX4_init 44 = .ok (.aload_n 0, 1) := by decide +kernel
theorem dX4_init_45 : decode cX4_init 45 = .ok (.sipush 960, 3) := by decide +kernel
theorem dX4_init_48 : decode cX4_init 48 = .ok (.newarray .int, 2) := by decide +kernel
theorem dX4_init_50 : decode cX4_init 50 = .ok (.putfield 27, 3) := by decide +kernel
theorem dX4_init_53 : decode cX4_init 53 = .ok (.aload_n 0, 1) := by decide +kernel
theorem dX4_init_54 : decode cX4_init 54 = .ok (.sipush 1200, 3) := by decide +kernel
theorem dX4_init_57 : decode cX4_init 57 = .ok (.newarray .byte, 2) := by decide +kernel
theorem dX4_init_59 : decode cX4_init 59 = .ok (.putfield 30, 3) := by decide +kernel
theorem dX4_init_62 : decode cX4_init 62 = .ok (.aload_n 0, 1) := by decide +kernel
theorem dX4_init_63 : decode cX4_init 63 = .ok (.bipush 24, 2) := by decide +kernel
theorem dX4_init_65 : decode cX4_init 65 = .ok (.newarray .boolean, 2) := by decide +kernel
theorem dX4_init_67 : decode cX4_init 67 = .ok (.putfield 33, 3) := by decide +kernel
theorem dX4_init_70 : decode cX4_init 70 = .ok (.aload_n 0, 1) := by decide +kernel
theorem dX4_init_71 : decode cX4_init 71 = .ok (.bipush 24, 2) := by decide +kernel
theorem dX4_init_73 : decode cX4_init 73 = .ok (.newarray .int, 2) := by decide +kernel
theorem dX4_init_75 : decode cX4_init 75 = .ok (.putfield 37, 3) := by decide +kernel
theorem dX4_init_78 : decode cX4_init 78 = .ok (.aload_n 0, 1) := by decide +kernel
theorem dX4_init_79 : decode cX4_init 79 = .ok (.bipush 80, 2) := by decide +kernel
theorem dX4_init_81 : decode cX4_init 81 = .ok (.newarray .int, 2) := by decide +kernel
theorem dX4_init_83 : decode cX4_init 83 = .ok (.putfield 40, 3) := by decide +kernel
theorem dX4_init_86 : decode cX4_init 86 = .ok (.aload_n 0, 1) := by decide +kernel
theorem dX4_init_87 : decode cX4_init 87 = .ok (.bipush 80, 2) := by decide +kernel
theorem dX4_init_89 : decode cX4_init 89 = .ok (.newarray .int, 2) := by decide +kernel
theorem dX4_init_91 : decode cX4_init 91 = .ok (.putfield 43, 3) := by decide +kernel
theorem dX4_init_94 : decode cX4_init 94 = .ok (.aload_n 0, 1) := by decide +kernel
theorem dX4_init_95 : decode cX4_init 95 = .ok (.bipush 20, 2) := by decide +kernel
theorem dX4_init_97 : decode cX4_init 97 = .ok (.newarray .byte, 2) := by decide +kernel
theorem dX4_init_99 : decode cX4_init 99 = .ok (.putfield 46, 3) := by decide +kernel
theorem dX4_init_102 : decode cX4_init 102 = .ok (.return_, 1) := by decide +kernel
theorem dX4_in_0 : decode cX4_in 0 = .ok (.iload_n 0, 1) := by decide +kernel
theorem dX4_in_1 : decode cX4_in 1 = .ok (.iload_n 1, 1) := by decide +kernel
theorem dX4_in_2 : decode cX4_in 2 = .ok (.if_icmp .lt 12, 3) := by decide +kernel
theorem dX4_in_5 : decode cX4_in 5 = .ok (.iload_n 0, 1) := by decide +kernel
theorem dX4_in_6 : decode cX4_in 6 = .ok (.iload_n 2, 1) := by decide +kernel
theorem dX4_in_7 : decode cX4_in 7 = .ok (.if_icmp .gt 7, 3) := by decide +kernel
theorem dX4_in_10 : decode cX4_in 10 = .ok (.iconst 1, 1) := by decide +kernel
theorem dX4_in_11 : decode cX4_in 11 = .ok (.goto 4, 3) := by decide +kernel
theorem dX4_in_14 : decode cX4_in 14 = .ok (.iconst 0, 1) := by decide +kernel
theorem dX4_in_15 : decode cX4_in 15 = .ok (.ireturn, 1) := by decide +kernel
theorem dX4_feedOne_0 : decode cX4_feedOne 0 = .ok (.bipush 24, 2) := by decide +kernel
theorem dX4_feedOne_2 : decode cX4_feedOne 2 = .ok (.istore_n 2, 1) := by decide +kernel
theorem dX4_feedOne_3 : decode cX4_feedOne 3 = .ok (.iload_n 2, 1) := by decide +kernel
theorem dX4_feedOne_4 : decode cX4_feedOne 4 = .ok (.ifCond .lt 32, 3) := by decide +kernel
theorem dX4_feedOne_7 : decode cX4_feedOne 7 = .ok (.aload_n 0, 1) := by decide +kernel
theorem dX4_feedOne_8 : decode cX4_feedOne 8 = .ok (.getfield 7, 3) := by decide +kernel
theorem dX4_feedOne_11 : decode cX4_feedOne 11 = .ok (.aload_n 0, 1) := by decide +kernel
theorem dX4_feedOne_12 : decode cX4_feedOne 12 = .ok (.getfield 49, 3) := by decide +kernel
theorem dX4_feedOne_15 : decode cX4_feedOne 15 = .ok (.iload_n 1, 1) := by decide +kernel
theorem dX4_feedOne_16 : decode cX4_feedOne 16 = .ok (.iload_n 2, 1) := by decide +kernel
theorem dX4_feedOne_17 : decode cX4_feedOne 17 = .ok (.ishr, 1) := by decide +kernel
theorem dX4_feedOne_18 : decode cX4_feedOne 18 = .ok (.i2b, 1) := by decide +kernel
theorem dX4_feedOne_19 : decode cX4_feedOne 19 = .ok (.bastore, 1) := by decide +kernel
theorem dX4_feedOne_20 : decode cX4_feedOne 20 = .ok (.aload_n 0, 1) := by decide +kernel
theorem dX4_feedOne_21 : decode cX4_feedOne 21 = .ok (.dup, 1) := by decide +kernel
theorem dX4_feedOne_22 : decode cX4_feedOne 22 = .ok (.getfield 49, 3) := by decide +kernel
theorem dX4_feedOne_25 : decode cX4_feedOne 25 = .ok (.iconst 1, 1) := by decide +kernel
theorem dX4_feedOne_26 : decode cX4_feedOne 26 = .ok (.iadd, 1) := by decide +kernel
theorem dX4_feedOne_27 : decode cX4_feedOne 27 = .ok (.putfield 49, 3) := by decide +kernel
theorem dX4_feedOne_30 : decode cX4_feedOne 30 = .ok (.iinc 2 (-8), 3) := by decide +kernel
theorem dX4_feedOne_33 : decode cX4_feedOne 33 = .ok (.goto (-30), 3) := by decide +kernel
theorem dX4_feedOne_36 : decode cX4_feedOne 36 = .ok (.return_, 1) := by decide +kernel
theorem dX4_feed_0 : decode cX4_feed 0 = .ok (.aload_n 0, 1) := by decide +kernel
theorem dX4_feed_1 : decode cX4_feed 1 = .ok (.getfield 49, 3) := by decide +kernel
theorem dX4_feed_4 : decode cX4_feed 4 = .ok (.bipush 20, 2) := by decide +kernel
theorem dX4_feed_6 : decode cX4_feed 6 = .ok (.iadd, 1) := by decide +kernel
theorem dX4_feed_7 : decode cX4_feed 7 = .ok (.sipush 400, 3) := by decide +kernel
theorem dX4_feed_10 : decode cX4_feed 10 = .ok (.if_icmp .le 5, 3) := by decide +kernel
theorem dX4_feed_13 : decode cX4_feed 13 = .ok (.iconst (-1), 1) := by decide +kernel
theorem dX4_feed_14 : decode cX4_feed 14 = .ok (.ireturn, 1) := by decide +kernel
theorem dX4_feed_15 : decode cX4_feed 15 = .ok (.aload_n 0, 1) := by decide +kernel
theorem dX4_feed_16 : decode cX4_feed 16 = .ok (.iload_n 1, 1) := by decide +kernel
theorem dX4_feed_17 : decode cX4_feed 17 = .ok (.invokevirtual 52, 3) := by decide +kernel
theorem dX4_feed_20 : decode cX4_feed 20 = .ok (.aload_n 0, 1) := by decide +kernel
theorem dX4_feed_21 : decode cX4_feed 21 = .ok (.iload_n 2, 1) := by decide +kernel
theorem dX4_feed_22 : decode cX4_feed 22 = .ok (.invokevirtual 52, 3) := by decide +kernel
theorem dX4_feed_25 : decode cX4_feed 25 = .ok (.aload_n 0, 1) := by decide +kernel
theorem dX4_feed_26 : decode cX4_feed 26 = .ok (.iload_n 3, 1) := by decide +kernel
theorem dX4_feed_27 : decode cX4_feed 27 = .ok (.invokevirtual 52, 3) := by decide +kernel
theorem dX4_feed_30 : decode cX4_feed 30 = .ok (.aload_n 0, 1) := by decide +kernel
theorem dX4_feed_31 : decode cX4_feed 31 = .ok (.iload 4, 2) := by decide +kernel
theorem dX4_feed_33 : decode cX4_feed 33 = .ok (.invokevirtual 52, 3) := by decide +kernel
theorem dX4_feed_36 : decode cX4_feed 36 = .ok (.aload_n 0, 1) := by decide +kernel
theorem dX4_feed_37 : decode cX4_feed 37 = .ok (.iload 5, 2) := by decide +kernel
theorem dX4_feed_39 : decode cX4_feed 39 = .ok (.invokevirtual 52, 3) := by decide +kernel
theorem dX4_feed_42 : decode cX4_feed 42 = .ok (.aload_n 0, 1) := by decide +kernel
theorem dX4_feed_43 : decode cX4_feed 43 = .ok (.getfield 49, 3) := by decide +kernel
theorem dX4_feed_46 : decode cX4_feed 46 = .ok (.ireturn, 1) := by decide +kernel
theorem dX4_add_0 : decode cX4_add 0 = .ok (.iload_n 1, 1) := by decide +kernel
theorem dX4_add_1 : decode cX4_add 1 = .ok (.iconst 0, 1) := by decide +kernel
theorem dX4_add_2 : decode cX4_add 2 = .ok (.aload_n 0, 1) := by decide +kernel
theorem dX4_add_3 : decode cX4_add 3 = .ok (.getfield 49, 3) := by decide +kernel
theorem dX4_add_6 : decode cX4_add 6 = .ok (.invokestatic 56, 3) := by decide +kernel
theorem dX4_add_9 : decode cX4_add 9 = .ok (.ifCond .ne 6, 3) := by decide +kernel
theorem dX4_add_12 : decode cX4_add 12 = .ok (.bipush (-2), 2) := by decide +kernel
theorem dX4_add_14 : decode cX4_add 14 = .ok (.ireturn, 1) := by decide +kernel
theorem dX4_add_15 : decode cX4_add 15 = .ok (.aload_n 0, 1) := by decide +kernel
theorem dX4_add_16 : decode cX4_add 16 = .ok (.getfield 60, 3) := by decide +kernel
theorem dX4_add_19 : decode cX4_add 19 = .ok (.iload_n 1, 1) := by decide +kernel
theorem dX4_add_20 : decode cX4_add 20 = .ok (.iadd, 1) := by decide +kernel
theorem dX4_add_21 : decode cX4_add 21 = .ok (.sipush 1200, 3) := by decide +kernel
theorem dX4_add_24 : decode cX4_add 24 = .ok (.if_icmp .le 5, 3) := by decide +kernel
theorem dX4_add_27 : decode cX4_add 27 = .ok (.iconst (-1), 1) := by decide +kernel
theorem dX4_add_28 : decode cX4_add 28 = .ok (.ireturn, 1) := by decide +kernel
theorem dX4_add_29 : decode cX4_add 29 = .ok (.iconst 0, 1) := by decide +kernel
theorem dX4_add_30 : decode cX4_add 30 = .ok (.istore_n 2, 1) := by decide +kernel
theorem dX4_add_31 : decode cX4_add 31 = .ok (.iload_n 2, 1) := by decide +kernel
theorem dX4_add_32 : decode cX4_add 32 = .ok (.iload_n 1, 1) := by decide +kernel
theorem dX4_add_33 : decode cX4_add 33 = .ok (.if_icmp .ge 26, 3) := by decide +kernel
theorem dX4_add_36 : decode cX4_add 36 = .ok (.aload_n 0, 1) := by decide +kernel
theorem dX4_add_37 : decode cX4_add 37 = .ok (.getfield 13, 3) := by decide +kernel
theorem dX4_add_40 : decode cX4_add 40 = .ok (.aload_n 0, 1) := by decide +kernel
theorem dX4_add_41 : decode cX4_add 41 = .ok (.getfield 60, 3) := by decide +kernel
theorem dX4_add_44 : decode cX4_add 44 = .ok (.iload_n 2, 1) := by decide +kernel
theorem dX4_add_45 : decode cX4_add 45 = .ok (.iadd, 1) := by decide +kernel
theorem dX4_add_46 : decode cX4_add 46 = .ok (.aload_n 0, 1) := by decide +kernel
theorem dX4_add_47 : decode cX4_add 47 = .ok (.getfield 7, 3) := by decide +kernel
theorem dX4_add_50 : decode cX4_add 50 = .ok (.iload_n 2, 1) := by decide +kernel
theorem dX4_add_51 : decode cX4_add 51 = .ok (.baload, 1) := by decide +kernel
theorem dX4_add_52 : decode cX4_add 52 = .ok (.bastore, 1) := by decide +kernel
theorem dX4_add_53 : decode cX4_add 53 = .ok (.iinc 2 1, 3) := by decide +kernel
theorem dX4_add_56 : decode cX4_add 56 = .ok (.goto (-25), 3) := by decide +kernel
theorem dX4_add_59 : decode cX4_add 59 = .ok (.aload_n 0, 1) := by decide +kernel
theorem dX4_add_60 : decode cX4_add 60 = .ok (.dup, 1) := by decide +kernel
theorem dX4_add_61 : decode cX4_add 61 = .ok (.getfield 60, 3) := by decide +kernel
theorem dX4_add_64 : decode cX4_add 64 = .ok (.iload_n 1, 1) := by decide +kernel
theorem dX4_add_65 : decode cX4_add 65 = .ok (.iadd, 1) := by decide +kernel
theorem dX4_add_66 : decode cX4_add 66 = .ok (.putfield 60, 3) := by decide +kernel
theorem dX4_add_69 : decode cX4_add 69 = .ok (.aload_n 0, 1) := by decide +kernel
theorem dX4_add_70 : decode cX4_add 70 = .ok (.iconst 0, 1) := by decide +kernel
theorem dX4_add_71 : decode cX4_add 71 = .ok (.putfield 49, 3) := by decide +kernel
theorem dX4_add_74 : decode cX4_add 74 = .ok (.aload_n 0, 1) := by decide +kernel
theorem dX4_add_75 : decode cX4_add 75 = .ok (.invokevirtual 63, 3) := by decide +kernel
theorem dX4_add_78 : decode cX4_add 78 = .ok (.aload_n 0, 1) := by decide +kernel
theorem dX4_add_79 : decode cX4_add 79 = .ok (.getfield 60, 3) := by decide +kernel
theorem dX4_add_82 : decode cX4_add 82 = .ok (.ireturn, 1) := by decide +kernel
theorem dX4_clear_0 : decode cX4_clear 0 = .ok (.aload_n 0, 1) := by decide +kernel
theorem dX4_clear_1 : decode cX4_clear 1 = .ok (.iconst 0, 1) := by decide +kernel
theorem dX4_clear_2 : decode cX4_clear 2 = .ok (.putfield 60, 3) := by decide +kernel
theorem dX4_clear_5 : decode cX4_clear 5 = .ok (.aload_n 0, 1) := by decide +kernel
theorem dX4_clear_6 : decode cX4_clear 6 = .ok (.iconst 0, 1) := by decide +kernel
theorem dX4_clear_7 : decode cX4_clear 7 = .ok (.putfield 66, 3) := by decide +kernel
theorem dX4_clear_10 : decode cX4_clear 10 = .ok (.aload_n 0, 1) := by decide +kernel
theorem dX4_clear_11 : decode cX4_clear 11 = .ok (.invokevirtual 63, 3) := by decide +kernel
theorem dX4_clear_14 : decode cX4_clear 14 = .ok (.return_, 1) := by decide +kernel
theorem dX4_changes_0 : decode cX4_changes 0 = .ok (.aload_n 0, 1) := by decide +kernel
theorem dX4_changes_1 : decode cX4_changes 1 = .ok (.iconst (-1), 1) := by decide +kernel
theorem dX4_changes_2 : decode cX4_changes 2 = .ok (.putfield 16, 3) := by decide +kernel
theorem dX4_changes_5 : decode cX4_changes 5 = .ok (.iconst 0, 1) := by decide +kernel
theorem dX4_changes_6 : decode cX4_changes 6 = .ok (.istore_n 1, 1) := by decide +kernel
theorem dX4_changes_7 : decode cX4_changes 7 = .ok (.iload_n 1, 1) := by decide +kernel
theorem dX4_changes_8 : decode cX4_changes 8 = .ok (.bipush 24, 2) := by decide +kernel
theorem dX4_changes_10 : decode cX4_changes 10 = .ok (.if_icmp .ge 16, 3) := by decide +kernel
theorem dX4_changes_13 : decode cX4_changes 13 = .ok (.aload_n 0, 1) := by decide +kernel
theorem dX4_changes_14 : decode cX4_changes 14 = .ok (.getfield 33, 3) := by decide +kernel
theorem dX4_changes_17 : decode cX4_changes 17 = .ok (.iload_n 1, 1) := by decide +kernel
theorem dX4_changes_18 : decode cX4_changes 18 = .ok (.iconst 0, 1) := by decide +kernel
theorem dX4_changes_19 : decode cX4_changes 19 = .ok (.bastore, 1) := by decide +kernel
theorem dX4_changes_20 : decode cX4_changes 20 = .ok (.iinc 1 1, 3) := by decide +kernel
theorem dX4_changes_23 : decode cX4_changes 23 = .ok (.goto (-16), 3) := by decide +kernel
theorem dX4_changes_26 : decode cX4_changes 26 = .ok (.return_, 1) := by decide +kernel
theorem dX4_markOf_0 : decode cX4_markOf 0 = .ok (.iload_n 0, 1) := by decide +kernel
theorem dX4_markOf_1 : decode cX4_markOf 1 = .ok (.bipush 6, 2) := by decide +kernel
theorem dX4_markOf_3 : decode cX4_markOf 3 = .ok (.idiv, 1) := by decide +kernel
theorem dX4_markOf_4 : decode cX4_markOf 4 = .ok (.istore_n 1, 1) := by decide +kernel
theorem dX4_markOf_5 : decode cX4_markOf 5 = .ok (.iload_n 1, 1) := by decide +kernel
theorem dX4_markOf_6 : decode cX4_markOf 6 = .ok (.ifCond .ne 8, 3) := by decide +kernel
theorem dX4_markOf_9 : decode cX4_markOf 9 = .ok (.bipush 44, 2) := by decide +kernel
theorem dX4_markOf_11 : decode cX4_markOf 11 = .ok (.goto 25, 3) := by decide +kernel
theorem dX4_markOf_14 : decode cX4_markOf 14 = .ok (.iload_n 1, 1) := by decide +kernel
theorem dX4_markOf_15 : decode cX4_markOf 15 = .ok (.iconst 1, 1) := by decide +kernel
theorem dX4_markOf_16 : decode cX4_markOf 16 = .ok (.if_icmp .ne 8, 3) := by decide +kernel
theorem dX4_markOf_19 : decode cX4_markOf 19 = .ok (.bipush 59, 2) := by decide +kernel
theorem dX4_markOf_21 : decode cX4_markOf 21 = .ok (.goto 15, 3) := by decide +kernel
theorem dX4_markOf_24 : decode cX4_markOf 24 = .ok (.iload_n 1, 1) := by decide +kernel
theorem dX4_markOf_25 : decode cX4_markOf 25 = .ok (.iconst 2, 1) := by decide +kernel
theorem dX4_markOf_26 : decode cX4_markOf 26 = .ok (.if_icmp .ne 8, 3) := by decide +kernel
theorem dX4_markOf_29 : decode cX4_markOf 29 = .ok (.bipush 9, 2) := by decide +kernel
theorem dX4_markOf_31 : decode cX4_markOf 31 = .ok (.goto 5, 3) := by decide +kernel
theorem dX4_markOf_34 : decode cX4_markOf 34 = .ok (.bipush 124, 2) := by decide +kernel
theorem dX4_markOf_36 : decode cX4_markOf 36 = .ok (.ireturn, 1) := by decide +kernel
theorem dX4_quoteOf_0 : decode cX4_quoteOf 0 = .ok (.iload_n 0, 1) := by decide +kernel
theorem dX4_quoteOf_1 : decode cX4_quoteOf 1 = .ok (.iconst 2, 1) := by decide +kernel
theorem dX4_quoteOf_2 : decode cX4_quoteOf 2 = .ok (.idiv, 1) := by decide +kernel
theorem dX4_quoteOf_3 : decode cX4_quoteOf 3 = .ok (.iconst 3, 1) := by decide +kernel
theorem dX4_quoteOf_4 : decode cX4_quoteOf 4 = .ok (.irem, 1) := by decide +kernel
theorem dX4_quoteOf_5 : decode cX4_quoteOf 5 = .ok (.istore_n 1, 1) := by decide +kernel
theorem dX4_quoteOf_6 : decode cX4_quoteOf 6 = .ok (.iload_n 1, 1) := by decide +kernel
theorem dX4_quoteOf_7 : decode cX4_quoteOf 7 = .ok (.ifCond .ne 7, 3) := by decide +kernel
theorem dX4_quoteOf_10 : decode cX4_quoteOf 10 = .ok (.iconst (-1), 1) := by decide +kernel
theorem dX4_quoteOf_11 : decode cX4_quoteOf 11 = .ok (.goto 15, 3) := by decide +kernel
theorem dX4_quoteOf_14 : decode cX4_quoteOf 14 = .ok (.iload_n 1, 1) := by decide +kernel
theorem dX4_quoteOf_15 : decode cX4_quoteOf 15 = .ok (.iconst 1, 1) := by decide +kernel
theorem dX4_quoteOf_16 : decode cX4_quoteOf 16 = .ok (.if_icmp .ne 8, 3) := by decide +kernel
theorem dX4_quoteOf_19 : decode cX4_quoteOf 19 = .ok (.bipush 34, 2) := by decide +kernel
theorem dX4_quoteOf_21 : decode cX4_quoteOf 21 = .ok (.goto 5, 3) := by decide +kernel
theorem dX4_quoteOf_24 : decode cX4_quoteOf 24 = .ok (.bipush 39, 2) := by decide +kernel
theorem dX4_quoteOf_26 : decode cX4_quoteOf 26 = .ok (.ireturn, 1) := by decide +kernel
theorem dX4_hasHead_0 : decode cX4_hasHead 0 = .ok (.iload_n 0, 1) := by decide +kernel
theorem dX4_hasHead_1 : decode cX4_hasHead 1 = .ok (.iconst 2, 1) := by decide +kernel
theorem dX4_hasHead_2 : decode cX4_hasHead 2 = .ok (.irem, 1) := by decide +kernel
theorem dX4_hasHead_3 : decode cX4_hasHead 3 = .ok (.iconst 1, 1) := by decide +kernel
theorem dX4_hasHead_4 : decode cX4_hasHead 4 = .ok (.if_icmp .ne 7, 3) := by decide +kernel
theorem dX4_hasHead_7 : decode cX4_hasHead 7 = .ok (.iconst 1, 1) := by decide +kernel
theorem dX4_hasHead_8 : decode cX4_hasHead 8 = .ok (.goto 4, 3) := by decide +kernel
theorem dX4_hasHead_11 : decode cX4_hasHead 11 = .ok (.iconst 0, 1) := by decide +kernel
theorem dX4_hasHead_12 : decode cX4_hasHead 12 = .ok (.ireturn, 1) := by decide +kernel
theorem dX4_textAt_0 : decode cX4_textAt 0 = .ok (.iload_n 1, 1) := by decide +kernel
theorem dX4_textAt_1 : decode cX4_textAt 1 = .ok (.aload_n 0, 1) := by decide +kernel
theorem dX4_textAt_2 : decode cX4_textAt 2 = .ok (.getfield 60, 3) := by decide +kernel
theorem dX4_textAt_5 : decode cX4_textAt 5 = .ok (.if_icmp .ge 16, 3) := by decide +kernel
theorem dX4_textAt_8 : decode cX4_textAt 8 = .ok (.aload_n 0, 1) := by decide +kernel
theorem dX4_textAt_9 : decode cX4_textAt 9 = .ok (.getfield 13, 3) := by decide +kernel
theorem dX4_textAt_12 : decode cX4_textAt 12 = .ok (.iload_n 1, 1) := by decide +kernel
theorem dX4_textAt_13 : decode cX4_textAt 13 = .ok (.baload, 1) := by decide +kernel
theorem dX4_textAt_14 : decode cX4_textAt 14 = .ok (.sipush 255, 3) := by decide +kernel
theorem dX4_textAt_17 : decode cX4_textAt 17 = .ok (.iand, 1) := by decide +kernel
theorem dX4_textAt_18 : decode cX4_textAt 18 = .ok (.goto 4, 3) := by decide +kernel
theorem dX4_textAt_21 : decode cX4_textAt 21 = .ok (.iconst (-1), 1) := by decide +kernel
theorem dX4_textAt_22 : decode cX4_textAt 22 = .ok (.ireturn, 1) := by decide +kernel
theorem dX4_wrong_0 : decode cX4_wrong 0 = .ok (.aload_n 0, 1) := by decide +kernel
theorem dX4_wrong_1 : decode cX4_wrong 1 = .ok (.iload_n 1, 1) := by decide +kernel
theorem dX4_wrong_2 : decode cX4_wrong 2 = .ok (.putfield 69, 3) := by decide +kernel
theorem dX4_wrong_5 : decode cX4_wrong 5 = .ok (.aload_n 0, 1) := by decide +kernel
theorem dX4_wrong_6 : decode cX4_wrong 6 = .ok (.iload_n 2, 1) := by decide +kernel
theorem dX4_wrong_7 : decode cX4_wrong 7 = .ok (.putfield 72, 3) := by decide +kernel
theorem dX4_wrong_10 : decode cX4_wrong 10 = .ok (.return_, 1) := by decide +kernel
theorem dX4_take_0 : decode cX4_take 0 = .ok (.aload_n 0, 1) := by decide +kernel
theorem dX4_take_1 : decode cX4_take 1 = .ok (.getfield 30, 3) := by decide +kernel
theorem dX4_take_4 : decode cX4_take 4 = .ok (.aload_n 0, 1) := by decide +kernel
theorem dX4_take_5 : decode cX4_take 5 = .ok (.getfield 75, 3) := by decide +kernel
theorem dX4_take_8 : decode cX4_take 8 = .ok (.iload_n 1, 1) := by decide +kernel
theorem dX4_take_9 : decode cX4_take 9 = .ok (.i2b, 1) := by decide +kernel
theorem dX4_take_10 : decode cX4_take 10 = .ok (.bastore, 1) := by decide +kernel
theorem dX4_take_11 : decode cX4_take 11 = .ok (.aload_n 0, 1) := by decide +kernel
theorem dX4_take_12 : decode cX4_take 12 = .ok (.dup, 1) := by decide +kernel
theorem dX4_take_13 : decode cX4_take 13 = .ok (.getfield 75, 3) := by decide +kernel
theorem dX4_take_16 : decode cX4_take 16 = .ok (.iconst 1, 1) := by decide +kernel
theorem dX4_take_17 : decode cX4_take 17 = .ok (.iadd, 1) := by decide +kernel
theorem dX4_take_18 : decode cX4_take 18 = .ok (.putfield 75, 3) := by decide +kernel
theorem dX4_take_21 : decode cX4_take 21 = .ok (.return_, 1) := by decide +kernel
theorem dX4_cell_0 : decode cX4_cell 0 = .ok (.aload_n 0, 1) := by decide +kernel
theorem dX4_cell_1 : decode cX4_cell 1 = .ok (.getfield 24, 3) := by decide +kernel
theorem dX4_cell_4 : decode cX4_cell 4 = .ok (.aload_n 0, 1) := by decide +kernel
theorem dX4_cell_5 : decode cX4_cell 5 = .ok (.getfield 78, 3) := by decide +kernel
theorem dX4_cell_8 : decode cX4_cell 8 = .ok (.aload_n 0, 1) := by decide +kernel
theorem dX4_cell_9 : decode cX4_cell 9 = .ok (.getfield 75, 3) := by decide +kernel
theorem dX4_cell_12 : decode cX4_cell 12 = .ok (.iastore, 1) := by decide +kernel
theorem dX4_cell_13 : decode cX4_cell 13 = .ok (.iload_n 1, 1) := by decide +kernel
theorem dX4_cell_14 : decode cX4_cell 14 = .ok (.istore 4, 2) := by decide +kernel
theorem dX4_cell_16 : decode cX4_cell 16 = .ok (.iload_n 3, 1) := by decide +kernel
theorem dX4_cell_17 : decode cX4_cell 17 = .ok (.ifCond .lt 140, 3) := by decide +kernel
theorem dX4_cell_20 : decode cX4_cell 20 = .ok (.aload_n 0, 1) := by decide +kernel
theorem dX4_cell_21 : decode cX4_cell 21 = .ok (.iload_n 1, 1) := by decide +kernel
theorem dX4_cell_22 : decode cX4_cell 22 = .ok (.invokevirtual 81, 3) := by decide +kernel
theorem dX4_cell_25 : decode cX4_cell 25 = .ok (.iload_n 3, 1) := by decide +kernel
theorem dX4_cell_26 : decode cX4_cell 26 = .ok (.if_icmp .ne 131, 3) := by decide +kernel
theorem dX4_cell_29 : decode cX4_cell 29 = .ok (.iload_n 1, 1) := by decide +kernel
theorem dX4_cell_30 : decode cX4_cell 30 = .ok (.iconst 1, 1) := by decide +kernel
theorem dX4_cell_31 : decode cX4_cell 31 = .ok (.iadd, 1) := by decide +kernel
theorem dX4_cell_32 : decode cX4_cell 32 = .ok (.istore 4, 2) := by decide +kernel
theorem dX4_cell_34 : decode cX4_cell 34 = .ok (.iload 4, 2) := by decide +kernel
theorem dX4_cell_36 : decode cX4_cell 36 = .ok (.aload_n 0, 1) := by decide +kernel
theorem dX4_cell_37 : decode cX4_cell 37 = .ok (.getfield 60, 3) := by decide +kernel
theorem dX4_cell_40 : decode cX4_cell 40 = .ok (.if_icmp .ge 58, 3) := by decide +kernel
theorem dX4_cell_43 : decode cX4_cell 43 = .ok (.aload_n 0, 1) := by decide +kernel
theorem dX4_cell_44 : decode cX4_cell 44 = .ok (.iload 4, 2) := by decide +kernel
theorem dX4_cell_46 : decode cX4_cell 46 = .ok (.invokevirtual 81, 3) := by decide +kernel
theorem dX4_cell_49 : decode cX4_cell 49 = .ok (.iload_n 3, 1) := by decide +kernel
theorem dX4_cell_50 : decode cX4_cell 50 = .ok (.if_icmp .ne 15, 3) := by decide +kernel
theorem dX4_cell_53 : decode cX4_cell 53 = .ok (.aload_n 0, 1) := by decide +kernel
theorem dX4_cell_54 : decode cX4_cell 54 = .ok (.iload 4, 2) := by decide +kernel
theorem dX4_cell_56 : decode cX4_cell 56 = .ok (.iconst 1, 1) := by decide +kernel
theorem dX4_cell_57 : decode cX4_cell 57 = .ok (.iadd, 1) := by decide +kernel
theorem dX4_cell_58 : decode cX4_cell 58 = .ok (.invokevirtual 81, 3) := by decide +kernel
theorem dX4_cell_61 : decode cX4_cell 61 = .ok (.iload_n 3, 1) := by decide +kernel
theorem dX4_cell_62 : decode cX4_cell 62 = .ok (.if_icmp .ne 36, 3) := by decide +kernel
theorem dX4_cell_65 : decode cX4_cell 65 = .ok (.aload_n 0, 1) := by decide +kernel
theorem dX4_cell_66 : decode cX4_cell 66 = .ok (.aload_n 0, 1) := by decide +kernel
theorem dX4_cell_67 : decode cX4_cell 67 = .ok (.iload 4, 2) := by decide +kernel
theorem dX4_cell_69 : decode cX4_cell 69 = .ok (.invokevirtual 81, 3) := by decide +kernel
theorem dX4_cell_72 : decode cX4_cell 72 = .ok (.invokevirtual 85, 3) := by decide +kernel
theorem dX4_cell_75 : decode cX4_cell 75 = .ok (.iload 4, 2) := by decide +kernel
theorem dX4_cell_77 : decode cX4_cell 77 = .ok (.aload_n 0, 1) := by decide +kernel
theorem dX4_cell_78 : decode cX4_cell 78 = .ok (.iload 4, 2) := by decide +kernel
theorem dX4_cell_80 : decode cX4_cell 80 = .ok (.invokevirtual 81, 3) := by decide +kernel
theorem dX4_cell_83 : decode cX4_cell 83 = .ok (.iload_n 3, 1) := by decide +kernel
theorem dX4_cell_84 : decode cX4_cell 84 = .ok (.if_icmp .ne 7, 3) := by decide +kernel
theorem dX4_cell_87 : decode cX4_cell 87 = .ok (.iconst 2, 1) := by decide +kernel
theorem dX4_cell_88 : decode cX4_cell 88 = .ok (.goto 4, 3) := by decide +kernel
theorem dX4_cell_91 : decode cX4_cell 91 = .ok (.iconst 1, 1) := by decide +kernel
theorem dX4_cell_92 : decode cX4_cell 92 = .ok (.iadd, 1) := by decide +kernel
theorem dX4_cell_93 : decode cX4_cell 93 = .ok (.istore 4, 2) := by decide +kernel
theorem dX4_cell_95 : decode cX4_cell 95 = .ok (.goto (-61), 3) := by decide +kernel
theorem dX4_cell_98 : decode cX4_cell 98 = .ok (.iload 4, 2) := by decide +kernel
theorem dX4_cell_100 : decode cX4_cell 100 = .ok (.aload_n 0, 1) := by decide +kernel
theorem dX4_cell_101 : decode cX4_cell 101 = .ok (.getfield 60, 3) := by decide +kernel
theorem dX4_cell_104 : decode cX4_cell 104 = .ok (.if_icmp .lt 11, 3) := by decide +kernel
theorem dX4_cell_107 : decode cX4_cell 107 = .ok (.aload_n 0, 1) := by decide +kernel
theorem dX4_cell_108 : decode cX4_cell 108 = .ok (.iconst 1, 1) := by decide +kernel
theorem dX4_cell_109 : decode cX4_cell 109 = .ok (.iload_n 1, 1) := by decide +kernel
theorem dX4_cell_110 : decode cX4_cell 110 = .ok (.invokevirtual 88, 3) := by decide +kernel
theorem dX4_cell_113 : decode cX4_cell 113 = .ok (.iconst (-1), 1) := by decide +kernel
theorem dX4_cell_114 : decode cX4_cell 114 = .ok (.ireturn, 1) := by decide +kernel
theorem dX4_cell_115 : decode cX4_cell 115 = .ok (.iinc 4 1, 3) := by decide +kernel
theorem dX4_cell_118 : decode cX4_cell 118 = .ok (.iload 4, 2) := by decide +kernel
theorem dX4_cell_120 : decode cX4_cell 120 = .ok (.aload_n 0, 1) := by decide +kernel
theorem dX4_cell_121 : decode cX4_cell 121 = .ok (.getfield 60, 3) := by decide +kernel
theorem dX4_cell_124 : decode cX4_cell 124 = .ok (.if_icmp .ge 79, 3) := by decide +kernel
theorem dX4_cell_127 : decode cX4_cell 127 = .ok (.aload_n 0, 1) := by decide +kernel
theorem dX4_cell_128 : decode cX4_cell 128 = .ok (.iload 4, 2) := by decide +kernel
theorem dX4_cell_130 : decode cX4_cell 130 = .ok (.invokevirtual 81, 3) := by decide +kernel
theorem dX4_cell_133 : decode cX4_cell 133 = .ok (.iload_n 2, 1) := by decide +kernel
theorem dX4_cell_134 : decode cX4_cell 134 = .ok (.if_icmp .eq 69, 3) := by decide +kernel
theorem dX4_cell_137 : decode cX4_cell 137 = .ok (.aload_n 0, 1) := by decide +kernel
theorem dX4_cell_138 : decode cX4_cell 138 = .ok (.iload 4, 2) := by decide +kernel
theorem dX4_cell_140 : decode cX4_cell 140 = .ok (.invokevirtual 81, 3) := by decide +kernel
theorem dX4_cell_143 : decode cX4_cell 143 = .ok (.bipush 10, 2) := by decide +kernel
theorem dX4_cell_145 : decode cX4_cell 145 = .ok (.if_icmp .eq 58, 3) := by decide +kernel
theorem dX4_cell_148 : decode cX4_cell 148 = .ok (.aload_n 0, 1) := by decide +kernel
theorem dX4_cell_149 : decode cX4_cell 149 = .ok (.iconst 2, 1) := by decide +kernel
theorem dX4_cell_150 : decode cX4_cell 150 = .ok (.iload 4, 2) := by decide +kernel
theorem dX4_cell_152 : decode cX4_cell 152 = .ok (.invokevirtual 88, 3) := by decide +kernel
theorem dX4_cell_155 : decode cX4_cell 155 = .ok (.iconst (-1), 1) := by decide +kernel
theorem dX4_cell_156 : decode cX4_cell 156 = .ok (.ireturn, 1) := by decide +kernel
theorem dX4_cell_157 : decode cX4_cell 157 = .ok (.iload 4, 2) := by decide +kernel
theorem dX4_cell_159 : decode cX4_cell 159 = .ok (.aload_n 0, 1) := by decide +kernel
theorem dX4_cell_160 : decode cX4_cell 160 = .ok (.getfield 60, 3) := by decide +kernel
theorem dX4_cell_163 : decode cX4_cell 163 = .ok (.if_icmp .ge 40, 3) := by decide +kernel
theorem dX4_cell_166 : decode cX4_cell 166 = .ok (.aload_n 0, 1) := by decide +kernel
theorem dX4_cell_167 : decode cX4_cell 167 = .ok (.iload 4, 2) := by decide +kernel
theorem dX4_cell_169 : decode cX4_cell 169 = .ok (.invokevirtual 81, 3) := by decide +kernel
theorem dX4_cell_172 : decode cX4_cell 172 = .ok (.iload_n 2, 1) := by decide +kernel
theorem dX4_cell_173 : decode cX4_cell 173 = .ok (.if_icmp .eq 30, 3) := by decide +kernel
theorem dX4_cell_176 : decode cX4_cell 176 = .ok (.aload_n 0, 1) := by decide +kernel
theorem dX4_cell_177 : decode cX4_cell 177 = .ok (.iload 4, 2) := by decide +kernel
theorem dX4_cell_179 : decode cX4_cell 179 = .ok (.invokevirtual 81, 3) := by decide +kernel
theorem dX4_cell_182 : decode cX4_cell 182 = .ok (.bipush 10, 2) := by decide +kernel
theorem dX4_cell_184 : decode cX4_cell 184 = .ok (.if_icmp .eq 19, 3) := by decide +kernel
theorem dX4_cell_187 : decode cX4_cell 187 = .ok (.aload_n 0, 1) := by decide +kernel
theorem dX4_cell_188 : decode cX4_cell 188 = .ok (.aload_n 0, 1) := by decide +kernel
theorem dX4_cell_189 : decode cX4_cell 189 = .ok (.iload 4, 2) := by decide +kernel
theorem dX4_cell_191 : decode cX4_cell 191 = .ok (.invokevirtual 81, 3) := by decide +kernel
theorem dX4_cell_194 : decode cX4_cell 194 = .ok (.invokevirtual 85, 3) := by decide +kernel
theorem dX4_cell_197 : decode cX4_cell 197 = .ok (.iinc 4 1, 3) := by decide +kernel
theorem dX4_cell_200 : decode cX4_cell 200 = .ok (.goto (-43), 3) := by decide +kernel
theorem dX4_cell_203 : decode cX4_cell 203 = .ok (.aload_n 0, 1) := by decide +kernel
theorem dX4_cell_204 : decode cX4_cell 204 = .ok (.getfield 27, 3) := by decide +kernel
theorem dX4_cell_207 : decode cX4_cell 207 = .ok (.aload_n 0, 1) := by decide +kernel
theorem dX4_cell_208 : decode cX4_cell 208 = .ok (.getfield 78, 3) := by decide +kernel
theorem dX4_cell_211 : decode cX4_cell 211 = .ok (.aload_n 0, 1) := by decide +kernel
theorem dX4_cell_212 : decode cX4_cell 212 = .ok (.getfield 75, 3) := by decide +kernel
theorem dX4_cell_215 : decode cX4_cell 215 = .ok (.aload_n 0, 1) := by decide +kernel
theorem dX4_cell_216 : decode cX4_cell 216 = .ok (.getfield 24, 3) := by decide +kernel
theorem dX4_cell_219 : decode cX4_cell 219 = .ok (.aload_n 0, 1) := by decide +kernel
theorem dX4_cell_220 : decode cX4_cell 220 = .ok (.getfield 78, 3) := by decide +kernel
theorem dX4_cell_223 : decode cX4_cell 223 = .ok (.iaload, 1) := by decide +kernel
theorem dX4_cell_224 : decode cX4_cell 224 = .ok (.isub, 1) := by decide +kernel
theorem dX4_cell_225 : decode cX4_cell 225 = .ok (.iastore, 1) := by decide +kernel
theorem dX4_cell_226 : decode cX4_cell 226 = .ok (.aload_n 0, 1) := by decide +kernel
theorem dX4_cell_227 : decode cX4_cell 227 = .ok (.dup, 1) := by decide +kernel
theorem dX4_cell_228 : decode cX4_cell 228 = .ok (.getfield 78, 3) := by decide +kernel
theorem dX4_cell_231 : decode cX4_cell 231 = .ok (.iconst 1, 1) := by decide +kernel
theorem dX4_cell_232 : decode cX4_cell 232 = .ok (.iadd, 1) := by decide +kernel
theorem dX4_cell_233 : decode cX4_cell 233 = .ok (.putfield 78, 3) := by decide +kernel
theorem dX4_cell_236 : decode cX4_cell 236 = .ok (.iload 4, 2) := by decide +kernel
theorem dX4_cell_238 : decode cX4_cell 238 = .ok (.ireturn, 1) := by decide +kernel
theorem dX4_load_0 : decode cX4_load 0 = .ok (.aload_n 0, 1) := by decide +kernel
theorem dX4_load_1 : decode cX4_load 1 = .ok (.getfield 16, 3) := by decide +kernel
theorem dX4_load_4 : decode cX4_load 4 = .ok (.iload_n 1, 1) := by decide +kernel
theorem dX4_load_5 : decode cX4_load 5 = .ok (.if_icmp .ne 4, 3) := by decide +kernel
theorem dX4_load_8 : decode cX4_load 8 = .ok (.return_, 1) := by decide +kernel
theorem dX4_load_9 : decode cX4_load 9 = .ok (.aload_n 0, 1) := by decide +kernel
theorem dX4_load_10 : decode cX4_load 10 = .ok (.iload_n 1, 1) := by decide +kernel
theorem dX4_load_11 : decode cX4_load 11 = .ok (.putfield 16, 3) := by decide +kernel
theorem dX4_load_14 : decode cX4_load 14 = .ok (.aload_n 0, 1) := by decide +kernel
theorem dX4_load_15 : decode cX4_load 15 = .ok (.iconst 0, 1) := by decide +kernel
theorem dX4_load_16 : decode cX4_load 16 = .ok (.putfield 92, 3) := by decide +kernel
theorem dX4_load_19 : decode cX4_load 19 = .ok (.aload_n 0, 1) := by decide +kernel
theorem dX4_load_20 : decode cX4_load 20 = .ok (.iconst 0, 1) := by decide +kernel
theorem dX4_load_21 : decode cX4_load 21 = .ok (.putfield 78, 3) := by decide +kernel
theorem dX4_load_24 : decode cX4_load 24 = .ok (.aload_n 0, 1) := by decide +kernel
theorem dX4_load_25 : decode cX4_load 25 = .ok (.iconst 0, 1) := by decide +kernel
theorem dX4_load_26 : decode cX4_load 26 = .ok (.putfield 75, 3) := by decide +kernel
theorem dX4_load_29 : decode cX4_load 29 = .ok (.aload_n 0, 1) := by decide +kernel
theorem dX4_load_30 : decode cX4_load 30 = .ok (.iconst 0, 1) := by decide +kernel
theorem dX4_load_31 : decode cX4_load 31 = .ok (.putfield 95, 3) := by decide +kernel
theorem dX4_load_34 : decode cX4_load 34 = .ok (.aload_n 0, 1) := by decide +kernel
theorem dX4_load_35 : decode cX4_load 35 = .ok (.iconst 0, 1) := by decide +kernel
theorem dX4_load_36 : decode cX4_load 36 = .ok (.iconst (-1), 1) := by decide +kernel
theorem dX4_load_37 : decode cX4_load 37 = .ok (.invokevirtual 88, 3) := by decide +kernel
theorem dX4_load_40 : decode cX4_load 40 = .ok (.iconst 0, 1) := by decide +kernel
theorem dX4_load_41 : decode cX4_load 41 = .ok (.istore_n 2, 1) := by decide +kernel
theorem dX4_load_42 : decode cX4_load 42 = .ok (.iload_n 2, 1) := by decide +kernel
theorem dX4_load_43 : decode cX4_load 43 = .ok (.ifCond .lt 21, 3) := by decide +kernel
theorem dX4_load_46 : decode cX4_load 46 = .ok (.iload_n 2, 1) := by decide +kernel
theorem dX4_load_47 : decode cX4_load 47 = .ok (.aload_n 0, 1) := by decide +kernel
theorem dX4_load_48 : decode cX4_load 48 = .ok (.getfield 60, 3) := by decide +kernel
theorem dX4_load_51 : decode cX4_load 51 = .ok (.if_icmp .ge 13, 3) := by decide +kernel
theorem dX4_load_54 : decode cX4_load 54 = .ok (.aload_n 0, 1) := by decide +kernel
theorem dX4_load_55 : decode cX4_load 55 = .ok (.iload_n 2, 1) := by decide +kernel
theorem dX4_load_56 : decode cX4_load 56 = .ok (.iload_n 1, 1) := by decide +kernel
theorem dX4_load_57 : decode cX4_load 57 = .ok (.invokevirtual 98, 3) := by decide +kernel
theorem dX4_load_60 : decode cX4_load 60 = .ok (.istore_n 2, 1) := by decide +kernel
theorem dX4_load_61 : decode cX4_load 61 = .ok (.goto (-19), 3) := by decide +kernel
theorem dX4_load_64 : decode cX4_load 64 = .ok (.aload_n 0, 1) := by decide +kernel
theorem dX4_load_65 : decode cX4_load 65 = .ok (.getfield 69, 3) := by decide +kernel
theorem dX4_load_68 : decode cX4_load 68 = .ok (.ifCond .ne 23, 3) := by decide +kernel
theorem dX4_load_71 : decode cX4_load 71 = .ok (.aload_n 0, 1) := by decide +kernel
theorem dX4_load_72 : decode cX4_load 72 = .ok (.getfield 92, 3) := by decide +kernel
theorem dX4_load_75 : decode cX4_load 75 = .ok (.ifCond .ne 16, 3) := by decide +kernel
theorem dX4_load_78 : decode cX4_load 78 = .ok (.iload_n 1, 1) := by decide +kernel
theorem dX4_load_79 : decode cX4_load 79 = .ok (.invokestatic 102, 3) := by decide +kernel
theorem dX4_load_82 : decode cX4_load 82 = .ok (.ifCond .eq 9, 3) := by decide +kernel
theorem dX4_load_85 : decode cX4_load 85 = .ok (.aload_n 0, 1) := by decide +kernel
theorem dX4_load_86 : decode cX4_load 86 = .ok (.iconst 4, 1) := by decide +kernel
theorem dX4_load_87 : decode cX4_load 87 = .ok (.iconst 0, 1) := by decide +kernel
theorem dX4_load_88 : decode cX4_load 88 = .ok (.invokevirtual 88, 3) := by decide +kernel
theorem dX4_load_91 : decode cX4_load 91 = .ok (.aload_n 0, 1) := by decide +kernel
theorem dX4_load_92 : decode cX4_load 92 = .ok (.getfield 20, 3) := by decide +kernel
theorem dX4_load_95 : decode cX4_load 95 = .ok (.aload_n 0, 1) := by decide +kernel
theorem dX4_load_96 : decode cX4_load 96 = .ok (.getfield 92, 3) := by decide +kernel
theorem dX4_load_99 : decode cX4_load 99 = .ok (.aload_n 0, 1) := by decide +kernel
theorem dX4_load_100 : decode cX4_load 100 = .ok (.getfield 78, 3) := by decide +kernel
theorem dX4_load_103 : decode cX4_load 103 = .ok (.iastore, 1) := by decide +kernel
theorem dX4_load_104 : decode cX4_load 104 = .ok (.aload_n 0, 1) := by decide +kernel
theorem dX4_load_105 : decode cX4_load 105 = .ok (.getfield 69, 3) := by decide +kernel
theorem dX4_load_108 : decode cX4_load 108 = .ok (.ifCond .le 8, 3) := by decide +kernel
theorem dX4_load_111 : decode cX4_load 111 = .ok (.aload_n 0, 1) := by decide +kernel
theorem dX4_load_112 : decode cX4_load 112 = .ok (.iconst 0, 1) := by decide +kernel
theorem dX4_load_113 : decode cX4_load 113 = .ok (.putfield 92, 3) := by decide +kernel
theorem dX4_load_116 : decode cX4_load 116 = .ok (.iconst 0, 1) := by decide +kernel
theorem dX4_load_117 : decode cX4_load 117 = .ok (.istore_n 3, 1) := by decide +kernel
theorem dX4_load_118 : decode cX4_load 118 = .ok (.iload_n 3, 1) := by decide +kernel
theorem dX4_load_119 : decode cX4_load 119 = .ok (.aload_n 0, 1) := by decide +kernel
theorem dX4_load_120 : decode cX4_load 120 = .ok (.getfield 92, 3) := by decide +kernel
theorem dX4_load_123 : decode cX4_load 123 = .ok (.if_icmp .ge 31, 3) := by decide +kernel
theorem dX4_load_126 : decode cX4_load 126 = .ok (.aload_n 0, 1) := by decide +kernel
theorem dX4_load_127 : decode cX4_load 127 = .ok (.dup, 1) := by decide +kernel
theorem dX4_load_128 : decode cX4_load 128 = .ok (.getfield 95, 3) := by decide +kernel
theorem dX4_load_131 : decode cX4_load 131 = .ok (.aload_n 0, 1) := by decide +kernel
theorem dX4_load_132 : decode cX4_load 132 = .ok (.iload_n 3, 1) := by decide +kernel
theorem dX4_load_133 : decode cX4_load 133 = .ok (.invokevirtual 106, 3) := by decide +kernel
theorem dX4_load_136 : decode cX4_load 136 = .ok (.ifCond .eq 7, 3) := by decide +kernel
theorem dX4_load_139 : decode cX4_load 139 = .ok (.iconst 1, 1) := by decide +kernel
theorem dX4_load_140 : decode cX4_load 140 = .ok (.goto 4, 3) := by decide +kernel
theorem dX4_load_143 : decode cX4_load 143 = .ok (.iconst 0, 1) := by decide +kernel
theorem dX4_load_144 : decode cX4_load 144 = .ok (.iadd, 1) := by decide +kernel
theorem dX4_load_145 : decode cX4_load 145 = .ok (.putfield 95, 3) := by decide +kernel
theorem dX4_load_148 : decode cX4_load 148 = .ok (.iinc 3 1, 3) := by decide +kernel
theorem dX4_load_151 : decode cX4_load 151 = .ok (.goto (-33), 3) := by decide +kernel
theorem dX4_load_154 : decode cX4_load 154 = .ok (.return_, 1) := by decide +kernel
theorem dX4_row_0 : decode cX4_row 0 = .ok (.aload_n 0, 1) := by decide +kernel
theorem dX4_row_1 : decode cX4_row 1 = .ok (.getfield 92, 3) := by decide +kernel
theorem dX4_row_4 : decode cX4_row 4 = .ok (.bipush 80, 2) := by decide +kernel
theorem dX4_row_6 : decode cX4_row 6 = .ok (.if_icmp .ne 11, 3) := by decide +kernel
theorem dX4_row_9 : decode cX4_row 9 = .ok (.aload_n 0, 1) := by decide +kernel
theorem dX4_row_10 : decode cX4_row 10 = .ok (.iconst 3, 1) := by decide +kernel
theorem dX4_row_11 : decode cX4_row 11 = .ok (.iload_n 1, 1) := by decide +kernel
theorem dX4_row_12 : decode cX4_row 12 = .ok (.invokevirtual 88, 3) := by decide +kernel
theorem dX4_row_15 : decode cX4_row 15 = .ok (.iconst (-1), 1) := by decide +kernel
theorem dX4_row_16 : decode cX4_row 16 = .ok (.ireturn, 1) := by decide +kernel
theorem dX4_row_17 : decode cX4_row 17 = .ok (.aload_n 0, 1) := by decide +kernel
theorem dX4_row_18 : decode cX4_row 18 = .ok (.getfield 20, 3) := by decide +kernel
theorem dX4_row_21 : decode cX4_row 21 = .ok (.aload_n 0, 1) := by decide +kernel
theorem dX4_row_22 : decode cX4_row 22 = .ok (.getfield 92, 3) := by decide +kernel
theorem dX4_row_25 : decode cX4_row 25 = .ok (.aload_n 0, 1) := by decide +kernel
theorem dX4_row_26 : decode cX4_row 26 = .ok (.getfield 78, 3) := by decide +kernel
theorem dX4_row_29 : decode cX4_row 29 = .ok (.iastore, 1) := by decide +kernel
theorem dX4_row_30 : decode cX4_row 30 = .ok (.iload_n 1, 1) := by decide +kernel
theorem dX4_row_31 : decode cX4_row 31 = .ok (.istore_n 3, 1) := by decide +kernel
theorem dX4_row_32 : decode cX4_row 32 = .ok (.iconst 1, 1) := by decide +kernel
theorem dX4_row_33 : decode cX4_row 33 = .ok (.istore 4, 2) := by decide +kernel
theorem dX4_row_35 : decode cX4_row 35 = .ok (.iload 4, 2) := by decide +kernel
theorem dX4_row_37 : decode cX4_row 37 = .ok (.ifCond .eq 75, 3) := by decide +kernel
theorem dX4_row_40 : decode cX4_row 40 = .ok (.aload_n 0, 1) := by decide +kernel
theorem dX4_row_41 : decode cX4_row 41 = .ok (.getfield 78, 3) := by decide +kernel
theorem dX4_row_44 : decode cX4_row 44 = .ok (.aload_n 0, 1) := by decide +kernel
theorem dX4_row_45 : decode cX4_row 45 = .ok (.getfield 20, 3) := by decide +kernel
theorem dX4_row_48 : decode cX4_row 48 = .ok (.aload_n 0, 1) := by decide +kernel
theorem dX4_row_49 : decode cX4_row 49 = .ok (.getfield 92, 3) := by decide +kernel
theorem dX4_row_52 : decode cX4_row 52 = .ok (.iaload, 1) := by decide +kernel
theorem dX4_row_53 : decode cX4_row 53 = .ok (.isub, 1) := by decide +kernel
theorem dX4_row_54 : decode cX4_row 54 = .ok (.bipush 12, 2) := by decide +kernel
theorem dX4_row_56 : decode cX4_row 56 = .ok (.if_icmp .ne 11, 3) := by decide +kernel
theorem dX4_row_59 : decode cX4_row 59 = .ok (.aload_n 0, 1) := by decide +kernel
theorem dX4_row_60 : decode cX4_row 60 = .ok (.iconst 3, 1) := by decide +kernel
theorem dX4_row_61 : decode cX4_row 61 = .ok (.iload_n 3, 1) := by decide +kernel
theorem dX4_row_62 : decode cX4_row 62 = .ok (.invokevirtual 88, 3) := by decide +kernel
theorem dX4_row_65 : decode cX4_row 65 = .ok (.iconst (-1), 1) := by decide +kernel
theorem dX4_row_66 : decode cX4_row 66 = .ok (.ireturn, 1) := by decide +kernel
theorem dX4_row_67 : decode cX4_row 67 = .ok (.aload_n 0, 1) := by decide +kernel
theorem dX4_row_68 : decode cX4_row 68 = .ok (.iload_n 3, 1) := by decide +kernel
theorem dX4_row_69 : decode cX4_row 69 = .ok (.iload_n 2, 1) := by decide +kernel
theorem dX4_row_70 : decode cX4_row 70 = .ok (.invokestatic 109, 3) := by decide +kernel
theorem dX4_row_73 : decode cX4_row 73 = .ok (.iload_n 2, 1) := by decide +kernel
theorem dX4_row_74 : decode cX4_row 74 = .ok (.invokestatic 112, 3) := by decide +kernel
theorem dX4_row_77 : decode cX4_row 77 = .ok (.invokevirtual 115, 3) := by decide +kernel
theorem dX4_row_80 : decode cX4_row 80 = .ok (.istore_n 3, 1) := by decide +kernel
theorem dX4_row_81 : decode cX4_row 81 = .ok (.iload_n 3, 1) := by decide +kernel
theorem dX4_row_82 : decode cX4_row 82 = .ok (.ifCond .ge 5, 3) := by decide +kernel
theorem dX4_row_85 : decode cX4_row 85 = .ok (.iconst (-1), 1) := by decide +kernel
theorem dX4_row_86 : decode cX4_row 86 = .ok (.ireturn, 1) := by decide +kernel
theorem dX4_row_87 : decode cX4_row 87 = .ok (.aload_n 0, 1) := by decide +kernel
theorem dX4_row_88 : decode cX4_row 88 = .ok (.iload_n 3, 1) := by decide +kernel
theorem dX4_row_89 : decode cX4_row 89 = .ok (.invokevirtual 81, 3) := by decide +kernel
theorem dX4_row_92 : decode cX4_row 92 = .ok (.iload_n 2, 1) := by decide +kernel
theorem dX4_row_93 : decode cX4_row 93 = .ok (.invokestatic 109, 3) := by decide +kernel
theorem dX4_row_96 : decode cX4_row 96 = .ok (.if_icmp .ne 7, 3) := by decide +kernel
theorem dX4_row_99 : decode cX4_row 99 = .ok (.iconst 1, 1) := by decide +kernel
theorem dX4_row_100 : decode cX4_row 100 = .ok (.goto 4, 3) := by decide +kernel
theorem dX4_row_103 : decode cX4_row 103 = .ok (.iconst 0, 1) := by decide +kernel
theorem dX4_row_104 : decode cX4_row 104 = .ok (.istore 4, 2) := by decide +kernel
theorem dX4_row_106 : decode cX4_row 106 = .ok (.iinc 3 1, 3) := by decide +kernel
theorem dX4_row_109 : decode cX4_row 109 = .ok (.goto (-74), 3) := by decide +kernel
theorem dX4_row_112 : decode cX4_row 112 = .ok (.aload_n 0, 1) := by decide +kernel
theorem dX4_row_113 : decode cX4_row 113 = .ok (.dup, 1) := by decide +kernel
theorem dX4_row_114 : decode cX4_row 114 = .ok (.getfield 92, 3) := by decide +kernel
theorem dX4_row_117 : decode cX4_row 117 = .ok (.iconst 1, 1) := by decide +kernel
theorem dX4_row_118 : decode cX4_row 118 = .ok (.iadd, 1) := by decide +kernel
theorem dX4_row_119 : decode cX4_row 119 = .ok (.putfield 92, 3) := by decide +kernel
theorem dX4_row_122 : decode cX4_row 122 = .ok (.iload_n 3, 1) := by decide +kernel
theorem dX4_row_123 : decode cX4_row 123 = .ok (.ireturn, 1) := by decide +kernel
theorem dX4_cellsOf_0 : decode cX4_cellsOf 0 = .ok (.aload_n 0, 1) := by decide +kernel
theorem dX4_cellsOf_1 : decode cX4_cellsOf 1 = .ok (.getfield 20, 3) := by decide +kernel
theorem dX4_cellsOf_4 : decode cX4_cellsOf 4 = .ok (.iload_n 1, 1) := by decide +kernel
theorem dX4_cellsOf_5 : decode cX4_cellsOf 5 = .ok (.iconst 1, 1) := by decide +kernel
theorem dX4_cellsOf_6 : decode cX4_cellsOf 6 = .ok (.iadd, 1) := by decide +kernel
theorem dX4_cellsOf_7 : decode cX4_cellsOf 7 = .ok (.iaload, 1) := by decide +kernel
theorem dX4_cellsOf_8 : decode cX4_cellsOf 8 = .ok (.aload_n 0, 1) := by decide +kernel
theorem dX4_cellsOf_9 : decode cX4_cellsOf 9 = .ok (.getfield 20, 3) := by decide +kernel
theorem dX4_cellsOf_12 : decode cX4_cellsOf 12 = .ok (.iload_n 1, 1) := by decide +kernel
theorem dX4_cellsOf_13 : decode cX4_cellsOf 13 = .ok (.iaload, 1) := by decide +kernel
theorem dX4_cellsOf_14 : decode cX4_cellsOf 14 = .ok (.isub, 1) := by decide +kernel
theorem dX4_cellsOf_15 : decode cX4_cellsOf 15 = .ok (.ireturn, 1) := by decide +kernel
theorem dX4_width_0 : decode cX4_width 0 = .ok (.aload_n 0, 1) := by decide +kernel
theorem dX4_width_1 : decode cX4_width 1 = .ok (.getfield 92, 3) := by decide +kernel
theorem dX4_width_4 : decode cX4_width 4 = .ok (.ifCond .ne 7, 3) := by decide +kernel
theorem dX4_width_7 : decode cX4_width 7 = .ok (.iconst 0, 1) := by decide +kernel
theorem dX4_width_8 : decode cX4_width 8 = .ok (.goto 8, 3) := by decide +kernel
theorem dX4_width_11 : decode cX4_width 11 = .ok (.aload_n 0, 1) := by decide +kernel
theorem dX4_width_12 : decode cX4_width 12 = .ok (.iconst 0, 1) := by decide +kernel
theorem dX4_width_13 : decode cX4_width 13 = .ok (.invokevirtual 119, 3) := by decide +kernel
theorem dX4_width_16 : decode cX4_width 16 = .ok (.ireturn, 1) := by decide +kernel
theorem dX4_isOdd_0 : decode cX4_isOdd 0 = .ok (.aload_n 0, 1) := by decide +kernel
theorem dX4_isOdd_1 : decode cX4_isOdd 1 = .ok (.iload_n 1, 1) := by decide +kernel
theorem dX4_isOdd_2 : decode cX4_isOdd 2 = .ok (.invokevirtual 119, 3) := by decide +kernel
theorem dX4_isOdd_5 : decode cX4_isOdd 5 = .ok (.aload_n 0, 1) := by decide +kernel
theorem dX4_isOdd_6 : decode cX4_isOdd 6 = .ok (.invokevirtual 122, 3) := by decide +kernel
theorem dX4_isOdd_9 : decode cX4_isOdd 9 = .ok (.if_icmp .eq 7, 3) := by decide +kernel
theorem dX4_isOdd_12 : decode cX4_isOdd 12 = .ok (.iconst 1, 1) := by decide +kernel
theorem dX4_isOdd_13 : decode cX4_isOdd 13 = .ok (.goto 4, 3) := by decide +kernel
theorem dX4_isOdd_16 : decode cX4_isOdd 16 = .ok (.iconst 0, 1) := by decide +kernel
theorem dX4_isOdd_17 : decode cX4_isOdd 17 = .ok (.ireturn, 1) := by decide +kernel
theorem dX4_isRow_0 : decode cX4_isRow 0 = .ok (.iload_n 1, 1) := by decide +kernel
theorem dX4_isRow_1 : decode cX4_isRow 1 = .ok (.iconst 0, 1) := by decide +kernel
theorem dX4_isRow_2 : decode cX4_isRow 2 = .ok (.aload_n 0, 1) := by decide +kernel
theorem dX4_isRow_3 : decode cX4_isRow 3 = .ok (.getfield 92, 3) := by decide +kernel
theorem dX4_isRow_6 : decode cX4_isRow 6 = .ok (.iconst 1, 1) := by decide +kernel
theorem dX4_isRow_7 : decode cX4_isRow 7 = .ok (.isub, 1) := by decide +kernel
theorem dX4_isRow_8 : decode cX4_isRow 8 = .ok (.invokestatic 56, 3) := by decide +kernel
theorem dX4_isRow_11 : decode cX4_isRow 11 = .ok (.ireturn, 1) := by decide +kernel
theorem dX4_isPlain_0 : decode cX4_isPlain 0 = .ok (.iload_n 1, 1) := by decide +kernel
theorem dX4_isPlain_1 : decode cX4_isPlain 1 = .ok (.ifCond .gt 13, 3) := by decide +kernel
theorem dX4_isPlain_4 : decode cX4_isPlain 4 = .ok (.aload_n 0, 1) := by decide +kernel
theorem dX4_isPlain_5 : decode cX4_isPlain 5 = .ok (.getfield 16, 3) := by decide +kernel
theorem dX4_isPlain_8 : decode cX4_isPlain 8 = .ok (.invokestatic 102, 3) := by decide +kernel
theorem dX4_isPlain_11 : decode cX4_isPlain 11 = .ok (.ifCond .ne 15, 3) := by decide +kernel
theorem dX4_isPlain_14 : decode cX4_isPlain 14 = .ok (.aload_n 0, 1) := by decide +kernel
theorem dX4_isPlain_15 : decode cX4_isPlain 15 = .ok (.iload_n 1, 1) := by decide +kernel
theorem dX4_isPlain_16 : decode cX4_isPlain 16 = .ok (.invokevirtual 106, 3) := by decide +kernel
theorem dX4_isPlain_19 : decode cX4_isPlain 19 = .ok (.ifCond .ne 7, 3) := by decide +kernel
theorem dX4_isPlain_22 : decode cX4_isPlain 22 = .ok (.iconst 1, 1) := by decide +kernel
theorem dX4_isPlain_23 : decode cX4_isPlain 23 = .ok (.goto 4, 3) := by decide +kernel
theorem dX4_isPlain_26 : decode cX4_isPlain 26 = .ok (.iconst 0, 1) := by decide +kernel
theorem dX4_isPlain_27 : decode cX4_isPlain 27 = .ok (.ireturn, 1) := by decide +kernel
theorem dX4_isMake_0 : decode cX4_isMake 0 = .ok (.iload_n 0, 1) := by decide +kernel
theorem dX4_isMake_1 : decode cX4_isMake 1 = .ok (.iconst 0, 1) := by decide +kernel
theorem dX4_isMake_2 : decode cX4_isMake 2 = .ok (.bipush 23, 2) := by decide +kernel
theorem dX4_isMake_4 : decode cX4_isMake 4 = .ok (.invokestatic 56, 3) := by decide +kernel
theorem dX4_isMake_7 : decode cX4_isMake 7 = .ok (.ireturn, 1) := by decide +kernel
theorem dX4_reads_0 : decode cX4_reads 0 = .ok (.iload_n 1, 1) := by decide +kernel
theorem dX4_reads_1 : decode cX4_reads 1 = .ok (.invokestatic 126, 3) := by decide +kernel
theorem dX4_reads_4 : decode cX4_reads 4 = .ok (.ifCond .ne 5, 3) := by decide +kernel
theorem dX4_reads_7 : decode cX4_reads 7 = .ok (.iconst (-1), 1) := by decide +kernel
theorem dX4_reads_8 : decode cX4_reads 8 = .ok (.ireturn, 1) := by decide +kernel
theorem dX4_reads_9 : decode cX4_reads 9 = .ok (.aload_n 0, 1) := by decide +kernel
theorem dX4_reads_10 : decode cX4_reads 10 = .ok (.iload_n 1, 1) := by decide +kernel
theorem dX4_reads_11 : decode cX4_reads 11 = .ok (.invokevirtual 129, 3) := by decide +kernel
theorem dX4_reads_14 : decode cX4_reads 14 = .ok (.aload_n 0, 1) := by decide +kernel
theorem dX4_reads_15 : decode cX4_reads 15 = .ok (.getfield 69, 3) := by decide +kernel
theorem dX4_reads_18 : decode cX4_reads 18 = .ok (.ireturn, 1) := by decide +kernel
theorem dX4_faultAt_0 : decode cX4_faultAt 0 = .ok (.iload_n 1, 1) := by decide +kernel
theorem dX4_faultAt_1 : decode cX4_faultAt 1 = .ok (.invokestatic 126, 3) := by decide +kernel
theorem dX4_faultAt_4 : decode cX4_faultAt 4 = .ok (.ifCond .ne 5, 3) := by decide +kernel
theorem dX4_faultAt_7 : decode cX4_faultAt 7 = .ok (.iconst (-1), 1) := by decide +kernel
theorem dX4_faultAt_8 : decode cX4_faultAt 8 = .ok (.ireturn, 1) := by decide +kernel
theorem dX4_faultAt_9 : decode cX4_faultAt 9 = .ok (.aload_n 0, 1) := by decide +kernel
theorem dX4_faultAt_10 : decode cX4_faultAt 10 = .ok (.iload_n 1, 1) := by decide +kernel
theorem dX4_faultAt_11 : decode cX4_faultAt 11 = .ok (.invokevirtual 129, 3) := by decide +kernel
theorem dX4_faultAt_14 : decode cX4_faultAt 14 = .ok (.aload_n 0, 1) := by decide +kernel
theorem dX4_faultAt_15 : decode cX4_faultAt 15 = .ok (.getfield 72, 3) := by decide +kernel
theorem dX4_faultAt_18 : decode cX4_faultAt 18 = .ok (.ireturn, 1) := by decide +kernel
theorem dX4_byteOf_0 : decode cX4_byteOf 0 = .ok (.aload_n 0, 1) := by decide +kernel
theorem dX4_byteOf_1 : decode cX4_byteOf 1 = .ok (.getfield 30, 3) := by decide +kernel
theorem dX4_byteOf_4 : decode cX4_byteOf 4 = .ok (.aload_n 0, 1) := by decide +kernel
theorem dX4_byteOf_5 : decode cX4_byteOf 5 = .ok (.getfield 24, 3) := by decide +kernel
theorem dX4_byteOf_8 : decode cX4_byteOf 8 = .ok (.iload_n 1, 1) := by decide +kernel
theorem dX4_byteOf_9 : decode cX4_byteOf 9 = .ok (.iaload, 1) := by decide +kernel
theorem dX4_byteOf_10 : decode cX4_byteOf 10 = .ok (.iload_n 2, 1) := by decide +kernel
theorem dX4_byteOf_11 : decode cX4_byteOf 11 = .ok (.iadd, 1) := by decide +kernel
theorem dX4_byteOf_12 : decode cX4_byteOf 12 = .ok (.baload, 1) := by decide +kernel
theorem dX4_byteOf_13 : decode cX4_byteOf 13 = .ok (.sipush 255, 3) := by decide +kernel
theorem dX4_byteOf_16 : decode cX4_byteOf 16 = .ok (.iand, 1) := by decide +kernel
theorem dX4_byteOf_17 : decode cX4_byteOf 17 = .ok (.ireturn, 1) := by decide +kernel
theorem dX4_isDigit_0 : decode cX4_isDigit 0 = .ok (.iload_n 0, 1) := by decide +kernel
theorem dX4_isDigit_1 : decode cX4_isDigit 1 = .ok (.bipush 48, 2) := by decide +kernel
theorem dX4_isDigit_3 : decode cX4_isDigit 3 = .ok (.if_icmp .lt 13, 3) := by decide +kernel
theorem dX4_isDigit_6 : decode cX4_isDigit 6 = .ok (.iload_n 0, 1) := by decide +kernel
theorem dX4_isDigit_7 : decode cX4_isDigit 7 = .ok (.bipush 57, 2) := by decide +kernel
theorem dX4_isDigit_9 : decode cX4_isDigit 9 = .ok (.if_icmp .gt 7, 3) := by decide +kernel
theorem dX4_isDigit_12 : decode cX4_isDigit 12 = .ok (.iconst 1, 1) := by decide +kernel
theorem dX4_isDigit_13 : decode cX4_isDigit 13 = .ok (.goto 4, 3) := by decide +kernel
theorem dX4_isDigit_16 : decode cX4_isDigit 16 = .ok (.iconst 0, 1) := by decide +kernel
theorem dX4_isDigit_17 : decode cX4_isDigit 17 = .ok (.ireturn, 1) := by decide +kernel
theorem dX4_isWord_0 : decode cX4_isWord 0 = .ok (.aload_n 0, 1) := by decide +kernel
theorem dX4_isWord_1 : decode cX4_isWord 1 = .ok (.getfield 27, 3) := by decide +kernel
theorem dX4_isWord_4 : decode cX4_isWord 4 = .ok (.iload_n 1, 1) := by decide +kernel
theorem dX4_isWord_5 : decode cX4_isWord 5 = .ok (.iaload, 1) := by decide +kernel
theorem dX4_isWord_6 : decode cX4_isWord 6 = .ok (.aload_n 2, 1) := by decide +kernel
theorem dX4_isWord_7 : decode cX4_isWord 7 = .ok (.invokevirtual 132, 3) := by decide +kernel
theorem dX4_isWord_10 : decode cX4_isWord 10 = .ok (.if_icmp .eq 5, 3) := by decide +kernel
theorem dX4_isWord_13 : decode cX4_isWord 13 = .ok (.iconst 0, 1) := by decide +kernel
theorem dX4_isWord_14 : decode cX4_isWord 14 = .ok (.ireturn, 1) := by decide +kernel
theorem dX4_isWord_15 : decode cX4_isWord 15 = .ok (.iconst 0, 1) := by decide +kernel
theorem dX4_isWord_16 : decode cX4_isWord 16 = .ok (.istore_n 3, 1) := by decide +kernel
theorem dX4_isWord_17 : decode cX4_isWord 17 = .ok (.iload_n 3, 1) := by decide +kernel
theorem dX4_isWord_18 : decode cX4_isWord 18 = .ok (.aload_n 2, 1) := by decide +kernel
theorem dX4_isWord_19 : decode cX4_isWord 19 = .ok (.invokevirtual 132, 3) := by decide +kernel
theorem dX4_isWord_22 : decode cX4_isWord 22 = .ok (.if_icmp .ge 25, 3) := by decide +kernel
theorem dX4_isWord_25 : decode cX4_isWord 25 = .ok (.aload_n 0, 1) := by decide +kernel
theorem dX4_isWord_26 : decode cX4_isWord 26 = .ok (.iload_n 1, 1) := by decide +kernel
theorem dX4_isWord_27 : decode cX4_isWord 27 = .ok (.iload_n 3, 1) := by decide +kernel
theorem dX4_isWord_28 : decode cX4_isWord 28 = .ok (.invokevirtual 137, 3) := by decide +kernel
theorem dX4_isWord_31 : decode cX4_isWord 31 = .ok (.aload_n 2, 1) := by decide +kernel
theorem dX4_isWord_32 : decode cX4_isWord 32 = .ok (.iload_n 3, 1) := by decide +kernel
theorem dX4_isWord_33 : decode cX4_isWord 33 = .ok (.invokevirtual 140, 3) := by decide +kernel
theorem dX4_isWord_36 : decode cX4_isWord 36 = .ok (.if_icmp .eq 5, 3) := by decide +kernel
theorem dX4_isWord_39 : decode cX4_isWord 39 = .ok (.iconst 0, 1) := by decide +kernel
theorem dX4_isWord_40 : decode cX4_isWord 40 = .ok (.ireturn, 1) := by decide +kernel
theorem dX4_isWord_41 : decode cX4_isWord 41 = .ok (.iinc 3 1, 3) := by decide +kernel
theorem dX4_isWord_44 : decode cX4_isWord 44 = .ok (.goto (-27), 3) := by decide +kernel
theorem dX4_isWord_47 : decode cX4_isWord 47 = .ok (.iconst 1, 1) := by decide +kernel
theorem dX4_isWord_48 : decode cX4_isWord 48 = .ok (.ireturn, 1) := by decide +kernel
theorem dX4_flag_0 : decode cX4_flag 0 = .ok (.iload_n 0, 1) := by decide +kernel
theorem dX4_flag_1 : decode cX4_flag 1 = .ok (.tableswitch 95 1 5 #[35, 47, 59, 71, 83], 35) := by decide +kernel
theorem dX4_flag_36 : decode cX4_flag 36 = .ok (.iload_n 1, 1) := by decide +kernel
theorem dX4_flag_37 : decode cX4_flag 37 = .ok (.ifCond .ne 8, 3) := by decide +kernel
theorem dX4_flag_40 : decode cX4_flag 40 = .ok (.ldc 144, 2) := by decide +kernel
theorem dX4_flag_42 : decode cX4_flag 42 = .ok (.goto 5, 3) := by decide +kernel
theorem dX4_flag_45 : decode cX4_flag 45 = .ok (.ldc 146, 2) := by decide +kernel
theorem dX4_flag_47 : decode cX4_flag 47 = .ok (.areturn, 1) := by decide +kernel
theorem dX4_flag_48 : decode cX4_flag 48 = .ok (.iload_n 1, 1) := by decide +kernel
theorem dX4_flag_49 : decode cX4_flag 49 = .ok (.ifCond .ne 8, 3) := by decide +kernel
theorem dX4_flag_52 : decode cX4_flag 52 = .ok (.ldc 148, 2) := by decide +kernel
theorem dX4_flag_54 : decode cX4_flag 54 = .ok (.goto 5, 3) := by decide +kernel
theorem dX4_flag_57 : decode cX4_flag 57 = .ok (.ldc 150, 2) := by decide +kernel
theorem dX4_flag_59 : decode cX4_flag 59 = .ok (.areturn, 1) := by decide +kernel
theorem dX4_flag_60 : decode cX4_flag 60 = .ok (.iload_n 1, 1) := by decide +kernel
theorem dX4_flag_61 : decode cX4_flag 61 = .ok (.ifCond .ne 8, 3) := by decide +kernel
theorem dX4_flag_64 : decode cX4_flag 64 = .ok (.ldc 152, 2) := by decide +kernel
theorem dX4_flag_66 : decode cX4_flag 66 = .ok (.goto 5, 3) := by decide +kernel
theorem dX4_flag_69 : decode cX4_flag 69 = .ok (.ldc 154, 2) := by decide +kernel
theorem dX4_flag_71 : decode cX4_flag 71 = .ok (.areturn, 1) := by decide +kernel
theorem dX4_flag_72 : decode cX4_flag 72 = .ok (.iload_n 1, 1) := by decide +kernel
theorem dX4_flag_73 : decode cX4_flag 73 = .ok (.ifCond .ne 8, 3) := by decide +kernel
theorem dX4_flag_76 : decode cX4_flag 76 = .ok (.ldc 156, 2) := by decide +kernel
theorem dX4_flag_78 : decode cX4_flag 78 = .ok (.goto 5, 3) := by decide +kernel
theorem dX4_flag_81 : decode cX4_flag 81 = .ok (.ldc 158, 2) := by decide +kernel
theorem dX4_flag_83 : decode cX4_flag 83 = .ok (.areturn, 1) := by decide +kernel
theorem dX4_flag_84 : decode cX4_flag 84 = .ok (.iload_n 1, 1) := by decide +kernel
theorem dX4_flag_85 : decode cX4_flag 85 = .ok (.ifCond .ne 8, 3) := by decide +kernel
theorem dX4_flag_88 : decode cX4_flag 88 = .ok (.ldc 160, 2) := by decide +kernel
theorem dX4_flag_90 : decode cX4_flag 90 = .ok (.goto 5, 3) := by decide +kernel
theorem dX4_flag_93 : decode cX4_flag 93 = .ok (.ldc 162, 2) := by decide +kernel
theorem dX4_flag_95 : decode cX4_flag 95 = .ok (.areturn, 1) := by decide +kernel
theorem dX4_flag_96 : decode cX4_flag 96 = .ok (.iload_n 1, 1) := by decide +kernel
theorem dX4_flag_97 : decode cX4_flag 97 = .ok (.ifCond .ne 8, 3) := by decide +kernel
theorem dX4_flag_100 : decode cX4_flag 100 = .ok (.ldc 164, 2) := by decide +kernel
theorem dX4_flag_102 : decode cX4_flag 102 = .ok (.goto 5, 3) := by decide +kernel
theorem dX4_flag_105 : decode cX4_flag 105 = .ok (.ldc 166, 2) := by decide +kernel
theorem dX4_flag_107 : decode cX4_flag 107 = .ok (.areturn, 1) := by decide +kernel
theorem dX4_isFlag_0 : decode cX4_isFlag 0 = .ok (.aload_n 0, 1) := by decide +kernel
theorem dX4_isFlag_1 : decode cX4_isFlag 1 = .ok (.aload_n 0, 1) := by decide +kernel
theorem dX4_isFlag_2 : decode cX4_isFlag 2 = .ok (.iload_n 1, 1) := by decide +kernel
theorem dX4_isFlag_3 : decode cX4_isFlag 3 = .ok (.iload_n 2, 1) := by decide +kernel
theorem dX4_isFlag_4 : decode cX4_isFlag 4 = .ok (.iconst 1, 1) := by decide +kernel
theorem dX4_isFlag_5 : decode cX4_isFlag 5 = .ok (.invokestatic 168, 3) := by decide +kernel
theorem dX4_isFlag_8 : decode cX4_isFlag 8 = .ok (.invokevirtual 172, 3) := by decide +kernel
theorem dX4_isFlag_11 : decode cX4_isFlag 11 = .ok (.ifCond .eq 7, 3) := by decide +kernel
theorem dX4_isFlag_14 : decode cX4_isFlag 14 = .ok (.lconst 1, 1) := by decide +kernel
theorem dX4_isFlag_15 : decode cX4_isFlag 15 = .ok (.goto 4, 3) := by decide +kernel
theorem dX4_isFlag_18 : decode cX4_isFlag 18 = .ok (.lconst 0, 1) := by decide +kernel
theorem dX4_isFlag_19 : decode cX4_isFlag 19 = .ok (.putfield 176, 3) := by decide +kernel
theorem dX4_isFlag_22 : decode cX4_isFlag 22 = .ok (.aload_n 0, 1) := by decide +kernel
theorem dX4_isFlag_23 : decode cX4_isFlag 23 = .ok (.getfield 176, 3) := by decide +kernel
theorem dX4_isFlag_26 : decode cX4_isFlag 26 = .ok (.lconst 1, 1) := by decide +kernel
theorem dX4_isFlag_27 : decode cX4_isFlag 27 = .ok (.lcmp, 1) := by decide +kernel
theorem dX4_isFlag_28 : decode cX4_isFlag 28 = .ok (.ifCond .eq 16, 3) := by decide +kernel
theorem dX4_isFlag_31 : decode cX4_isFlag 31 = .ok (.aload_n 0, 1) := by decide +kernel
theorem dX4_isFlag_32 : decode cX4_isFlag 32 = .ok (.iload_n 1, 1) := by decide +kernel
theorem dX4_isFlag_33 : decode cX4_isFlag 33 = .ok (.iload_n 2, 1) := by decide +kernel
theorem dX4_isFlag_34 : decode cX4_isFlag 34 = .ok (.iconst 0, 1) := by decide +kernel
theorem dX4_isFlag_35 : decode cX4_isFlag 35 = .ok (.invokestatic 168, 3) := by decide +kernel
theorem dX4_isFlag_38 : decode cX4_isFlag 38 = .ok (.invokevirtual 172, 3) := by decide +kernel
theorem dX4_isFlag_41 : decode cX4_isFlag 41 = .ok (.ifCond .eq 7, 3) := by decide +kernel
theorem dX4_isFlag_44 : decode cX4_isFlag 44 = .ok (.iconst 1, 1) := by decide +kernel
theorem dX4_isFlag_45 : decode cX4_isFlag 45 = .ok (.goto 4, 3) := by decide +kernel
theorem dX4_isFlag_48 : decode cX4_isFlag 48 = .ok (.iconst 0, 1) := by decide +kernel
theorem dX4_isFlag_49 : decode cX4_isFlag 49 = .ok (.ireturn, 1) := by decide +kernel
theorem dX4_decimals_0 : decode cX4_decimals 0 = .ok (.iload_n 0, 1) := by decide +kernel
theorem dX4_decimals_1 : decode cX4_decimals 1 = .ok (.bipush 10, 2) := by decide +kernel
theorem dX4_decimals_3 : decode cX4_decimals 3 = .ok (.if_icmp .ge 7, 3) := by decide +kernel
theorem dX4_decimals_6 : decode cX4_decimals 6 = .ok (.iconst 0, 1) := by decide +kernel
theorem dX4_decimals_7 : decode cX4_decimals 7 = .ok (.goto 11, 3) := by decide +kernel
theorem dX4_decimals_10 : decode cX4_decimals 10 = .ok (.iconst 1, 1) := by decide +kernel
theorem dX4_decimals_11 : decode cX4_decimals 11 = .ok (.iload_n 0, 1) := by decide +kernel
theorem dX4_decimals_12 : decode cX4_decimals 12 = .ok (.bipush 10, 2) := by decide +kernel
theorem dX4_decimals_14 : decode cX4_decimals 14 = .ok (.isub, 1) := by decide +kernel
theorem dX4_decimals_15 : decode cX4_decimals 15 = .ok (.iconst 4, 1) := by decide +kernel
theorem dX4_decimals_16 : decode cX4_decimals 16 = .ok (.idiv, 1) := by decide +kernel
theorem dX4_decimals_17 : decode cX4_decimals 17 = .ok (.iadd, 1) := by decide +kernel
theorem dX4_decimals_18 : decode cX4_decimals 18 = .ok (.ireturn, 1) := by decide +kernel
theorem dX4_pointOf_0 : decode cX4_pointOf 0 = .ok (.iload_n 0, 1) := by decide +kernel
theorem dX4_pointOf_1 : decode cX4_pointOf 1 = .ok (.bipush 10, 2) := by decide +kernel
theorem dX4_pointOf_3 : decode cX4_pointOf 3 = .ok (.if_icmp .ge 7, 3) := by decide +kernel
theorem dX4_pointOf_6 : decode cX4_pointOf 6 = .ok (.iconst (-1), 1) := by decide +kernel
theorem dX4_pointOf_7 : decode cX4_pointOf 7 = .ok (.goto 20, 3) := by decide +kernel
theorem dX4_pointOf_10 : decode cX4_pointOf 10 = .ok (.iload_n 0, 1) := by decide +kernel
theorem dX4_pointOf_11 : decode cX4_pointOf 11 = .ok (.bipush 10, 2) := by decide +kernel
theorem dX4_pointOf_13 : decode cX4_pointOf 13 = .ok (.isub, 1) := by decide +kernel
theorem dX4_pointOf_14 : decode cX4_pointOf 14 = .ok (.iconst 4, 1) := by decide +kernel
theorem dX4_pointOf_15 : decode cX4_pointOf 15 = .ok (.irem, 1) := by decide +kernel
theorem dX4_pointOf_16 : decode cX4_pointOf 16 = .ok (.iconst 2, 1) := by decide +kernel
theorem dX4_pointOf_17 : decode cX4_pointOf 17 = .ok (.if_icmp .ge 8, 3) := by decide +kernel
theorem dX4_pointOf_20 : decode cX4_pointOf 20 = .ok (.bipush 46, 2) := by decide +kernel
theorem dX4_pointOf_22 : decode cX4_pointOf 22 = .ok (.goto 5, 3) := by decide +kernel
theorem dX4_pointOf_25 : decode cX4_pointOf 25 = .ok (.bipush 44, 2) := by decide +kernel
theorem dX4_pointOf_27 : decode cX4_pointOf 27 = .ok (.ireturn, 1) := by decide +kernel
theorem dX4_thousandsOf_0 : decode cX4_thousandsOf 0 = .ok (.iload_n 0, 1) := by decide +kernel
theorem dX4_thousandsOf_1 : decode cX4_thousandsOf 1 = .ok (.bipush 10, 2) := by decide +kernel
theorem dX4_thousandsOf_3 : decode cX4_thousandsOf 3 = .ok (.if_icmp .ge 27, 3) := by decide +kernel
theorem dX4_thousandsOf_6 : decode cX4_thousandsOf 6 = .ok (.iload_n 0, 1) := by decide +kernel
theorem dX4_thousandsOf_7 : decode cX4_thousandsOf 7 = .ok (.bipush 7, 2) := by decide +kernel
theorem dX4_thousandsOf_9 : decode cX4_thousandsOf 9 = .ok (.if_icmp .ne 7, 3) := by decide +kernel
theorem dX4_thousandsOf_12 : decode cX4_thousandsOf 12 = .ok (.iconst (-1), 1) := by decide +kernel
theorem dX4_thousandsOf_13 : decode cX4_thousandsOf 13 = .ok (.goto 16, 3) := by decide +kernel
theorem dX4_thousandsOf_16 : decode cX4_thousandsOf 16 = .ok (.iload_n 0, 1) := by decide +kernel
theorem dX4_thousandsOf_17 : decode cX4_thousandsOf 17 = .ok (.bipush 8, 2) := by decide +kernel
theorem dX4_thousandsOf_19 : decode cX4_thousandsOf 19 = .ok (.if_icmp .ne 8, 3) := by decide +kernel
theorem dX4_thousandsOf_22 : decode cX4_thousandsOf 22 = .ok (.bipush 44, 2) := by decide +kernel
theorem dX4_thousandsOf_24 : decode cX4_thousandsOf 24 = .ok (.goto 5, 3) := by decide +kernel
theorem dX4_thousandsOf_27 : decode cX4_thousandsOf 27 = .ok (.bipush 46, 2) := by decide +kernel
theorem dX4_thousandsOf_29 : decode cX4_thousandsOf 29 = .ok (.ireturn, 1) := by decide +kernel
theorem dX4_thousandsOf_30 : decode cX4_thousandsOf 30 = .ok (.iload_n 0, 1) := by decide +kernel
theorem dX4_thousandsOf_31 : decode cX4_thousandsOf 31 = .ok (.bipush 10, 2) := by decide +kernel
theorem dX4_thousandsOf_33 : decode cX4_thousandsOf 33 = .ok (.isub, 1) := by decide +kernel
theorem dX4_thousandsOf_34 : decode cX4_thousandsOf 34 = .ok (.iconst 4, 1) := by decide +kernel
theorem dX4_thousandsOf_35 : decode cX4_thousandsOf 35 = .ok (.irem, 1) := by decide +kernel
theorem dX4_thousandsOf_36 : decode cX4_thousandsOf 36 = .ok (.istore_n 1, 1) := by decide +kernel
theorem dX4_thousandsOf_37 : decode cX4_thousandsOf 37 = .ok (.iload_n 1, 1) := by decide +kernel
theorem dX4_thousandsOf_38 : decode cX4_thousandsOf 38 = .ok (.iconst 1, 1) := by decide +kernel
theorem dX4_thousandsOf_39 : decode cX4_thousandsOf 39 = .ok (.if_icmp .ne 8, 3) := by decide +kernel
theorem dX4_thousandsOf_42 : decode cX4_thousandsOf 42 = .ok (.bipush 44, 2) := by decide +kernel
theorem dX4_thousandsOf_44 : decode cX4_thousandsOf 44 = .ok (.goto 14, 3) := by decide +kernel
theorem dX4_thousandsOf_47 : decode cX4_thousandsOf 47 = .ok (.iload_n 1, 1) := by decide +kernel
theorem dX4_thousandsOf_48 : decode cX4_thousandsOf 48 = .ok (.iconst 3, 1) := by decide +kernel
theorem dX4_thousandsOf_49 : decode cX4_thousandsOf 49 = .ok (.if_icmp .ne 8, 3) := by decide +kernel
theorem dX4_thousandsOf_52 : decode cX4_thousandsOf 52 = .ok (.bipush 46, 2) := by decide +kernel
theorem dX4_thousandsOf_54 : decode cX4_thousandsOf 54 = .ok (.goto 4, 3) := by decide +kernel
theorem dX4_thousandsOf_57 : decode cX4_thousandsOf 57 = .ok (.iconst (-1), 1) := by decide +kernel
theorem dX4_thousandsOf_58 : decode cX4_thousandsOf 58 = .ok (.ireturn, 1) := by decide +kernel
theorem dX4_isNumber_0 : decode cX4_isNumber 0 = .ok (.aload_n 0, 1) := by decide +kernel
theorem dX4_isNumber_1 : decode cX4_isNumber 1 = .ok (.getfield 27, 3) := by decide +kernel
theorem dX4_isNumber_4 : decode cX4_isNumber 4 = .ok (.iload_n 1, 1) := by decide +kernel
theorem dX4_isNumber_5 : decode cX4_isNumber 5 = .ok (.iaload, 1) := by decide +kernel
theorem dX4_isNumber_6 : decode cX4_isNumber 6 = .ok (.istore_n 3, 1) := by decide +kernel
theorem dX4_isNumber_7 : decode cX4_isNumber 7 = .ok (.iload_n 2, 1) := by decide +kernel
theorem dX4_isNumber_8 : decode cX4_isNumber 8 = .ok (.invokestatic 180, 3) := by decide +kernel
theorem dX4_isNumber_11 : decode cX4_isNumber 11 = .ok (.istore 4, 2) := by decide +kernel
theorem dX4_isNumber_13 : decode cX4_isNumber 13 = .ok (.iload_n 3, 1) := by decide +kernel
theorem dX4_isNumber_14 : decode cX4_isNumber 14 = .ok (.ifCond .le 18, 3) := by decide +kernel
theorem dX4_isNumber_17 : decode cX4_isNumber 17 = .ok (.aload_n 0, 1) := by decide +kernel
theorem dX4_isNumber_18 : decode cX4_isNumber 18 = .ok (.iload_n 1, 1) := by decide +kernel
theorem dX4_isNumber_19 : decode cX4_isNumber 19 = .ok (.iconst 0, 1) := by decide +kernel
theorem dX4_isNumber_20 : decode cX4_isNumber 20 = .ok (.invokevirtual 137, 3) := by decide +kernel
theorem dX4_isNumber_23 : decode cX4_isNumber 23 = .ok (.bipush 45, 2) := by decide +kernel
theorem dX4_isNumber_25 : decode cX4_isNumber 25 = .ok (.if_icmp .ne 7, 3) := by decide +kernel
theorem dX4_isNumber_28 : decode cX4_isNumber 28 = .ok (.iconst 1, 1) := by decide +kernel
theorem dX4_isNumber_29 : decode cX4_isNumber 29 = .ok (.goto 4, 3) := by decide +kernel
theorem dX4_isNumber_32 : decode cX4_isNumber 32 = .ok (.iconst 0, 1) := by decide +kernel
theorem dX4_isNumber_33 : decode cX4_isNumber 33 = .ok (.istore 5, 2) := by decide +kernel
theorem dX4_isNumber_35 : decode cX4_isNumber 35 = .ok (.iload 4, 2) := by decide +kernel
theorem dX4_isNumber_37 : decode cX4_isNumber 37 = .ok (.ifCond .le 12, 3) := by decide +kernel
theorem dX4_isNumber_40 : decode cX4_isNumber 40 = .ok (.iload_n 3, 1) := by decide +kernel
theorem dX4_isNumber_41 : decode cX4_isNumber 41 = .ok (.iload 4, 2) := by decide +kernel
theorem dX4_isNumber_43 : decode cX4_isNumber 43 = .ok (.isub, 1) := by decide +kernel
theorem dX4_isNumber_44 : decode cX4_isNumber 44 = .ok (.iconst 1, 1) := by decide +kernel
theorem dX4_isNumber_45 : decode cX4_isNumber 45 = .ok (.isub, 1) := by decide +kernel
theorem dX4_isNumber_46 : decode cX4_isNumber 46 = .ok (.goto 4, 3) := by decide +kernel
theorem dX4_isNumber_49 : decode cX4_isNumber 49 = .ok (.iload_n 3, 1) := by decide +kernel
theorem dX4_isNumber_50 : decode cX4_isNumber 50 = .ok (.istore 6, 2) := by decide +kernel
theorem dX4_isNumber_52 : decode cX4_isNumber 52 = .ok (.aload_n 0, 1) := by decide +kernel
theorem dX4_isNumber_53 : decode cX4_isNumber 53 = .ok (.lconst 0, 1) := by decide +kernel
theorem dX4_isNumber_54 : decode cX4_isNumber 54 = .ok (.putfield 176, 3) := by decide +kernel
theorem dX4_isNumber_57 : decode cX4_isNumber 57 = .ok (.aload_n 0, 1) := by decide +kernel
theorem dX4_isNumber_58 : decode cX4_isNumber 58 = .ok (.iconst 0, 1) := by decide +kernel
theorem dX4_isNumber_59 : decode cX4_isNumber 59 = .ok (.putfield 183, 3) := by decide +kernel
theorem dX4_isNumber_62 : decode cX4_isNumber 62 = .ok (.iload 6, 2) := by decide +kernel
theorem dX4_isNumber_64 : decode cX4_isNumber 64 = .ok (.iload 5, 2) := by decide +kernel
theorem dX4_isNumber_66 : decode cX4_isNumber 66 = .ok (.if_icmp .le 22, 3) := by decide +kernel
theorem dX4_isNumber_69 : decode cX4_isNumber 69 = .ok (.iload 4, 2) := by decide +kernel
theorem dX4_isNumber_71 : decode cX4_isNumber 71 = .ok (.ifCond .le 19, 3) := by decide +kernel
theorem dX4_isNumber_74 : decode cX4_isNumber 74 = .ok (.aload_n 0, 1) := by decide +kernel
theorem dX4_isNumber_75 : decode cX4_isNumber 75 = .ok (.iload_n 1, 1) := by decide +kernel
theorem dX4_isNumber_76 : decode cX4_isNumber 76 = .ok (.iload 6, 2) := by decide +kernel
theorem dX4_isNumber_78 : decode cX4_isNumber 78 = .ok (.invokevirtual 137, 3) := by decide +kernel
theorem dX4_isNumber_81 : decode cX4_isNumber 81 = .ok (.iload_n 2, 1) := by decide +kernel
theorem dX4_isNumber_82 : decode cX4_isNumber 82 = .ok (.invokestatic 186, 3) := by decide +kernel
theorem dX4_isNumber_85 : decode cX4_isNumber 85 = .ok (.if_icmp .eq 5, 3) := by decide +kernel
theorem dX4_isNumber_88 : decode cX4_isNumber 88 = .ok (.iconst 0, 1) := by decide +kernel
theorem dX4_isNumber_89 : decode cX4_isNumber 89 = .ok (.ireturn, 1) := by decide +kernel
theorem dX4_isNumber_90 : decode cX4_isNumber 90 = .ok (.iload 5, 2) := by decide +kernel
theorem dX4_isNumber_92 : decode cX4_isNumber 92 = .ok (.istore 7, 2) := by decide +kernel
theorem dX4_isNumber_94 : decode cX4_isNumber 94 = .ok (.iload 7, 2) := by decide +kernel
theorem dX4_isNumber_96 : decode cX4_isNumber 96 = .ok (.iload 6, 2) := by decide +kernel
theorem dX4_isNumber_98 : decode cX4_isNumber 98 = .ok (.if_icmp .ge 98, 3) := by decide +kernel
theorem dX4_isNumber_101 : decode cX4_isNumber 101 = .ok (.iload_n 2, 1) := by decide +kernel
theorem dX4_isNumber_102 : decode cX4_isNumber 102 = .ok (.invokestatic 189, 3) := by decide +kernel
theorem dX4_isNumber_105 : decode cX4_isNumber 105 = .ok (.ifCond .lt 17, 3) := by decide +kernel
theorem dX4_isNumber_108 : decode cX4_isNumber 108 = .ok (.iload 6, 2) := by decide +kernel
theorem dX4_isNumber_110 : decode cX4_isNumber 110 = .ok (.iload 7, 2) := by decide +kernel
theorem dX4_isNumber_112 : decode cX4_isNumber 112 = .ok (.isub, 1) := by decide +kernel
theorem dX4_isNumber_113 : decode cX4_isNumber 113 = .ok (.iconst 4, 1) := by decide +kernel
theorem dX4_isNumber_114 : decode cX4_isNumber 114 = .ok (.irem, 1) := by decide +kernel
theorem dX4_isNumber_115 : decode cX4_isNumber 115 = .ok (.ifCond .ne 7, 3) := by decide +kernel
theorem dX4_isNumber_118 : decode cX4_isNumber 118 = .ok (.iconst 1, 1) := by decide +kernel
theorem dX4_isNumber_119 : decode cX4_isNumber 119 = .ok (.goto 4, 3) := by decide +kernel
theorem dX4_isNumber_122 : decode cX4_isNumber 122 = .ok (.iconst 0, 1) := by decide +kernel
theorem dX4_isNumber_123 : decode cX4_isNumber 123 = .ok (.istore 8, 2) := by decide +kernel
theorem dX4_isNumber_125 : decode cX4_isNumber 125 = .ok (.iload 8, 2) := by decide +kernel
theorem dX4_isNumber_127 : decode cX4_isNumber 127 = .ok (.ifCond .eq 27, 3) := by decide +kernel
theorem dX4_isNumber_130 : decode cX4_isNumber 130 = .ok (.iload 7, 2) := by decide +kernel
theorem dX4_isNumber_132 : decode cX4_isNumber 132 = .ok (.iload 5, 2) := by decide +kernel
theorem dX4_isNumber_134 : decode cX4_isNumber 134 = .ok (.if_icmp .eq 33, 3) := by decide +kernel
theorem dX4_isNumber_137 : decode cX4_isNumber 137 = .ok (.aload_n 0, 1) := by decide +kernel
theorem dX4_isNumber_138 : decode cX4_isNumber 138 = .ok (.iload_n 1, 1) := by decide +kernel
theorem dX4_isNumber_139 : decode cX4_isNumber 139 = .ok (.iload 7, 2) := by decide +kernel
theorem dX4_isNumber_141 : decode cX4_isNumber 141 = .ok (.invokevirtual 137, 3) := by decide +kernel
theorem dX4_isNumber_144 : decode cX4_isNumber 144 = .ok (.iload_n 2, 1) := by decide +kernel
theorem dX4_isNumber_145 : decode cX4_isNumber 145 = .ok (.invokestatic 189, 3) := by decide +kernel
theorem dX4_isNumber_148 : decode cX4_isNumber 148 = .ok (.if_icmp .eq 21, 3) := by decide +kernel
theorem dX4_isNumber_151 : decode cX4_isNumber 151 = .ok (.goto 16, 3) := by decide +kernel
theorem dX4_isNumber_154 : decode cX4_isNumber 154 = .ok (.aload_n 0, 1) := by decide +kernel
theorem dX4_isNumber_155 : decode cX4_isNumber 155 = .ok (.iload_n 1, 1) := by decide +kernel
theorem dX4_isNumber_156 : decode cX4_isNumber 156 = .ok (.iload 7, 2) := by decide +kernel
theorem dX4_isNumber_158 : decode cX4_isNumber 158 = .ok (.invokevirtual 137, 3) := by decide +kernel
theorem dX4_isNumber_161 : decode cX4_isNumber 161 = .ok (.invokestatic 192, 3) := by decide +kernel
theorem dX4_isNumber_164 : decode cX4_isNumber 164 = .ok (.ifCond .ne 5, 3) := by decide +kernel
theorem dX4_isNumber_167 : decode cX4_isNumber 167 = .ok (.iconst 0, 1) := by decide +kernel
theorem dX4_isNumber_168 : decode cX4_isNumber 168 = .ok (.ireturn, 1) := by decide +kernel
theorem dX4_isNumber_169 : decode cX4_isNumber 169 = .ok (.iload 8, 2) := by decide +kernel
theorem dX4_isNumber_171 : decode cX4_isNumber 171 = .ok (.ifCond .ne 19, 3) := by decide +kernel
theorem dX4_isNumber_174 : decode cX4_isNumber 174 = .ok (.aload_n 0, 1) := by decide +kernel
theorem dX4_isNumber_175 : decode cX4_isNumber 175 = .ok (.aload_n 0, 1) := by decide +kernel
theorem dX4_isNumber_176 : decode cX4_isNumber 176 = .ok (.iload_n 1, 1) := by decide +kernel
theorem dX4_isNumber_177 : decode cX4_isNumber 177 = .ok (.iload 7, 2) := by decide +kernel
theorem dX4_isNumber_179 : decode cX4_isNumber 179 = .ok (.invokevirtual 137, 3) := by decide +kernel
theorem dX4_isNumber_182 : decode cX4_isNumber 182 = .ok (.invokevirtual 195, 3) := by decide +kernel
theorem dX4_isNumber_185 : decode cX4_isNumber 185 = .ok (.ifCond .ne 5, 3) := by decide +kernel
theorem dX4_isNumber_188 : decode cX4_isNumber 188 = .ok (.iconst 0, 1) := by decide +kernel
theorem dX4_isNumber_189 : decode cX4_isNumber 189 = .ok (.ireturn, 1) := by decide +kernel
theorem dX4_isNumber_190 : decode cX4_isNumber 190 = .ok (.iinc 7 1, 3) := by decide +kernel
theorem dX4_isNumber_193 : decode cX4_isNumber 193 = .ok (.goto (-99), 3) := by decide +kernel
theorem dX4_isNumber_196 : decode cX4_isNumber 196 = .ok (.aload_n 0, 1) := by decide +kernel
theorem dX4_isNumber_197 : decode cX4_isNumber 197 = .ok (.iload_n 1, 1) := by decide +kernel
theorem dX4_isNumber_198 : decode cX4_isNumber 198 = .ok (.iload 5, 2) := by decide +kernel
theorem dX4_isNumber_200 : decode cX4_isNumber 200 = .ok (.invokevirtual 137, 3) := by decide +kernel
theorem dX4_isNumber_203 : decode cX4_isNumber 203 = .ok (.bipush 48, 2) := by decide +kernel
theorem dX4_isNumber_205 : decode cX4_isNumber 205 = .ok (.if_icmp .ne 14, 3) := by decide +kernel
theorem dX4_isNumber_208 : decode cX4_isNumber 208 = .ok (.iload 6, 2) := by decide +kernel
theorem dX4_isNumber_210 : decode cX4_isNumber 210 = .ok (.iload 5, 2) := by decide +kernel
theorem dX4_isNumber_212 : decode cX4_isNumber 212 = .ok (.isub, 1) := by decide +kernel
theorem dX4_isNumber_213 : decode cX4_isNumber 213 = .ok (.iconst 1, 1) := by decide +kernel
theorem dX4_isNumber_214 : decode cX4_isNumber 214 = .ok (.if_icmp .le 5, 3) := by decide +kernel
theorem dX4_isNumber_217 : decode cX4_isNumber 217 = .ok (.iconst 0, 1) := by decide +kernel
theorem dX4_isNumber_218 : decode cX4_isNumber 218 = .ok (.ireturn, 1) := by decide +kernel
theorem dX4_isNumber_219 : decode cX4_isNumber 219 = .ok (.iload 6, 2) := by decide +kernel
theorem dX4_isNumber_221 : decode cX4_isNumber 221 = .ok (.iconst 1, 1) := by decide +kernel
theorem dX4_isNumber_222 : decode cX4_isNumber 222 = .ok (.iadd, 1) := by decide +kernel
theorem dX4_isNumber_223 : decode cX4_isNumber 223 = .ok (.istore 7, 2) := by decide +kernel
theorem dX4_isNumber_225 : decode cX4_isNumber 225 = .ok (.iload 7, 2) := by decide +kernel
theorem dX4_isNumber_227 : decode cX4_isNumber 227 = .ok (.iload_n 3, 1) := by decide +kernel
theorem dX4_isNumber_228 : decode cX4_isNumber 228 = .ok (.if_icmp .ge 38, 3) := by decide +kernel
theorem dX4_isNumber_231 : decode cX4_isNumber 231 = .ok (.aload_n 0, 1) := by decide +kernel
theorem dX4_isNumber_232 : decode cX4_isNumber 232 = .ok (.iload_n 1, 1) := by decide +kernel
theorem dX4_isNumber_233 : decode cX4_isNumber 233 = .ok (.iload 7, 2) := by decide +kernel
theorem dX4_isNumber_235 : decode cX4_isNumber 235 = .ok (.invokevirtual 137, 3) := by decide +kernel
theorem dX4_isNumber_238 : decode cX4_isNumber 238 = .ok (.invokestatic 192, 3) := by decide +kernel
theorem dX4_isNumber_241 : decode cX4_isNumber 241 = .ok (.ifCond .eq 17, 3) := by decide +kernel
theorem dX4_isNumber_244 : decode cX4_isNumber 244 = .ok (.aload_n 0, 1) := by decide +kernel
theorem dX4_isNumber_245 : decode cX4_isNumber 245 = .ok (.aload_n 0, 1) := by decide +kernel
theorem dX4_isNumber_246 : decode cX4_isNumber 246 = .ok (.iload_n 1, 1) := by decide +kernel
theorem dX4_isNumber_247 : decode cX4_isNumber 247 = .ok (.iload 7, 2) := by decide +kernel
theorem dX4_isNumber_249 : decode cX4_isNumber 249 = .ok (.invokevirtual 137, 3) := by decide +kernel
theorem dX4_isNumber_252 : decode cX4_isNumber 252 = .ok (.invokevirtual 195, 3) := by decide +kernel
theorem dX4_isNumber_255 : decode cX4_isNumber 255 = .ok (.ifCond .ne 5, 3) := by decide +kernel
theorem dX4_isNumber_258 : decode cX4_isNumber 258 = .ok (.iconst 0, 1) := by decide +kernel
theorem dX4_isNumber_259 : decode cX4_isNumber 259 = .ok (.ireturn, 1) := by decide +kernel
theorem dX4_isNumber_260 : decode cX4_isNumber 260 = .ok (.iinc 7 1, 3) := by decide +kernel
theorem dX4_isNumber_263 : decode cX4_isNumber 263 = .ok (.goto (-38), 3) := by decide +kernel
theorem dX4_isNumber_266 : decode cX4_isNumber 266 = .ok (.iload 5, 2) := by decide +kernel
theorem dX4_isNumber_268 : decode cX4_isNumber 268 = .ok (.iconst 1, 1) := by decide +kernel
theorem dX4_isNumber_269 : decode cX4_isNumber 269 = .ok (.if_icmp .ne 14, 3) := by decide +kernel
theorem dX4_isNumber_272 : decode cX4_isNumber 272 = .ok (.aload_n 0, 1) := by decide +kernel
theorem dX4_isNumber_273 : decode cX4_isNumber 273 = .ok (.getfield 176, 3) := by decide +kernel
theorem dX4_isNumber_276 : decode cX4_isNumber 276 = .ok (.lconst 0, 1) := by decide +kernel
theorem dX4_isNumber_277 : decode cX4_isNumber 277 = .ok (.lcmp, 1) := by decide +kernel
theorem dX4_isNumber_278 : decode cX4_isNumber 278 = .ok (.ifCond .ne 5, 3) := by decide +kernel
theorem dX4_isNumber_281 : decode cX4_isNumber 281 = .ok (.iconst 0, 1) := by decide +kernel
theorem dX4_isNumber_282 : decode cX4_isNumber 282 = .ok (.ireturn, 1) := by decide +kernel
theorem dX4_isNumber_283 : decode cX4_isNumber 283 = .ok (.iload 5, 2) := by decide +kernel
theorem dX4_isNumber_285 : decode cX4_isNumber 285 = .ok (.iconst 1, 1) := by decide +kernel
theorem dX4_isNumber_286 : decode cX4_isNumber 286 = .ok (.if_icmp .ne 12, 3) := by decide +kernel
theorem dX4_isNumber_289 : decode cX4_isNumber 289 = .ok (.aload_n 0, 1) := by decide +kernel
theorem dX4_isNumber_290 : decode cX4_isNumber 290 = .ok (.aload_n 0, 1) := by decide +kernel
theorem dX4_isNumber_291 : decode cX4_isNumber 291 = .ok (.getfield 176, 3) := by decide +kernel
theorem dX4_isNumber_294 : decode cX4_isNumber 294 = .ok (.lneg, 1) := by decide +kernel
theorem dX4_isNumber_295 : decode cX4_isNumber 295 = .ok (.putfield 176, 3) := by decide +kernel
theorem dX4_isNumber_298 : decode cX4_isNumber 298 = .ok (.iconst 1, 1) := by decide +kernel
theorem dX4_isNumber_299 : decode cX4_isNumber 299 = .ok (.ireturn, 1) := by decide +kernel
theorem dX4_more_0 : decode cX4_more 0 = .ok (.aload_n 0, 1) := by decide +kernel
theorem dX4_more_1 : decode cX4_more 1 = .ok (.ldc2_w 198, 3) := by decide +kernel
theorem dX4_more_4 : decode cX4_more 4 = .ok (.aload_n 0, 1) := by decide +kernel
theorem dX4_more_5 : decode cX4_more 5 = .ok (.getfield 176, 3) := by decide +kernel
theorem dX4_more_8 : decode cX4_more 8 = .ok (.lmul, 1) := by decide +kernel
theorem dX4_more_9 : decode cX4_more 9 = .ok (.iload_n 1, 1) := by decide +kernel
theorem dX4_more_10 : decode cX4_more 10 = .ok (.i2l, 1) := by decide +kernel
theorem dX4_more_11 : decode cX4_more 11 = .ok (.ladd, 1) := by decide +kernel
theorem dX4_more_12 : decode cX4_more 12 = .ok (.ldc2_w 200, 3) := by decide +kernel
theorem dX4_more_15 : decode cX4_more 15 = .ok (.lsub, 1) := by decide +kernel
theorem dX4_more_16 : decode cX4_more 16 = .ok (.putfield 176, 3) := by decide +kernel
theorem dX4_more_19 : decode cX4_more 19 = .ok (.aload_n 0, 1) := by decide +kernel
theorem dX4_more_20 : decode cX4_more 20 = .ok (.dup, 1) := by decide +kernel
theorem dX4_more_21 : decode cX4_more 21 = .ok (.getfield 183, 3) := by decide +kernel
theorem dX4_more_24 : decode cX4_more 24 = .ok (.iconst 1, 1) := by decide +kernel
theorem dX4_more_25 : decode cX4_more 25 = .ok (.iadd, 1) := by decide +kernel
theorem dX4_more_26 : decode cX4_more 26 = .ok (.putfield 183, 3) := by decide +kernel
theorem dX4_more_29 : decode cX4_more 29 = .ok (.aload_n 0, 1) := by decide +kernel
theorem dX4_more_30 : decode cX4_more 30 = .ok (.getfield 183, 3) := by decide +kernel
theorem dX4_more_33 : decode cX4_more 33 = .ok (.bipush 9, 2) := by decide +kernel
theorem dX4_more_35 : decode cX4_more 35 = .ok (.if_icmp .gt 7, 3) := by decide +kernel
theorem dX4_more_38 : decode cX4_more 38 = .ok (.iconst 1, 1) := by decide +kernel
theorem dX4_more_39 : decode cX4_more 39 = .ok (.goto 4, 3) := by decide +kernel
theorem dX4_more_42 : decode cX4_more 42 = .ok (.iconst 0, 1) := by decide +kernel
theorem dX4_more_43 : decode cX4_more 43 = .ok (.ireturn, 1) := by decide +kernel
theorem dX4_whole_0 : decode cX4_whole 0 = .ok (.iconst 0, 1) := by decide +kernel
theorem dX4_whole_1 : decode cX4_whole 1 = .ok (.istore 4, 2) := by decide +kernel
theorem dX4_whole_3 : decode cX4_whole 3 = .ok (.iconst 0, 1) := by decide +kernel
theorem dX4_whole_4 : decode cX4_whole 4 = .ok (.istore 5, 2) := by decide +kernel
theorem dX4_whole_6 : decode cX4_whole 6 = .ok (.iload 5, 2) := by decide +kernel
theorem dX4_whole_8 : decode cX4_whole 8 = .ok (.iload_n 3, 1) := by decide +kernel
theorem dX4_whole_9 : decode cX4_whole 9 = .ok (.if_icmp .ge 46, 3) := by decide +kernel
theorem dX4_whole_12 : decode cX4_whole 12 = .ok (.aload_n 0, 1) := by decide +kernel
theorem dX4_whole_13 : decode cX4_whole 13 = .ok (.iload_n 1, 1) := by decide +kernel
theorem dX4_whole_14 : decode cX4_whole 14 = .ok (.iload_n 2, 1) := by decide +kernel
theorem dX4_whole_15 : decode cX4_whole 15 = .ok (.iload 5, 2) := by decide +kernel
theorem dX4_whole_17 : decode cX4_whole 17 = .ok (.iadd, 1) := by decide +kernel
theorem dX4_whole_18 : decode cX4_whole 18 = .ok (.invokevirtual 137, 3) := by decide +kernel
theorem dX4_whole_21 : decode cX4_whole 21 = .ok (.invokestatic 192, 3) := by decide +kernel
theorem dX4_whole_24 : decode cX4_whole 24 = .ok (.ifCond .ne 5, 3) := by decide +kernel
theorem dX4_whole_27 : decode cX4_whole 27 = .ok (.iconst (-1), 1) := by decide +kernel
theorem dX4_whole_28 : decode cX4_whole 28 = .ok (.ireturn, 1) := by decide +kernel
theorem dX4_whole_29 : decode cX4_whole 29 = .ok (.bipush 10, 2) := by decide +kernel
theorem dX4_whole_31 : decode cX4_whole 31 = .ok (.iload 4, 2) := by decide +kernel
theorem dX4_whole_33 : decode cX4_whole 33 = .ok (.imul, 1) := by decide +kernel
theorem dX4_whole_34 : decode cX4_whole 34 = .ok (.aload_n 0, 1) := by decide +kernel
theorem dX4_whole_35 : decode cX4_whole 35 = .ok (.iload_n 1, 1) := by decide +kernel
theorem dX4_whole_36 : decode cX4_whole 36 = .ok (.iload_n 2, 1) := by decide +kernel
theorem dX4_whole_37 : decode cX4_whole 37 = .ok (.iload 5, 2) := by decide +kernel
theorem dX4_whole_39 : decode cX4_whole 39 = .ok (.iadd, 1) := by decide +kernel
theorem dX4_whole_40 : decode cX4_whole 40 = .ok (.invokevirtual 137, 3) := by decide +kernel
theorem dX4_whole_43 : decode cX4_whole 43 = .ok (.iadd, 1) := by decide +kernel
theorem dX4_whole_44 : decode cX4_whole 44 = .ok (.bipush 48, 2) := by decide +kernel
theorem dX4_whole_46 : decode cX4_whole 46 = .ok (.isub, 1) := by decide +kernel
theorem dX4_whole_47 : decode cX4_whole 47 = .ok (.istore 4, 2) := by decide +kernel
theorem dX4_whole_49 : decode cX4_whole 49 = .ok (.iinc 5 1, 3) := by decide +kernel
theorem dX4_whole_52 : decode cX4_whole 52 = .ok (.goto (-46), 3) := by decide +kernel
theorem dX4_whole_55 : decode cX4_whole 55 = .ok (.iload 4, 2) := by decide +kernel
theorem dX4_whole_57 : decode cX4_whole 57 = .ok (.ireturn, 1) := by decide +kernel
theorem dX4_daysOf_0 : decode cX4_daysOf 0 = .ok (.iload_n 1, 1) := by decide +kernel
theorem dX4_daysOf_1 : decode cX4_daysOf 1 = .ok (.iconst 2, 1) := by decide +kernel
theorem dX4_daysOf_2 : decode cX4_daysOf 2 = .ok (.if_icmp .ne 32, 3) := by decide +kernel
theorem dX4_daysOf_5 : decode cX4_daysOf 5 = .ok (.iload_n 0, 1) := by decide +kernel
theorem dX4_daysOf_6 : decode cX4_daysOf 6 = .ok (.iconst 4, 1) := by decide +kernel
theorem dX4_daysOf_7 : decode cX4_daysOf 7 = .ok (.irem, 1) := by decide +kernel
theorem dX4_daysOf_8 : decode cX4_daysOf 8 = .ok (.ifCond .ne 23, 3) := by decide +kernel
theorem dX4_daysOf_11 : decode cX4_daysOf 11 = .ok (.iload_n 0, 1) := by decide +kernel
theorem dX4_daysOf_12 : decode cX4_daysOf 12 = .ok (.bipush 100, 2) := by decide +kernel
theorem dX4_daysOf_14 : decode cX4_daysOf 14 = .ok (.irem, 1) := by decide +kernel
theorem dX4_daysOf_15 : decode cX4_daysOf 15 = .ok (.ifCond .ne 11, 3) := by decide +kernel
theorem dX4_daysOf_18 : decode cX4_daysOf 18 = .ok (.iload_n 0, 1) := by decide +kernel
theorem dX4_daysOf_19 : decode cX4_daysOf 19 = .ok (.sipush 400, 3) := by decide +kernel
theorem dX4_daysOf_22 : decode cX4_daysOf 22 = .ok (.irem, 1) := by decide +kernel
theorem dX4_daysOf_23 : decode cX4_daysOf 23 = .ok (.ifCond .ne 8, 3) := by decide +kernel
theorem dX4_daysOf_26 : decode cX4_daysOf 26 = .ok (.bipush 29, 2) := by decide +kernel
theorem dX4_daysOf_28 : decode cX4_daysOf 28 = .ok (.goto 5, 3) := by decide +kernel
theorem dX4_daysOf_31 : decode cX4_daysOf 31 = .ok (.bipush 28, 2) := by decide +kernel
theorem dX4_daysOf_33 : decode cX4_daysOf 33 = .ok (.ireturn, 1) := by decide +kernel
theorem dX4_daysOf_34 : decode cX4_daysOf 34 = .ok (.iload_n 1, 1) := by decide +kernel
theorem dX4_daysOf_35 : decode cX4_daysOf 35 = .ok (.iconst 4, 1) := by decide +kernel
theorem dX4_daysOf_36 : decode cX4_daysOf 36 = .ok (.if_icmp .eq 21, 3) := by decide +kernel
theorem dX4_daysOf_39 : decode cX4_daysOf 39 = .ok (.iload_n 1, 1) := by decide +kernel
theorem dX4_daysOf_40 : decode cX4_daysOf 40 = .ok (.bipush 6, 2) := by decide +kernel
theorem dX4_daysOf_42 : decode cX4_daysOf 42 = .ok (.if_icmp .eq 15, 3) := by decide +kernel
theorem dX4_daysOf_45 : decode cX4_daysOf 45 = .ok (.iload_n 1, 1) := by decide +kernel
theorem dX4_daysOf_46 : decode cX4_daysOf 46 = .ok (.bipush 9, 2) := by decide +kernel
theorem dX4_daysOf_48 : decode cX4_daysOf 48 = .ok (.if_icmp .eq 9, 3) := by decide +kernel
theorem dX4_daysOf_51 : decode cX4_daysOf 51 = .ok (.iload_n 1, 1) := by decide +kernel
theorem dX4_daysOf_52 : decode cX4_daysOf 52 = .ok (.bipush 11, 2) := by decide +kernel
theorem dX4_daysOf_54 : decode cX4_daysOf 54 = .ok (.if_icmp .ne 8, 3) := by decide +kernel
theorem dX4_daysOf_57 : decode cX4_daysOf 57 = .ok (.bipush 30, 2) := by decide +kernel
theorem dX4_daysOf_59 : decode cX4_daysOf 59 = .ok (.goto 5, 3) := by decide +kernel
theorem dX4_daysOf_62 : decode cX4_daysOf 62 = .ok (.bipush 31, 2) := by decide +kernel
theorem dX4_daysOf_64 : decode cX4_daysOf 64 = .ok (.ireturn, 1) := by decide +kernel
theorem dX4_betweenOf_0 : decode cX4_betweenOf 0 = .ok (.iload_n 0, 1) := by decide +kernel
theorem dX4_betweenOf_1 : decode cX4_betweenOf 1 = .ok (.bipush 22, 2) := by decide +kernel
theorem dX4_betweenOf_3 : decode cX4_betweenOf 3 = .ok (.isub, 1) := by decide +kernel
theorem dX4_betweenOf_4 : decode cX4_betweenOf 4 = .ok (.iconst 3, 1) := by decide +kernel
theorem dX4_betweenOf_5 : decode cX4_betweenOf 5 = .ok (.irem, 1) := by decide +kernel
theorem dX4_betweenOf_6 : decode cX4_betweenOf 6 = .ok (.istore_n 1, 1) := by decide +kernel
theorem dX4_betweenOf_7 : decode cX4_betweenOf 7 = .ok (.iload_n 1, 1) := by decide +kernel
theorem dX4_betweenOf_8 : decode cX4_betweenOf 8 = .ok (.ifCond .ne 8, 3) := by decide +kernel
theorem dX4_betweenOf_11 : decode cX4_betweenOf 11 = .ok (.bipush 47, 2) := by decide +kernel
theorem dX4_betweenOf_13 : decode cX4_betweenOf 13 = .ok (.goto 15, 3) := by decide +kernel
theorem dX4_betweenOf_16 : decode cX4_betweenOf 16 = .ok (.iload_n 1, 1) := by decide +kernel
theorem dX4_betweenOf_17 : decode cX4_betweenOf 17 = .ok (.iconst 1, 1) := by decide +kernel
theorem dX4_betweenOf_18 : decode cX4_betweenOf 18 = .ok (.if_icmp .ne 8, 3) := by decide +kernel
theorem dX4_betweenOf_21 : decode cX4_betweenOf 21 = .ok (.bipush 45, 2) := by decide +kernel
theorem dX4_betweenOf_23 : decode cX4_betweenOf 23 = .ok (.goto 5, 3) := by decide +kernel
theorem dX4_betweenOf_26 : decode cX4_betweenOf 26 = .ok (.bipush 46, 2) := by decide +kernel
theorem dX4_betweenOf_28 : decode cX4_betweenOf 28 = .ok (.ireturn, 1) := by decide +kernel
theorem dX4_isDay_0 : decode cX4_isDay 0 = .ok (.aload_n 0, 1) := by decide +kernel
theorem dX4_isDay_1 : decode cX4_isDay 1 = .ok (.getfield 27, 3) := by decide +kernel
theorem dX4_isDay_4 : decode cX4_isDay 4 = .ok (.iload_n 1, 1) := by decide +kernel
theorem dX4_isDay_5 : decode cX4_isDay 5 = .ok (.iaload, 1) := by decide +kernel
theorem dX4_isDay_6 : decode cX4_isDay 6 = .ok (.bipush 10, 2) := by decide +kernel
theorem dX4_isDay_8 : decode cX4_isDay 8 = .ok (.if_icmp .eq 5, 3) := by decide +kernel
theorem dX4_isDay_11 : decode cX4_isDay 11 = .ok (.iconst 0, 1) := by decide +kernel
theorem dX4_isDay_12 : decode cX4_isDay 12 = .ok (.ireturn, 1) := by decide +kernel
theorem dX4_isDay_13 : decode cX4_isDay 13 = .ok (.iload_n 2, 1) := by decide +kernel
theorem dX4_isDay_14 : decode cX4_isDay 14 = .ok (.bipush 22, 2) := by decide +kernel
theorem dX4_isDay_16 : decode cX4_isDay 16 = .ok (.isub, 1) := by decide +kernel
theorem dX4_isDay_17 : decode cX4_isDay 17 = .ok (.iconst 3, 1) := by decide +kernel
theorem dX4_isDay_18 : decode cX4_isDay 18 = .ok (.idiv, 1) := by decide +kernel
theorem dX4_isDay_19 : decode cX4_isDay 19 = .ok (.istore_n 3, 1) := by decide +kernel
theorem dX4_isDay_20 : decode cX4_isDay 20 = .ok (.iload_n 2, 1) := by decide +kernel
theorem dX4_isDay_21 : decode cX4_isDay 21 = .ok (.invokestatic 202, 3) := by decide +kernel
theorem dX4_isDay_24 : decode cX4_isDay 24 = .ok (.istore 4, 2) := by decide +kernel
theorem dX4_isDay_26 : decode cX4_isDay 26 = .ok (.aload_n 0, 1) := by decide +kernel
theorem dX4_isDay_27 : decode cX4_isDay 27 = .ok (.iload_n 1, 1) := by decide +kernel
theorem dX4_isDay_28 : decode cX4_isDay 28 = .ok (.iload_n 3, 1) := by decide +kernel
theorem dX4_isDay_29 : decode cX4_isDay 29 = .ok (.iconst 2, 1) := by decide +kernel
theorem dX4_isDay_30 : decode cX4_isDay 30 = .ok (.if_icmp .ne 7, 3) := by decide +kernel
theorem dX4_isDay_33 : decode cX4_isDay 33 = .ok (.iconst 4, 1) := by decide +kernel
theorem dX4_isDay_34 : decode cX4_isDay 34 = .ok (.goto 4, 3) := by decide +kernel
theorem dX4_isDay_37 : decode cX4_isDay 37 = .ok (.iconst 2, 1) := by decide +kernel
theorem dX4_isDay_38 : decode cX4_isDay 38 = .ok (.invokevirtual 137, 3) := by decide +kernel
theorem dX4_isDay_41 : decode cX4_isDay 41 = .ok (.iload 4, 2) := by decide +kernel
theorem dX4_isDay_43 : decode cX4_isDay 43 = .ok (.if_icmp .ne 24, 3) := by decide +kernel
theorem dX4_isDay_46 : decode cX4_isDay 46 = .ok (.aload_n 0, 1) := by decide +kernel
theorem dX4_isDay_47 : decode cX4_isDay 47 = .ok (.iload_n 1, 1) := by decide +kernel
theorem dX4_isDay_48 : decode cX4_isDay 48 = .ok (.iload_n 3, 1) := by decide +kernel
theorem dX4_isDay_49 : decode cX4_isDay 49 = .ok (.iconst 2, 1) := by decide +kernel
theorem dX4_isDay_50 : decode cX4_isDay 50 = .ok (.if_icmp .ne 8, 3) := by decide +kernel
theorem dX4_isDay_53 : decode cX4_isDay 53 = .ok (.bipush 7, 2) := by decide +kernel
theorem dX4_isDay_55 : decode cX4_isDay 55 = .ok (.goto 4, 3) := by decide +kernel
theorem dX4_isDay_58 : decode cX4_isDay 58 = .ok (.iconst 5, 1) := by decide +kernel
theorem dX4_isDay_59 : decode cX4_isDay 59 = .ok (.invokevirtual 137, 3) := by decide +kernel
theorem dX4_isDay_62 : decode cX4_isDay 62 = .ok (.iload 4, 2) := by decide +kernel
theorem dX4_isDay_64 : decode cX4_isDay 64 = .ok (.if_icmp .eq 5, 3) := by decide +kernel
theorem dX4_isDay_67 : decode cX4_isDay 67 = .ok (.iconst 0, 1) := by decide +kernel
theorem dX4_isDay_68 : decode cX4_isDay 68 = .ok (.ireturn, 1) := by decide +kernel
theorem dX4_isDay_69 : decode cX4_isDay 69 = .ok (.aload_n 0, 1) := by decide +kernel
theorem dX4_isDay_70 : decode cX4_isDay 70 = .ok (.iload_n 1, 1) := by decide +kernel
theorem dX4_isDay_71 : decode cX4_isDay 71 = .ok (.iload_n 3, 1) := by decide +kernel
theorem dX4_isDay_72 : decode cX4_isDay 72 = .ok (.iconst 2, 1) := by decide +kernel
theorem dX4_isDay_73 : decode cX4_isDay 73 = .ok (.if_icmp .ne 7, 3) := by decide +kernel
theorem dX4_isDay_76 : decode cX4_isDay 76 = .ok (.iconst 0, 1) := by decide +kernel
theorem dX4_isDay_77 : decode cX4_isDay 77 = .ok (.goto 5, 3) := by decide +kernel
theorem dX4_isDay_80 : decode cX4_isDay 80 = .ok (.bipush 6, 2) := by decide +kernel
theorem dX4_isDay_82 : decode cX4_isDay 82 = .ok (.iconst 4, 1) := by decide +kernel
theorem dX4_isDay_83 : decode cX4_isDay 83 = .ok (.invokevirtual 205, 3) := by decide +kernel
theorem dX4_isDay_86 : decode cX4_isDay 86 = .ok (.istore 5, 2) := by decide +kernel
theorem dX4_isDay_88 : decode cX4_isDay 88 = .ok (.aload_n 0, 1) := by decide +kernel
theorem dX4_isDay_89 : decode cX4_isDay 89 = .ok (.iload_n 1, 1) := by decide +kernel
theorem dX4_isDay_90 : decode cX4_isDay 90 = .ok (.iload_n 3, 1) := by decide +kernel
theorem dX4_isDay_91 : decode cX4_isDay 91 = .ok (.ifCond .ne 7, 3) := by decide +kernel
theorem dX4_isDay_94 : decode cX4_isDay 94 = .ok (.iconst 3, 1) := by decide +kernel
theorem dX4_isDay_95 : decode cX4_isDay 95 = .ok (.goto 13, 3) := by decide +kernel
theorem dX4_isDay_98 : decode cX4_isDay 98 = .ok (.iload_n 3, 1) := by decide +kernel
theorem dX4_isDay_99 : decode cX4_isDay 99 = .ok (.iconst 1, 1) := by decide +kernel
theorem dX4_isDay_100 : decode cX4_isDay 100 = .ok (.if_icmp .ne 7, 3) := by decide +kernel
theorem dX4_isDay_103 : decode cX4_isDay 103 = .ok (.iconst 0, 1) := by decide +kernel
theorem dX4_isDay_104 : decode cX4_isDay 104 = .ok (.goto 4, 3) := by decide +kernel
theorem dX4_isDay_107 : decode cX4_isDay 107 = .ok (.iconst 5, 1) := by decide +kernel
theorem dX4_isDay_108 : decode cX4_isDay 108 = .ok (.iconst 2, 1) := by decide +kernel
theorem dX4_isDay_109 : decode cX4_isDay 109 = .ok (.invokevirtual 205, 3) := by decide +kernel
theorem dX4_isDay_112 : decode cX4_isDay 112 = .ok (.istore 6, 2) := by decide +kernel
theorem dX4_isDay_114 : decode cX4_isDay 114 = .ok (.aload_n 0, 1) := by decide +kernel
theorem dX4_isDay_115 : decode cX4_isDay 115 = .ok (.iload_n 1, 1) := by decide +kernel
theorem dX4_isDay_116 : decode cX4_isDay 116 = .ok (.iload_n 3, 1) := by decide +kernel
theorem dX4_isDay_117 : decode cX4_isDay 117 = .ok (.ifCond .ne 7, 3) := by decide +kernel
theorem dX4_isDay_120 : decode cX4_isDay 120 = .ok (.iconst 0, 1) := by decide +kernel
theorem dX4_isDay_121 : decode cX4_isDay 121 = .ok (.goto 14, 3) := by decide +kernel
theorem dX4_isDay_124 : decode cX4_isDay 124 = .ok (.iload_n 3, 1) := by decide +kernel
theorem dX4_isDay_125 : decode cX4_isDay 125 = .ok (.iconst 1, 1) := by decide +kernel
theorem dX4_isDay_126 : decode cX4_isDay 126 = .ok (.if_icmp .ne 7, 3) := by decide +kernel
theorem dX4_isDay_129 : decode cX4_isDay 129 = .ok (.iconst 3, 1) := by decide +kernel
theorem dX4_isDay_130 : decode cX4_isDay 130 = .ok (.goto 5, 3) := by decide +kernel
theorem dX4_isDay_133 : decode cX4_isDay 133 = .ok (.bipush 8, 2) := by decide +kernel
theorem dX4_isDay_135 : decode cX4_isDay 135 = .ok (.iconst 2, 1) := by decide +kernel
theorem dX4_isDay_136 : decode cX4_isDay 136 = .ok (.invokevirtual 205, 3) := by decide +kernel
theorem dX4_isDay_139 : decode cX4_isDay 139 = .ok (.istore 7, 2) := by decide +kernel
theorem dX4_isDay_141 : decode cX4_isDay 141 = .ok (.iload 5, 2) := by decide +kernel
theorem dX4_isDay_143 : decode cX4_isDay 143 = .ok (.sipush 1600, 3) := by decide +kernel
theorem dX4_isDay_146 : decode cX4_isDay 146 = .ok (.sipush 2999, 3) := by decide +kernel
theorem dX4_isDay_149 : decode cX4_isDay 149 = .ok (.invokestatic 56, 3) := by decide +kernel
theorem dX4_isDay_152 : decode cX4_isDay 152 = .ok (.ifCond .eq 30, 3) := by decide +kernel
theorem dX4_isDay_155 : decode cX4_isDay 155 = .ok (.iload 6, 2) := by decide +kernel
theorem dX4_isDay_157 : decode cX4_isDay 157 = .ok (.iconst 1, 1) := by decide +kernel
theorem dX4_isDay_158 : decode cX4_isDay 158 = .ok (.bipush 12, 2) := by decide +kernel
theorem dX4_isDay_160 : decode cX4_isDay 160 = .ok (.invokestatic 56, 3) := by decide +kernel
theorem dX4_isDay_163 : decode cX4_isDay 163 = .ok (.ifCond .eq 19, 3) := by decide +kernel
theorem dX4_isDay_166 : decode cX4_isDay 166 = .ok (.iload 7, 2) := by decide +kernel
theorem dX4_isDay_168 : decode cX4_isDay 168 = .ok (.iconst 1, 1) := by decide +kernel
theorem dX4_isDay_169 : decode cX4_isDay 169 = .ok (.iload 5, 2) := by decide +kernel
theorem dX4_isDay_171 : decode cX4_isDay 171 = .ok (.iload 6, 2) := by decide +kernel
theorem dX4_isDay_173 : decode cX4_isDay 173 = .ok (.invokestatic 208, 3) := by decide +kernel
theorem dX4_isDay_176 : decode cX4_isDay 176 = .ok (.invokestatic 56, 3) := by decide +kernel
theorem dX4_isDay_179 : decode cX4_isDay 179 = .ok (.ifCond .ne 5, 3) := by decide +kernel
theorem dX4_isDay_182 : decode cX4_isDay 182 = .ok (.iconst 0, 1) := by decide +kernel
theorem dX4_isDay_183 : decode cX4_isDay 183 = .ok (.ireturn, 1) := by decide +kernel
theorem dX4_isDay_184 : decode cX4_isDay 184 = .ok (.aload_n 0, 1) := by decide +kernel
theorem dX4_isDay_185 : decode cX4_isDay 185 = .ok (.iload 5, 2) := by decide +kernel
theorem dX4_isDay_187 : decode cX4_isDay 187 = .ok (.i2l, 1) := by decide +kernel
theorem dX4_isDay_188 : decode cX4_isDay 188 = .ok (.ldc2_w 211, 3) := by decide +kernel
theorem dX4_isDay_191 : decode cX4_isDay 191 = .ok (.lmul, 1) := by decide +kernel
theorem dX4_isDay_192 : decode cX4_isDay 192 = .ok (.iload 6, 2) := by decide +kernel
theorem dX4_isDay_194 : decode cX4_isDay 194 = .ok (.i2l, 1) := by decide +kernel
theorem dX4_isDay_195 : decode cX4_isDay 195 = .ok (.ldc2_w 213, 3) := by decide +kernel
theorem dX4_isDay_198 : decode cX4_isDay 198 = .ok (.lmul, 1) := by decide +kernel
theorem dX4_isDay_199 : decode cX4_isDay 199 = .ok (.ladd, 1) := by decide +kernel
theorem dX4_isDay_200 : decode cX4_isDay 200 = .ok (.iload 7, 2) := by decide +kernel
theorem dX4_isDay_202 : decode cX4_isDay 202 = .ok (.i2l, 1) := by decide +kernel
theorem dX4_isDay_203 : decode cX4_isDay 203 = .ok (.ladd, 1) := by decide +kernel
theorem dX4_isDay_204 : decode cX4_isDay 204 = .ok (.putfield 176, 3) := by decide +kernel
theorem dX4_isDay_207 : decode cX4_isDay 207 = .ok (.iconst 1, 1) := by decide +kernel
theorem dX4_isDay_208 : decode cX4_isDay 208 = .ok (.ireturn, 1) := by decide +kernel
theorem dX4_sortOf_0 : decode cX4_sortOf 0 = .ok (.iload_n 0, 1) := by decide +kernel
theorem dX4_sortOf_1 : decode cX4_sortOf 1 = .ok (.invokestatic 192, 3) := by decide +kernel
theorem dX4_sortOf_4 : decode cX4_sortOf 4 = .ok (.ifCond .eq 7, 3) := by decide +kernel
theorem dX4_sortOf_7 : decode cX4_sortOf 7 = .ok (.iconst 1, 1) := by decide +kernel
theorem dX4_sortOf_8 : decode cX4_sortOf 8 = .ok (.goto 36, 3) := by decide +kernel
theorem dX4_sortOf_11 : decode cX4_sortOf 11 = .ok (.iload_n 0, 1) := by decide +kernel
theorem dX4_sortOf_12 : decode cX4_sortOf 12 = .ok (.bipush 65, 2) := by decide +kernel
theorem dX4_sortOf_14 : decode cX4_sortOf 14 = .ok (.bipush 90, 2) := by decide +kernel
theorem dX4_sortOf_16 : decode cX4_sortOf 16 = .ok (.invokestatic 56, 3) := by decide +kernel
theorem dX4_sortOf_19 : decode cX4_sortOf 19 = .ok (.ifCond .eq 7, 3) := by decide +kernel
theorem dX4_sortOf_22 : decode cX4_sortOf 22 = .ok (.iconst 2, 1) := by decide +kernel
theorem dX4_sortOf_23 : decode cX4_sortOf 23 = .ok (.goto 21, 3) := by decide +kernel
theorem dX4_sortOf_26 : decode cX4_sortOf 26 = .ok (.iload_n 0, 1) := by decide +kernel
theorem dX4_sortOf_27 : decode cX4_sortOf 27 = .ok (.bipush 97, 2) := by decide +kernel
theorem dX4_sortOf_29 : decode cX4_sortOf 29 = .ok (.bipush 122, 2) := by decide +kernel
theorem dX4_sortOf_31 : decode cX4_sortOf 31 = .ok (.invokestatic 56, 3) := by decide +kernel
theorem dX4_sortOf_34 : decode cX4_sortOf 34 = .ok (.ifCond .eq 7, 3) := by decide +kernel
theorem dX4_sortOf_37 : decode cX4_sortOf 37 = .ok (.iconst 3, 1) := by decide +kernel
theorem dX4_sortOf_38 : decode cX4_sortOf 38 = .ok (.goto 6, 3) := by decide +kernel
theorem dX4_sortOf_41 : decode cX4_sortOf 41 = .ok (.iconst 4, 1) := by decide +kernel
theorem dX4_sortOf_42 : decode cX4_sortOf 42 = .ok (.iload_n 0, 1) := by decide +kernel
theorem dX4_sortOf_43 : decode cX4_sortOf 43 = .ok (.iadd, 1) := by decide +kernel
theorem dX4_sortOf_44 : decode cX4_sortOf 44 = .ok (.ireturn, 1) := by decide +kernel
theorem dX4_isCode_0 : decode cX4_isCode 0 = .ok (.aload_n 0, 1) := by decide +kernel
theorem dX4_isCode_1 : decode cX4_isCode 1 = .ok (.lconst 0, 1) := by decide +kernel
theorem dX4_isCode_2 : decode cX4_isCode 2 = .ok (.putfield 176, 3) := by decide +kernel
theorem dX4_isCode_5 : decode cX4_isCode 5 = .ok (.aload_n 0, 1) := by decide +kernel
theorem dX4_isCode_6 : decode cX4_isCode 6 = .ok (.getfield 27, 3) := by decide +kernel
theorem dX4_isCode_9 : decode cX4_isCode 9 = .ok (.iload_n 2, 1) := by decide +kernel
theorem dX4_isCode_10 : decode cX4_isCode 10 = .ok (.iaload, 1) := by decide +kernel
theorem dX4_isCode_11 : decode cX4_isCode 11 = .ok (.iconst 1, 1) := by decide +kernel
theorem dX4_isCode_12 : decode cX4_isCode 12 = .ok (.bipush 20, 2) := by decide +kernel
theorem dX4_isCode_14 : decode cX4_isCode 14 = .ok (.invokestatic 56, 3) := by decide +kernel
theorem dX4_isCode_17 : decode cX4_isCode 17 = .ok (.ifCond .eq 18, 3) := by decide +kernel
theorem dX4_isCode_20 : decode cX4_isCode 20 = .ok (.aload_n 0, 1) := by decide +kernel
theorem dX4_isCode_21 : decode cX4_isCode 21 = .ok (.getfield 27, 3) := by decide +kernel
theorem dX4_isCode_24 : decode cX4_isCode 24 = .ok (.iload_n 1, 1) := by decide +kernel
theorem dX4_isCode_25 : decode cX4_isCode 25 = .ok (.iaload, 1) := by decide +kernel
theorem dX4_isCode_26 : decode cX4_isCode 26 = .ok (.aload_n 0, 1) := by decide +kernel
theorem dX4_isCode_27 : decode cX4_isCode 27 = .ok (.getfield 27, 3) := by decide +kernel
theorem dX4_isCode_30 : decode cX4_isCode 30 = .ok (.iload_n 2, 1) := by decide +kernel
theorem dX4_isCode_31 : decode cX4_isCode 31 = .ok (.iaload, 1) := by decide +kernel
theorem dX4_isCode_32 : decode cX4_isCode 32 = .ok (.if_icmp .eq 5, 3) := by decide +kernel
theorem dX4_isCode_35 : decode cX4_isCode 35 = .ok (.iconst 0, 1) := by decide +kernel
theorem dX4_isCode_36 : decode cX4_isCode 36 = .ok (.ireturn, 1) := by decide +kernel
theorem dX4_isCode_37 : decode cX4_isCode 37 = .ok (.iconst 0, 1) := by decide +kernel
theorem dX4_isCode_38 : decode cX4_isCode 38 = .ok (.istore_n 3, 1) := by decide +kernel
theorem dX4_isCode_39 : decode cX4_isCode 39 = .ok (.iload_n 3, 1) := by decide +kernel
theorem dX4_isCode_40 : decode cX4_isCode 40 = .ok (.aload_n 0, 1) := by decide +kernel
theorem dX4_isCode_41 : decode cX4_isCode 41 = .ok (.getfield 27, 3) := by decide +kernel
theorem dX4_isCode_44 : decode cX4_isCode 44 = .ok (.iload_n 1, 1) := by decide +kernel
theorem dX4_isCode_45 : decode cX4_isCode 45 = .ok (.iaload, 1) := by decide +kernel
theorem dX4_isCode_46 : decode cX4_isCode 46 = .ok (.if_icmp .ge 32, 3) := by decide +kernel
theorem dX4_isCode_49 : decode cX4_isCode 49 = .ok (.aload_n 0, 1) := by decide +kernel
theorem dX4_isCode_50 : decode cX4_isCode 50 = .ok (.iload_n 1, 1) := by decide +kernel
theorem dX4_isCode_51 : decode cX4_isCode 51 = .ok (.iload_n 3, 1) := by decide +kernel
theorem dX4_isCode_52 : decode cX4_isCode 52 = .ok (.invokevirtual 137, 3) := by decide +kernel
theorem dX4_isCode_55 : decode cX4_isCode 55 = .ok (.invokestatic 215, 3) := by decide +kernel
theorem dX4_isCode_58 : decode cX4_isCode 58 = .ok (.aload_n 0, 1) := by decide +kernel
theorem dX4_isCode_59 : decode cX4_isCode 59 = .ok (.iload_n 2, 1) := by decide +kernel
theorem dX4_isCode_60 : decode cX4_isCode 60 = .ok (.iload_n 3, 1) := by decide +kernel
theorem dX4_isCode_61 : decode cX4_isCode 61 = .ok (.invokevirtual 137, 3) := by decide +kernel
theorem dX4_isCode_64 : decode cX4_isCode 64 = .ok (.invokestatic 215, 3) := by decide +kernel
theorem dX4_isCode_67 : decode cX4_isCode 67 = .ok (.if_icmp .eq 5, 3) := by decide +kernel
theorem dX4_isCode_70 : decode cX4_isCode 70 = .ok (.iconst 0, 1) := by decide +kernel
theorem dX4_isCode_71 : decode cX4_isCode 71 = .ok (.ireturn, 1) := by decide +kernel
theorem dX4_isCode_72 : decode cX4_isCode 72 = .ok (.iinc 3 1, 3) := by decide +kernel
theorem dX4_isCode_75 : decode cX4_isCode 75 = .ok (.goto (-36), 3) := by decide +kernel
theorem dX4_isCode_78 : decode cX4_isCode 78 = .ok (.iconst 1, 1) := by decide +kernel
theorem dX4_isCode_79 : decode cX4_isCode 79 = .ok (.ireturn, 1) := by decide +kernel
theorem dX4_isMissing_0 : decode cX4_isMissing 0 = .ok (.iload_n 2, 1) := by decide +kernel
theorem dX4_isMissing_1 : decode cX4_isMissing 1 = .ok (.tableswitch 70 1 4 #[31, 46, 54, 62], 31) := by decide +kernel
theorem dX4_isMissing_32 : decode cX4_isMissing 32 = .ok (.aload_n 0, 1) := by decide +kernel
theorem dX4_isMissing_33 : decode cX4_isMissing 33 = .ok (.getfield 27, 3) := by decide +kernel
theorem dX4_isMissing_36 : decode cX4_isMissing 36 = .ok (.iload_n 1, 1) := by decide +kernel
theorem dX4_isMissing_37 : decode cX4_isMissing 37 = .ok (.iaload, 1) := by decide +kernel
theorem dX4_isMissing_38 : decode cX4_isMissing 38 = .ok (.ifCond .ne 7, 3) := by decide +kernel
theorem dX4_isMissing_41 : decode cX4_isMissing 41 = .ok (.iconst 1, 1) := by decide +kernel
theorem dX4_isMissing_42 : decode cX4_isMissing 42 = .ok (.goto 4, 3) := by decide +kernel
theorem dX4_isMissing_45 : decode cX4_isMissing 45 = .ok (.iconst 0, 1) := by decide +kernel
theorem dX4_isMissing_46 : decode cX4_isMissing 46 = .ok (.ireturn, 1) := by decide +kernel
theorem dX4_isMissing_47 : decode cX4_isMissing 47 = .ok (.aload_n 0, 1) := by decide +kernel
theorem dX4_isMissing_48 : decode cX4_isMissing 48 = .ok (.iload_n 1, 1) := by decide +kernel
theorem dX4_isMissing_49 : decode cX4_isMissing 49 = .ok (.ldc 218, 2) := by decide +kernel
theorem dX4_isMissing_51 : decode cX4_isMissing 51 = .ok (.invokevirtual 172, 3) := by decide +kernel
theorem dX4_isMissing_54 : decode cX4_isMissing 54 = .ok (.ireturn, 1) := by decide +kernel
theorem dX4_isMissing_55 : decode cX4_isMissing 55 = .ok (.aload_n 0, 1) := by decide +kernel
theorem dX4_isMissing_56 : decode cX4_isMissing 56 = .ok (.iload_n 1, 1) := by decide +kernel
theorem dX4_isMissing_57 : decode cX4_isMissing 57 = .ok (.ldc 220, 2) := by decide +kernel
theorem dX4_isMissing_59 : decode cX4_isMissing 59 = .ok (.invokevirtual 172, 3) := by decide +kernel
theorem dX4_isMissing_62 : decode cX4_isMissing 62 = .ok (.ireturn, 1) := by decide +kernel
theorem dX4_isMissing_63 : decode cX4_isMissing 63 = .ok (.aload_n 0, 1) := by decide +kernel
theorem dX4_isMissing_64 : decode cX4_isMissing 64 = .ok (.iload_n 1, 1) := by decide +kernel
theorem dX4_isMissing_65 : decode cX4_isMissing 65 = .ok (.ldc 222, 2) := by decide +kernel
theorem dX4_isMissing_67 : decode cX4_isMissing 67 = .ok (.invokevirtual 172, 3) := by decide +kernel
theorem dX4_isMissing_70 : decode cX4_isMissing 70 = .ok (.ireturn, 1) := by decide +kernel
theorem dX4_isMissing_71 : decode cX4_isMissing 71 = .ok (.iconst 0, 1) := by decide +kernel
theorem dX4_isMissing_72 : decode cX4_isMissing 72 = .ok (.ireturn, 1) := by decide +kernel
theorem dX4_tells_0 : decode cX4_tells 0 = .ok (.aload_n 0, 1) := by decide +kernel
theorem dX4_tells_1 : decode cX4_tells 1 = .ok (.lconst 0, 1) := by decide +kernel
theorem dX4_tells_2 : decode cX4_tells 2 = .ok (.putfield 176, 3) := by decide +kernel
theorem dX4_tells_5 : decode cX4_tells 5 = .ok (.iload_n 1, 1) := by decide +kernel
theorem dX4_tells_6 : decode cX4_tells 6 = .ok (.ifCond .ne 5, 3) := by decide +kernel
theorem dX4_tells_9 : decode cX4_tells 9 = .ok (.iconst 1, 1) := by decide +kernel
theorem dX4_tells_10 : decode cX4_tells 10 = .ok (.ireturn, 1) := by decide +kernel
theorem dX4_tells_11 : decode cX4_tells 11 = .ok (.iload_n 1, 1) := by decide +kernel
theorem dX4_tells_12 : decode cX4_tells 12 = .ok (.bipush 7, 2) := by decide +kernel
theorem dX4_tells_14 : decode cX4_tells 14 = .ok (.if_icmp .ge 10, 3) := by decide +kernel
theorem dX4_tells_17 : decode cX4_tells 17 = .ok (.aload_n 0, 1) := by decide +kernel
theorem dX4_tells_18 : decode cX4_tells 18 = .ok (.iload_n 2, 1) := by decide +kernel
theorem dX4_tells_19 : decode cX4_tells 19 = .ok (.iload_n 1, 1) := by decide +kernel
theorem dX4_tells_20 : decode cX4_tells 20 = .ok (.invokevirtual 224, 3) := by decide +kernel
theorem dX4_tells_23 : decode cX4_tells 23 = .ok (.ireturn, 1) := by decide +kernel
theorem dX4_tells_24 : decode cX4_tells 24 = .ok (.iload_n 1, 1) := by decide +kernel
theorem dX4_tells_25 : decode cX4_tells 25 = .ok (.bipush 22, 2) := by decide +kernel
theorem dX4_tells_27 : decode cX4_tells 27 = .ok (.if_icmp .ge 10, 3) := by decide +kernel
theorem dX4_tells_30 : decode cX4_tells 30 = .ok (.aload_n 0, 1) := by decide +kernel
theorem dX4_tells_31 : decode cX4_tells 31 = .ok (.iload_n 2, 1) := by decide +kernel
theorem dX4_tells_32 : decode cX4_tells 32 = .ok (.iload_n 1, 1) := by decide +kernel
theorem dX4_tells_33 : decode cX4_tells 33 = .ok (.invokevirtual 228, 3) := by decide +kernel
theorem dX4_tells_36 : decode cX4_tells 36 = .ok (.ireturn, 1) := by decide +kernel
theorem dX4_tells_37 : decode cX4_tells 37 = .ok (.iload_n 1, 1) := by decide +kernel
theorem dX4_tells_38 : decode cX4_tells 38 = .ok (.bipush 31, 2) := by decide +kernel
theorem dX4_tells_40 : decode cX4_tells 40 = .ok (.if_icmp .ge 12, 3) := by decide +kernel
theorem dX4_tells_43 : decode cX4_tells 43 = .ok (.aload_n 0, 1) := by decide +kernel
theorem dX4_tells_44 : decode cX4_tells 44 = .ok (.iload_n 2, 1) := by decide +kernel
theorem dX4_tells_45 : decode cX4_tells 45 = .ok (.iload_n 1, 1) := by decide +kernel
theorem dX4_tells_46 : decode cX4_tells 46 = .ok (.invokevirtual 231, 3) := by decide +kernel
theorem dX4_tells_49 : decode cX4_tells 49 = .ok (.goto 9, 3) := by decide +kernel
theorem dX4_tells_52 : decode cX4_tells 52 = .ok (.aload_n 0, 1) := by decide +kernel
theorem dX4_tells_53 : decode cX4_tells 53 = .ok (.iload_n 2, 1) := by decide +kernel
theorem dX4_tells_54 : decode cX4_tells 54 = .ok (.iload_n 3, 1) := by decide +kernel
theorem dX4_tells_55 : decode cX4_tells 55 = .ok (.invokevirtual 234, 3) := by decide +kernel
theorem dX4_tells_58 : decode cX4_tells 58 = .ok (.ireturn, 1) := by decide +kernel
theorem dX4_gather_0 : decode cX4_gather 0 = .ok (.aload_n 0, 1) := by decide +kernel
theorem dX4_gather_1 : decode cX4_gather 1 = .ok (.iconst 0, 1) := by decide +kernel
theorem dX4_gather_2 : decode cX4_gather 2 = .ok (.putfield 237, 3) := by decide +kernel
theorem dX4_gather_5 : decode cX4_gather 5 = .ok (.iconst 0, 1) := by decide +kernel
theorem dX4_gather_6 : decode cX4_gather 6 = .ok (.istore_n 2, 1) := by decide +kernel
theorem dX4_gather_7 : decode cX4_gather 7 = .ok (.iload_n 2, 1) := by decide +kernel
theorem dX4_gather_8 : decode cX4_gather 8 = .ok (.aload_n 0, 1) := by decide +kernel
theorem dX4_gather_9 : decode cX4_gather 9 = .ok (.getfield 92, 3) := by decide +kernel
theorem dX4_gather_12 : decode cX4_gather 12 = .ok (.if_icmp .ge 57, 3) := by decide +kernel
theorem dX4_gather_15 : decode cX4_gather 15 = .ok (.aload_n 0, 1) := by decide +kernel
theorem dX4_gather_16 : decode cX4_gather 16 = .ok (.iload_n 2, 1) := by decide +kernel
theorem dX4_gather_17 : decode cX4_gather 17 = .ok (.invokevirtual 240, 3) := by decide +kernel
theorem dX4_gather_20 : decode cX4_gather 20 = .ok (.ifCond .ne 6, 3) := by decide +kernel
theorem dX4_gather_23 : decode cX4_gather 23 = .ok (.goto 40, 3) := by decide +kernel
theorem dX4_gather_26 : decode cX4_gather 26 = .ok (.aload_n 0, 1) := by decide +kernel
theorem dX4_gather_27 : decode cX4_gather 27 = .ok (.getfield 40, 3) := by decide +kernel
theorem dX4_gather_30 : decode cX4_gather 30 = .ok (.aload_n 0, 1) := by decide +kernel
theorem dX4_gather_31 : decode cX4_gather 31 = .ok (.getfield 237, 3) := by decide +kernel
theorem dX4_gather_34 : decode cX4_gather 34 = .ok (.aload_n 0, 1) := by decide +kernel
theorem dX4_gather_35 : decode cX4_gather 35 = .ok (.getfield 20, 3) := by decide +kernel
theorem dX4_gather_38 : decode cX4_gather 38 = .ok (.iload_n 2, 1) := by decide +kernel
theorem dX4_gather_39 : decode cX4_gather 39 = .ok (.iaload, 1) := by decide +kernel
theorem dX4_gather_40 : decode cX4_gather 40 = .ok (.iload_n 1, 1) := by decide +kernel
theorem dX4_gather_41 : decode cX4_gather 41 = .ok (.iadd, 1) := by decide +kernel
theorem dX4_gather_42 : decode cX4_gather 42 = .ok (.iastore, 1) := by decide +kernel
theorem dX4_gather_43 : decode cX4_gather 43 = .ok (.aload_n 0, 1) := by decide +kernel
theorem dX4_gather_44 : decode cX4_gather 44 = .ok (.getfield 43, 3) := by decide +kernel
theorem dX4_gather_47 : decode cX4_gather 47 = .ok (.aload_n 0, 1) := by decide +kernel
theorem dX4_gather_48 : decode cX4_gather 48 = .ok (.getfield 237, 3) := by decide +kernel
theorem dX4_gather_51 : decode cX4_gather 51 = .ok (.iload_n 2, 1) := by decide +kernel
theorem dX4_gather_52 : decode cX4_gather 52 = .ok (.iastore, 1) := by decide +kernel
theorem dX4_gather_53 : decode cX4_gather 53 = .ok (.aload_n 0, 1) := by decide +kernel
theorem dX4_gather_54 : decode cX4_gather 54 = .ok (.dup, 1) := by decide +kernel
theorem dX4_gather_55 : decode cX4_gather 55 = .ok (.getfield 237, 3) := by decide +kernel
theorem dX4_gather_58 : decode cX4_gather 58 = .ok (.iconst 1, 1) := by decide +kernel
theorem dX4_gather_59 : decode cX4_gather 59 = .ok (.iadd, 1) := by decide +kernel
theorem dX4_gather_60 : decode cX4_gather 60 = .ok (.putfield 237, 3) := by decide +kernel
theorem dX4_gather_63 : decode cX4_gather 63 = .ok (.iinc 2 1, 3) := by decide +kernel
theorem dX4_gather_66 : decode cX4_gather 66 = .ok (.goto (-59), 3) := by decide +kernel
theorem dX4_gather_69 : decode cX4_gather 69 = .ok (.return_, 1) := by decide +kernel
theorem dX4_firstOf_0 : decode cX4_firstOf 0 = .ok (.iconst 0, 1) := by decide +kernel
theorem dX4_firstOf_1 : decode cX4_firstOf 1 = .ok (.istore_n 2, 1) := by decide +kernel
theorem dX4_firstOf_2 : decode cX4_firstOf 2 = .ok (.iload_n 2, 1) := by decide +kernel
theorem dX4_firstOf_3 : decode cX4_firstOf 3 = .ok (.aload_n 0, 1) := by decide +kernel
theorem dX4_firstOf_4 : decode cX4_firstOf 4 = .ok (.getfield 237, 3) := by decide +kernel
theorem dX4_firstOf_7 : decode cX4_firstOf 7 = .ok (.if_icmp .ge 30, 3) := by decide +kernel
theorem dX4_firstOf_10 : decode cX4_firstOf 10 = .ok (.aload_n 0, 1) := by decide +kernel
theorem dX4_firstOf_11 : decode cX4_firstOf 11 = .ok (.aload_n 0, 1) := by decide +kernel
theorem dX4_firstOf_12 : decode cX4_firstOf 12 = .ok (.getfield 40, 3) := by decide +kernel
theorem dX4_firstOf_15 : decode cX4_firstOf 15 = .ok (.iload_n 2, 1) := by decide +kernel
theorem dX4_firstOf_16 : decode cX4_firstOf 16 = .ok (.iaload, 1) := by decide +kernel
theorem dX4_firstOf_17 : decode cX4_firstOf 17 = .ok (.iload_n 1, 1) := by decide +kernel
theorem dX4_firstOf_18 : decode cX4_firstOf 18 = .ok (.invokevirtual 243, 3) := by decide +kernel
theorem dX4_firstOf_21 : decode cX4_firstOf 21 = .ok (.ifCond .ne 10, 3) := by decide +kernel
theorem dX4_firstOf_24 : decode cX4_firstOf 24 = .ok (.aload_n 0, 1) := by decide +kernel
theorem dX4_firstOf_25 : decode cX4_firstOf 25 = .ok (.getfield 40, 3) := by decide +kernel
theorem dX4_firstOf_28 : decode cX4_firstOf 28 = .ok (.iload_n 2, 1) := by decide +kernel
theorem dX4_firstOf_29 : decode cX4_firstOf 29 = .ok (.iaload, 1) := by decide +kernel
theorem dX4_firstOf_30 : decode cX4_firstOf 30 = .ok (.ireturn, 1) := by decide +kernel
theorem dX4_firstOf_31 : decode cX4_firstOf 31 = .ok (.iinc 2 1, 3) := by decide +kernel
theorem dX4_firstOf_34 : decode cX4_firstOf 34 = .ok (.goto (-32), 3) := by decide +kernel
theorem dX4_firstOf_37 : decode cX4_firstOf 37 = .ok (.iconst (-1), 1) := by decide +kernel
theorem dX4_firstOf_38 : decode cX4_firstOf 38 = .ok (.ireturn, 1) := by decide +kernel
theorem dX4_cellCost_0 : decode cX4_cellCost 0 = .ok (.aload_n 0, 1) := by decide +kernel
theorem dX4_cellCost_1 : decode cX4_cellCost 1 = .ok (.getfield 27, 3) := by decide +kernel
theorem dX4_cellCost_4 : decode cX4_cellCost 4 = .ok (.iload_n 2, 1) := by decide +kernel
theorem dX4_cellCost_5 : decode cX4_cellCost 5 = .ok (.iaload, 1) := by decide +kernel
theorem dX4_cellCost_6 : decode cX4_cellCost 6 = .ok (.istore_n 3, 1) := by decide +kernel
theorem dX4_cellCost_7 : decode cX4_cellCost 7 = .ok (.iload_n 1, 1) := by decide +kernel
theorem dX4_cellCost_8 : decode cX4_cellCost 8 = .ok (.ifCond .ne 10, 3) := by decide +kernel
theorem dX4_cellCost_11 : decode cX4_cellCost 11 = .ok (.iconst 4, 1) := by decide +kernel
theorem dX4_cellCost_12 : decode cX4_cellCost 12 = .ok (.bipush 8, 2) := by decide +kernel
theorem dX4_cellCost_14 : decode cX4_cellCost 14 = .ok (.iload_n 3, 1) := by decide +kernel
theorem dX4_cellCost_15 : decode cX4_cellCost 15 = .ok (.imul, 1) := by decide +kernel
theorem dX4_cellCost_16 : decode cX4_cellCost 16 = .ok (.iadd, 1) := by decide +kernel
theorem dX4_cellCost_17 : decode cX4_cellCost 17 = .ok (.ireturn, 1) := by decide +kernel
theorem dX4_cellCost_18 : decode cX4_cellCost 18 = .ok (.iload_n 1, 1) := by decide +kernel
theorem dX4_cellCost_19 : decode cX4_cellCost 19 = .ok (.bipush 7, 2) := by decide +kernel
theorem dX4_cellCost_21 : decode cX4_cellCost 21 = .ok (.if_icmp .ge 5, 3) := by decide +kernel
theorem dX4_cellCost_24 : decode cX4_cellCost 24 = .ok (.iconst 1, 1) := by decide +kernel
theorem dX4_cellCost_25 : decode cX4_cellCost 25 = .ok (.ireturn, 1) := by decide +kernel
theorem dX4_cellCost_26 : decode cX4_cellCost 26 = .ok (.iload_n 1, 1) := by decide +kernel
theorem dX4_cellCost_27 : decode cX4_cellCost 27 = .ok (.bipush 22, 2) := by decide +kernel
theorem dX4_cellCost_29 : decode cX4_cellCost 29 = .ok (.if_icmp .ge 12, 3) := by decide +kernel
theorem dX4_cellCost_32 : decode cX4_cellCost 32 = .ok (.iconst 4, 1) := by decide +kernel
theorem dX4_cellCost_33 : decode cX4_cellCost 33 = .ok (.iconst 4, 1) := by decide +kernel
theorem dX4_cellCost_34 : decode cX4_cellCost 34 = .ok (.aload_n 0, 1) := by decide +kernel
theorem dX4_cellCost_35 : decode cX4_cellCost 35 = .ok (.getfield 183, 3) := by decide +kernel
theorem dX4_cellCost_38 : decode cX4_cellCost 38 = .ok (.imul, 1) := by decide +kernel
theorem dX4_cellCost_39 : decode cX4_cellCost 39 = .ok (.iadd, 1) := by decide +kernel
theorem dX4_cellCost_40 : decode cX4_cellCost 40 = .ok (.ireturn, 1) := by decide +kernel
theorem dX4_cellCost_41 : decode cX4_cellCost 41 = .ok (.iload_n 1, 1) := by decide +kernel
theorem dX4_cellCost_42 : decode cX4_cellCost 42 = .ok (.bipush 31, 2) := by decide +kernel
theorem dX4_cellCost_44 : decode cX4_cellCost 44 = .ok (.if_icmp .ge 6, 3) := by decide +kernel
theorem dX4_cellCost_47 : decode cX4_cellCost 47 = .ok (.bipush 16, 2) := by decide +kernel
theorem dX4_cellCost_49 : decode cX4_cellCost 49 = .ok (.ireturn, 1) := by decide +kernel
theorem dX4_cellCost_50 : decode cX4_cellCost 50 = .ok (.iconst 0, 1) := by decide +kernel
theorem dX4_cellCost_51 : decode cX4_cellCost 51 = .ok (.istore 4, 2) := by decide +kernel
theorem dX4_cellCost_53 : decode cX4_cellCost 53 = .ok (.iconst 0, 1) := by decide +kernel
theorem dX4_cellCost_54 : decode cX4_cellCost 54 = .ok (.istore 5, 2) := by decide +kernel
theorem dX4_cellCost_56 : decode cX4_cellCost 56 = .ok (.iload 5, 2) := by decide +kernel
theorem dX4_cellCost_58 : decode cX4_cellCost 58 = .ok (.iload_n 3, 1) := by decide +kernel
theorem dX4_cellCost_59 : decode cX4_cellCost 59 = .ok (.if_icmp .ge 47, 3) := by decide +kernel
theorem dX4_cellCost_62 : decode cX4_cellCost 62 = .ok (.aload_n 0, 1) := by decide +kernel
theorem dX4_cellCost_63 : decode cX4_cellCost 63 = .ok (.iload_n 2, 1) := by decide +kernel
theorem dX4_cellCost_64 : decode cX4_cellCost 64 = .ok (.iload 5, 2) := by decide +kernel
theorem dX4_cellCost_66 : decode cX4_cellCost 66 = .ok (.invokevirtual 137, 3) := by decide +kernel
theorem dX4_cellCost_69 : decode cX4_cellCost 69 = .ok (.invokestatic 215, 3) := by decide +kernel
theorem dX4_cellCost_72 : decode cX4_cellCost 72 = .ok (.istore 6, 2) := by decide +kernel
theorem dX4_cellCost_74 : decode cX4_cellCost 74 = .ok (.iload 4, 2) := by decide +kernel
theorem dX4_cellCost_76 : decode cX4_cellCost 76 = .ok (.iload 6, 2) := by decide +kernel
theorem dX4_cellCost_78 : decode cX4_cellCost 78 = .ok (.iconst 1, 1) := by decide +kernel
theorem dX4_cellCost_79 : decode cX4_cellCost 79 = .ok (.if_icmp .ne 7, 3) := by decide +kernel
theorem dX4_cellCost_82 : decode cX4_cellCost 82 = .ok (.iconst 4, 1) := by decide +kernel
theorem dX4_cellCost_83 : decode cX4_cellCost 83 = .ok (.goto 14, 3) := by decide +kernel
theorem dX4_cellCost_86 : decode cX4_cellCost 86 = .ok (.iload 6, 2) := by decide +kernel
theorem dX4_cellCost_88 : decode cX4_cellCost 88 = .ok (.iconst 4, 1) := by decide +kernel
theorem dX4_cellCost_89 : decode cX4_cellCost 89 = .ok (.if_icmp .ge 7, 3) := by decide +kernel
theorem dX4_cellCost_92 : decode cX4_cellCost 92 = .ok (.iconst 5, 1) := by decide +kernel
theorem dX4_cellCost_93 : decode cX4_cellCost 93 = .ok (.goto 4, 3) := by decide +kernel
theorem dX4_cellCost_96 : decode cX4_cellCost 96 = .ok (.iconst 0, 1) := by decide +kernel
theorem dX4_cellCost_97 : decode cX4_cellCost 97 = .ok (.iadd, 1) := by decide +kernel
theorem dX4_cellCost_98 : decode cX4_cellCost 98 = .ok (.istore 4, 2) := by decide +kernel
theorem dX4_cellCost_100 : decode cX4_cellCost 100 = .ok (.iinc 5 1, 3) := by decide +kernel
theorem dX4_cellCost_103 : decode cX4_cellCost 103 = .ok (.goto (-47), 3) := by decide +kernel
theorem dX4_cellCost_106 : decode cX4_cellCost 106 = .ok (.iload 4, 2) := by decide +kernel
theorem dX4_cellCost_108 : decode cX4_cellCost 108 = .ok (.ireturn, 1) := by decide +kernel
theorem dX4_topOf_0 : decode cX4_topOf 0 = .ok (.ldc2_w 246, 3) := by decide +kernel
theorem dX4_topOf_3 : decode cX4_topOf 3 = .ok (.lstore_n 1, 1) := by decide +kernel
theorem dX4_topOf_4 : decode cX4_topOf 4 = .ok (.iconst 0, 1) := by decide +kernel
theorem dX4_topOf_5 : decode cX4_topOf 5 = .ok (.istore_n 3, 1) := by decide +kernel
theorem dX4_topOf_6 : decode cX4_topOf 6 = .ok (.iload_n 3, 1) := by decide +kernel
theorem dX4_topOf_7 : decode cX4_topOf 7 = .ok (.iload_n 0, 1) := by decide +kernel
theorem dX4_topOf_8 : decode cX4_topOf 8 = .ok (.invokestatic 180, 3) := by decide +kernel
theorem dX4_topOf_11 : decode cX4_topOf 11 = .ok (.if_icmp .ge 15, 3) := by decide +kernel
theorem dX4_topOf_14 : decode cX4_topOf 14 = .ok (.lload_n 1, 1) := by decide +kernel
theorem dX4_topOf_15 : decode cX4_topOf 15 = .ok (.ldc2_w 198, 3) := by decide +kernel
theorem dX4_topOf_18 : decode cX4_topOf 18 = .ok (.lmul, 1) := by decide +kernel
theorem dX4_topOf_19 : decode cX4_topOf 19 = .ok (.lstore_n 1, 1) := by decide +kernel
theorem dX4_topOf_20 : decode cX4_topOf 20 = .ok (.iinc 3 1, 3) := by decide +kernel
theorem dX4_topOf_23 : decode cX4_topOf 23 = .ok (.goto (-17), 3) := by decide +kernel
theorem dX4_topOf_26 : decode cX4_topOf 26 = .ok (.lload_n 1, 1) := by decide +kernel
theorem dX4_topOf_27 : decode cX4_topOf 27 = .ok (.lreturn, 1) := by decide +kernel
theorem dX4_costBy_0 : decode cX4_costBy 0 = .ok (.aload_n 0, 1) := by decide +kernel
theorem dX4_costBy_1 : decode cX4_costBy 1 = .ok (.iload_n 2, 1) := by decide +kernel
theorem dX4_costBy_2 : decode cX4_costBy 2 = .ok (.invokevirtual 248, 3) := by decide +kernel
theorem dX4_costBy_5 : decode cX4_costBy 5 = .ok (.istore_n 3, 1) := by decide +kernel
theorem dX4_costBy_6 : decode cX4_costBy 6 = .ok (.iload_n 1, 1) := by decide +kernel
theorem dX4_costBy_7 : decode cX4_costBy 7 = .ok (.bipush 7, 2) := by decide +kernel
theorem dX4_costBy_9 : decode cX4_costBy 9 = .ok (.bipush 21, 2) := by decide +kernel
theorem dX4_costBy_11 : decode cX4_costBy 11 = .ok (.invokestatic 56, 3) := by decide +kernel
theorem dX4_costBy_14 : decode cX4_costBy 14 = .ok (.istore 4, 2) := by decide +kernel
theorem dX4_costBy_16 : decode cX4_costBy 16 = .ok (.iload_n 3, 1) := by decide +kernel
theorem dX4_costBy_17 : decode cX4_costBy 17 = .ok (.ifCond .lt 21, 3) := by decide +kernel
theorem dX4_costBy_20 : decode cX4_costBy 20 = .ok (.iload_n 1, 1) := by decide +kernel
theorem dX4_costBy_21 : decode cX4_costBy 21 = .ok (.ifCond .ne 7, 3) := by decide +kernel
theorem dX4_costBy_24 : decode cX4_costBy 24 = .ok (.iload_n 2, 1) := by decide +kernel
theorem dX4_costBy_25 : decode cX4_costBy 25 = .ok (.ifCond .gt 13, 3) := by decide +kernel
theorem dX4_costBy_28 : decode cX4_costBy 28 = .ok (.iload_n 2, 1) := by decide +kernel
theorem dX4_costBy_29 : decode cX4_costBy 29 = .ok (.iconst 4, 1) := by decide +kernel
theorem dX4_costBy_30 : decode cX4_costBy 30 = .ok (.if_icmp .ne 10, 3) := by decide +kernel
theorem dX4_costBy_33 : decode cX4_costBy 33 = .ok (.iload 4, 2) := by decide +kernel
theorem dX4_costBy_35 : decode cX4_costBy 35 = .ok (.ifCond .ne 5, 3) := by decide +kernel
theorem dX4_costBy_38 : decode cX4_costBy 38 = .ok (.iconst (-1), 1) := by decide +kernel
theorem dX4_costBy_39 : decode cX4_costBy 39 = .ok (.ireturn, 1) := by decide +kernel
theorem dX4_costBy_40 : decode cX4_costBy 40 = .ok (.iload_n 1, 1) := by decide +kernel
theorem dX4_costBy_41 : decode cX4_costBy 41 = .ok (.ifCond .ne 7, 3) := by decide +kernel
theorem dX4_costBy_44 : decode cX4_costBy 44 = .ok (.iconst 0, 1) := by decide +kernel
theorem dX4_costBy_45 : decode cX4_costBy 45 = .ok (.goto 47, 3) := by decide +kernel
theorem dX4_costBy_48 : decode cX4_costBy 48 = .ok (.iload_n 1, 1) := by decide +kernel
theorem dX4_costBy_49 : decode cX4_costBy 49 = .ok (.bipush 7, 2) := by decide +kernel
theorem dX4_costBy_51 : decode cX4_costBy 51 = .ok (.if_icmp .ge 8, 3) := by decide +kernel
theorem dX4_costBy_54 : decode cX4_costBy 54 = .ok (.bipush 12, 2) := by decide +kernel
theorem dX4_costBy_56 : decode cX4_costBy 56 = .ok (.goto 36, 3) := by decide +kernel
theorem dX4_costBy_59 : decode cX4_costBy 59 = .ok (.iload_n 1, 1) := by decide +kernel
theorem dX4_costBy_60 : decode cX4_costBy 60 = .ok (.bipush 22, 2) := by decide +kernel
theorem dX4_costBy_62 : decode cX4_costBy 62 = .ok (.if_icmp .ge 8, 3) := by decide +kernel
theorem dX4_costBy_65 : decode cX4_costBy 65 = .ok (.bipush 16, 2) := by decide +kernel
theorem dX4_costBy_67 : decode cX4_costBy 67 = .ok (.goto 25, 3) := by decide +kernel
theorem dX4_costBy_70 : decode cX4_costBy 70 = .ok (.iload_n 1, 1) := by decide +kernel
theorem dX4_costBy_71 : decode cX4_costBy 71 = .ok (.bipush 31, 2) := by decide +kernel
theorem dX4_costBy_73 : decode cX4_costBy 73 = .ok (.if_icmp .ge 8, 3) := by decide +kernel
theorem dX4_costBy_76 : decode cX4_costBy 76 = .ok (.bipush 20, 2) := by decide +kernel
theorem dX4_costBy_78 : decode cX4_costBy 78 = .ok (.goto 14, 3) := by decide +kernel
theorem dX4_costBy_81 : decode cX4_costBy 81 = .ok (.bipush 14, 2) := by decide +kernel
theorem dX4_costBy_83 : decode cX4_costBy 83 = .ok (.iconst 2, 1) := by decide +kernel
theorem dX4_costBy_84 : decode cX4_costBy 84 = .ok (.aload_n 0, 1) := by decide +kernel
theorem dX4_costBy_85 : decode cX4_costBy 85 = .ok (.getfield 27, 3) := by decide +kernel
theorem dX4_costBy_88 : decode cX4_costBy 88 = .ok (.iload_n 3, 1) := by decide +kernel
theorem dX4_costBy_89 : decode cX4_costBy 89 = .ok (.iaload, 1) := by decide +kernel
theorem dX4_costBy_90 : decode cX4_costBy 90 = .ok (.imul, 1) := by decide +kernel
theorem dX4_costBy_91 : decode cX4_costBy 91 = .ok (.iadd, 1) := by decide +kernel
theorem dX4_costBy_92 : decode cX4_costBy 92 = .ok (.istore 5, 2) := by decide +kernel
theorem dX4_costBy_94 : decode cX4_costBy 94 = .ok (.iconst 0, 1) := by decide +kernel
theorem dX4_costBy_95 : decode cX4_costBy 95 = .ok (.istore 6, 2) := by decide +kernel
theorem dX4_costBy_97 : decode cX4_costBy 97 = .ok (.iconst 0, 1) := by decide +kernel
theorem dX4_costBy_98 : decode cX4_costBy 98 = .ok (.istore 7, 2) := by decide +kernel
theorem dX4_costBy_100 : decode cX4_costBy 100 = .ok (.iload 7, 2) := by decide +kernel
theorem dX4_costBy_102 : decode cX4_costBy 102 = .ok (.aload_n 0, 1) := by decide +kernel
theorem dX4_costBy_103 : decode cX4_costBy 103 = .ok (.getfield 237, 3) := by decide +kernel
theorem dX4_costBy_106 : decode cX4_costBy 106 = .ok (.if_icmp .ge 85, 3) := by decide +kernel
theorem dX4_costBy_109 : decode cX4_costBy 109 = .ok (.aload_n 0, 1) := by decide +kernel
theorem dX4_costBy_110 : decode cX4_costBy 110 = .ok (.aload_n 0, 1) := by decide +kernel
theorem dX4_costBy_111 : decode cX4_costBy 111 = .ok (.getfield 40, 3) := by decide +kernel
theorem dX4_costBy_114 : decode cX4_costBy 114 = .ok (.iload 7, 2) := by decide +kernel
theorem dX4_costBy_116 : decode cX4_costBy 116 = .ok (.iaload, 1) := by decide +kernel
theorem dX4_costBy_117 : decode cX4_costBy 117 = .ok (.iload_n 2, 1) := by decide +kernel
theorem dX4_costBy_118 : decode cX4_costBy 118 = .ok (.invokevirtual 243, 3) := by decide +kernel
theorem dX4_costBy_121 : decode cX4_costBy 121 = .ok (.ifCond .eq 12, 3) := by decide +kernel
theorem dX4_costBy_124 : decode cX4_costBy 124 = .ok (.iinc 6 1, 3) := by decide +kernel
theorem dX4_costBy_127 : decode cX4_costBy 127 = .ok (.iinc 5 2, 3) := by decide +kernel
theorem dX4_costBy_130 : decode cX4_costBy 130 = .ok (.goto 55, 3) := by decide +kernel
theorem dX4_costBy_133 : decode cX4_costBy 133 = .ok (.aload_n 0, 1) := by decide +kernel
theorem dX4_costBy_134 : decode cX4_costBy 134 = .ok (.iload_n 1, 1) := by decide +kernel
theorem dX4_costBy_135 : decode cX4_costBy 135 = .ok (.aload_n 0, 1) := by decide +kernel
theorem dX4_costBy_136 : decode cX4_costBy 136 = .ok (.getfield 40, 3) := by decide +kernel
theorem dX4_costBy_139 : decode cX4_costBy 139 = .ok (.iload 7, 2) := by decide +kernel
theorem dX4_costBy_141 : decode cX4_costBy 141 = .ok (.iaload, 1) := by decide +kernel
theorem dX4_costBy_142 : decode cX4_costBy 142 = .ok (.iload_n 3, 1) := by decide +kernel
theorem dX4_costBy_143 : decode cX4_costBy 143 = .ok (.invokevirtual 251, 3) := by decide +kernel
theorem dX4_costBy_146 : decode cX4_costBy 146 = .ok (.ifCond .eq 20, 3) := by decide +kernel
theorem dX4_costBy_149 : decode cX4_costBy 149 = .ok (.iload_n 2, 1) := by decide +kernel
theorem dX4_costBy_150 : decode cX4_costBy 150 = .ok (.iconst 4, 1) := by decide +kernel
theorem dX4_costBy_151 : decode cX4_costBy 151 = .ok (.if_icmp .ne 17, 3) := by decide +kernel
theorem dX4_costBy_154 : decode cX4_costBy 154 = .ok (.aload_n 0, 1) := by decide +kernel
theorem dX4_costBy_155 : decode cX4_costBy 155 = .ok (.getfield 176, 3) := by decide +kernel
theorem dX4_costBy_158 : decode cX4_costBy 158 = .ok (.iload_n 1, 1) := by decide +kernel
theorem dX4_costBy_159 : decode cX4_costBy 159 = .ok (.invokestatic 254, 3) := by decide +kernel
theorem dX4_costBy_162 : decode cX4_costBy 162 = .ok (.lcmp, 1) := by decide +kernel
theorem dX4_costBy_163 : decode cX4_costBy 163 = .ok (.ifCond .lt 5, 3) := by decide +kernel
theorem dX4_costBy_166 : decode cX4_costBy 166 = .ok (.iconst (-1), 1) := by decide +kernel
theorem dX4_costBy_167 : decode cX4_costBy 167 = .ok (.ireturn, 1) := by decide +kernel
theorem dX4_costBy_168 : decode cX4_costBy 168 = .ok (.iload 5, 2) := by decide +kernel
theorem dX4_costBy_170 : decode cX4_costBy 170 = .ok (.aload_n 0, 1) := by decide +kernel
theorem dX4_costBy_171 : decode cX4_costBy 171 = .ok (.iload_n 1, 1) := by decide +kernel
theorem dX4_costBy_172 : decode cX4_costBy 172 = .ok (.aload_n 0, 1) := by decide +kernel
theorem dX4_costBy_173 : decode cX4_costBy 173 = .ok (.getfield 40, 3) := by decide +kernel
theorem dX4_costBy_176 : decode cX4_costBy 176 = .ok (.iload 7, 2) := by decide +kernel
theorem dX4_costBy_178 : decode cX4_costBy 178 = .ok (.iaload, 1) := by decide +kernel
theorem dX4_costBy_179 : decode cX4_costBy 179 = .ok (.invokevirtual 258, 3) := by decide +kernel
theorem dX4_costBy_182 : decode cX4_costBy 182 = .ok (.iadd, 1) := by decide +kernel
theorem dX4_costBy_183 : decode cX4_costBy 183 = .ok (.istore 5, 2) := by decide +kernel
theorem dX4_costBy_185 : decode cX4_costBy 185 = .ok (.iinc 7 1, 3) := by decide +kernel
theorem dX4_costBy_188 : decode cX4_costBy 188 = .ok (.goto (-88), 3) := by decide +kernel
theorem dX4_costBy_191 : decode cX4_costBy 191 = .ok (.iload_n 2, 1) := by decide +kernel
theorem dX4_costBy_192 : decode cX4_costBy 192 = .ok (.ifCond .le 10, 3) := by decide +kernel
theorem dX4_costBy_195 : decode cX4_costBy 195 = .ok (.iload 6, 2) := by decide +kernel
theorem dX4_costBy_197 : decode cX4_costBy 197 = .ok (.ifCond .ne 5, 3) := by decide +kernel
theorem dX4_costBy_200 : decode cX4_costBy 200 = .ok (.iconst (-1), 1) := by decide +kernel
theorem dX4_costBy_201 : decode cX4_costBy 201 = .ok (.ireturn, 1) := by decide +kernel
theorem dX4_costBy_202 : decode cX4_costBy 202 = .ok (.iload_n 2, 1) := by decide +kernel
theorem dX4_costBy_203 : decode cX4_costBy 203 = .ok (.ifCond .le 11, 3) := by decide +kernel
theorem dX4_costBy_206 : decode cX4_costBy 206 = .ok (.iload 5, 2) := by decide +kernel
theorem dX4_costBy_208 : decode cX4_costBy 208 = .ok (.bipush 6, 2) := by decide +kernel
theorem dX4_costBy_210 : decode cX4_costBy 210 = .ok (.iadd, 1) := by decide +kernel
theorem dX4_costBy_211 : decode cX4_costBy 211 = .ok (.goto 5, 3) := by decide +kernel
theorem dX4_costBy_214 : decode cX4_costBy 214 = .ok (.iload 5, 2) := by decide +kernel
theorem dX4_costBy_216 : decode cX4_costBy 216 = .ok (.ireturn, 1) := by decide +kernel
theorem dX4_judge_0 : decode cX4_judge 0 = .ok (.aload_n 0, 1) := by decide +kernel
theorem dX4_judge_1 : decode cX4_judge 1 = .ok (.iconst (-1), 1) := by decide +kernel
theorem dX4_judge_2 : decode cX4_judge 2 = .ok (.putfield 261, 3) := by decide +kernel
theorem dX4_judge_5 : decode cX4_judge 5 = .ok (.aload_n 0, 1) := by decide +kernel
theorem dX4_judge_6 : decode cX4_judge 6 = .ok (.iconst (-1), 1) := by decide +kernel
theorem dX4_judge_7 : decode cX4_judge 7 = .ok (.putfield 264, 3) := by decide +kernel
theorem dX4_judge_10 : decode cX4_judge 10 = .ok (.aload_n 0, 1) := by decide +kernel
theorem dX4_judge_11 : decode cX4_judge 11 = .ok (.iconst 0, 1) := by decide +kernel
theorem dX4_judge_12 : decode cX4_judge 12 = .ok (.putfield 267, 3) := by decide +kernel
theorem dX4_judge_15 : decode cX4_judge 15 = .ok (.iconst 0, 1) := by decide +kernel
theorem dX4_judge_16 : decode cX4_judge 16 = .ok (.istore_n 1, 1) := by decide +kernel
theorem dX4_judge_17 : decode cX4_judge 17 = .ok (.iload_n 1, 1) := by decide +kernel
theorem dX4_judge_18 : decode cX4_judge 18 = .ok (.bipush 32, 2) := by decide +kernel
theorem dX4_judge_20 : decode cX4_judge 20 = .ok (.if_icmp .ge 66, 3) := by decide +kernel
theorem dX4_judge_23 : decode cX4_judge 23 = .ok (.iconst 0, 1) := by decide +kernel
theorem dX4_judge_24 : decode cX4_judge 24 = .ok (.istore_n 2, 1) := by decide +kernel
theorem dX4_judge_25 : decode cX4_judge 25 = .ok (.iload_n 2, 1) := by decide +kernel
theorem dX4_judge_26 : decode cX4_judge 26 = .ok (.iconst 5, 1) := by decide +kernel
theorem dX4_judge_27 : decode cX4_judge 27 = .ok (.if_icmp .ge 53, 3) := by decide +kernel
theorem dX4_judge_30 : decode cX4_judge 30 = .ok (.aload_n 0, 1) := by decide +kernel
theorem dX4_judge_31 : decode cX4_judge 31 = .ok (.iload_n 1, 1) := by decide +kernel
theorem dX4_judge_32 : decode cX4_judge 32 = .ok (.iload_n 2, 1) := by decide +kernel
theorem dX4_judge_33 : decode cX4_judge 33 = .ok (.invokevirtual 270, 3) := by decide +kernel
theorem dX4_judge_36 : decode cX4_judge 36 = .ok (.istore_n 3, 1) := by decide +kernel
theorem dX4_judge_37 : decode cX4_judge 37 = .ok (.iload_n 3, 1) := by decide +kernel
theorem dX4_judge_38 : decode cX4_judge 38 = .ok (.ifCond .lt 36, 3) := by decide +kernel
theorem dX4_judge_41 : decode cX4_judge 41 = .ok (.aload_n 0, 1) := by decide +kernel
theorem dX4_judge_42 : decode cX4_judge 42 = .ok (.getfield 261, 3) := by decide +kernel
theorem dX4_judge_45 : decode cX4_judge 45 = .ok (.ifCond .lt 14, 3) := by decide +kernel
theorem dX4_judge_48 : decode cX4_judge 48 = .ok (.iload_n 3, 1) := by decide +kernel
theorem dX4_judge_49 : decode cX4_judge 49 = .ok (.aload_n 0, 1) := by decide +kernel
theorem dX4_judge_50 : decode cX4_judge 50 = .ok (.getfield 267, 3) := by decide +kernel
theorem dX4_judge_53 : decode cX4_judge 53 = .ok (.if_icmp .lt 6, 3) := by decide +kernel
theorem dX4_judge_56 : decode cX4_judge 56 = .ok (.goto 18, 3) := by decide +kernel
theorem dX4_judge_59 : decode cX4_judge 59 = .ok (.aload_n 0, 1) := by decide +kernel
theorem dX4_judge_60 : decode cX4_judge 60 = .ok (.iload_n 1, 1) := by decide +kernel
theorem dX4_judge_61 : decode cX4_judge 61 = .ok (.putfield 261, 3) := by decide +kernel
theorem dX4_judge_64 : decode cX4_judge 64 = .ok (.aload_n 0, 1) := by decide +kernel
theorem dX4_judge_65 : decode cX4_judge 65 = .ok (.iload_n 2, 1) := by decide +kernel
theorem dX4_judge_66 : decode cX4_judge 66 = .ok (.putfield 264, 3) := by decide +kernel
theorem dX4_judge_69 : decode cX4_judge 69 = .ok (.aload_n 0, 1) := by decide +kernel
theorem dX4_judge_70 : decode cX4_judge 70 = .ok (.iload_n 3, 1) := by decide +kernel
theorem dX4_judge_71 : decode cX4_judge 71 = .ok (.putfield 267, 3) := by decide +kernel
theorem dX4_judge_74 : decode cX4_judge 74 = .ok (.iinc 2 1, 3) := by decide +kernel
theorem dX4_judge_77 : decode cX4_judge 77 = .ok (.goto (-52), 3) := by decide +kernel
theorem dX4_judge_80 : decode cX4_judge 80 = .ok (.iinc 1 1, 3) := by decide +kernel
theorem dX4_judge_83 : decode cX4_judge 83 = .ok (.goto (-66), 3) := by decide +kernel
theorem dX4_judge_86 : decode cX4_judge 86 = .ok (.return_, 1) := by decide +kernel
theorem dX4_cost_0 : decode cX4_cost 0 = .ok (.iload_n 1, 1) := by decide +kernel
theorem dX4_cost_1 : decode cX4_cost 1 = .ok (.invokestatic 126, 3) := by decide +kernel
theorem dX4_cost_4 : decode cX4_cost 4 = .ok (.ifCond .ne 5, 3) := by decide +kernel
theorem dX4_cost_7 : decode cX4_cost 7 = .ok (.iconst (-1), 1) := by decide +kernel
theorem dX4_cost_8 : decode cX4_cost 8 = .ok (.ireturn, 1) := by decide +kernel
theorem dX4_cost_9 : decode cX4_cost 9 = .ok (.aload_n 0, 1) := by decide +kernel
theorem dX4_cost_10 : decode cX4_cost 10 = .ok (.getfield 33, 3) := by decide +kernel
theorem dX4_cost_13 : decode cX4_cost 13 = .ok (.iload_n 1, 1) := by decide +kernel
theorem dX4_cost_14 : decode cX4_cost 14 = .ok (.baload, 1) := by decide +kernel
theorem dX4_cost_15 : decode cX4_cost 15 = .ok (.ifCond .eq 10, 3) := by decide +kernel
theorem dX4_cost_18 : decode cX4_cost 18 = .ok (.aload_n 0, 1) := by decide +kernel
theorem dX4_cost_19 : decode cX4_cost 19 = .ok (.getfield 37, 3) := by decide +kernel
theorem dX4_cost_22 : decode cX4_cost 22 = .ok (.iload_n 1, 1) := by decide +kernel
theorem dX4_cost_23 : decode cX4_cost 23 = .ok (.iaload, 1) := by decide +kernel
theorem dX4_cost_24 : decode cX4_cost 24 = .ok (.ireturn, 1) := by decide +kernel
theorem dX4_cost_25 : decode cX4_cost 25 = .ok (.aload_n 0, 1) := by decide +kernel
theorem dX4_cost_26 : decode cX4_cost 26 = .ok (.iload_n 1, 1) := by decide +kernel
theorem dX4_cost_27 : decode cX4_cost 27 = .ok (.invokevirtual 129, 3) := by decide +kernel
theorem dX4_cost_30 : decode cX4_cost 30 = .ok (.iconst (-1), 1) := by decide +kernel
theorem dX4_cost_31 : decode cX4_cost 31 = .ok (.istore_n 2, 1) := by decide +kernel
theorem dX4_cost_32 : decode cX4_cost 32 = .ok (.aload_n 0, 1) := by decide +kernel
theorem dX4_cost_33 : decode cX4_cost 33 = .ok (.getfield 69, 3) := by decide +kernel
theorem dX4_cost_36 : decode cX4_cost 36 = .ok (.ifCond .ne 73, 3) := by decide +kernel
theorem dX4_cost_39 : decode cX4_cost 39 = .ok (.iload_n 1, 1) := by decide +kernel
theorem dX4_cost_40 : decode cX4_cost 40 = .ok (.invokestatic 112, 3) := by decide +kernel
theorem dX4_cost_43 : decode cX4_cost 43 = .ok (.ifCond .ge 7, 3) := by decide +kernel
theorem dX4_cost_46 : decode cX4_cost 46 = .ok (.iconst 0, 1) := by decide +kernel
theorem dX4_cost_47 : decode cX4_cost 47 = .ok (.goto 4, 3) := by decide +kernel
theorem dX4_cost_50 : decode cX4_cost 50 = .ok (.iconst 3, 1) := by decide +kernel
theorem dX4_cost_51 : decode cX4_cost 51 = .ok (.istore_n 2, 1) := by decide +kernel
theorem dX4_cost_52 : decode cX4_cost 52 = .ok (.iconst 0, 1) := by decide +kernel
theorem dX4_cost_53 : decode cX4_cost 53 = .ok (.istore_n 3, 1) := by decide +kernel
theorem dX4_cost_54 : decode cX4_cost 54 = .ok (.iload_n 3, 1) := by decide +kernel
theorem dX4_cost_55 : decode cX4_cost 55 = .ok (.aload_n 0, 1) := by decide +kernel
theorem dX4_cost_56 : decode cX4_cost 56 = .ok (.invokevirtual 122, 3) := by decide +kernel
theorem dX4_cost_59 : decode cX4_cost 59 = .ok (.if_icmp .ge 25, 3) := by decide +kernel
theorem dX4_cost_62 : decode cX4_cost 62 = .ok (.aload_n 0, 1) := by decide +kernel
theorem dX4_cost_63 : decode cX4_cost 63 = .ok (.iload_n 3, 1) := by decide +kernel
theorem dX4_cost_64 : decode cX4_cost 64 = .ok (.invokevirtual 273, 3) := by decide +kernel
theorem dX4_cost_67 : decode cX4_cost 67 = .ok (.aload_n 0, 1) := by decide +kernel
theorem dX4_cost_68 : decode cX4_cost 68 = .ok (.invokevirtual 276, 3) := by decide +kernel
theorem dX4_cost_71 : decode cX4_cost 71 = .ok (.iload_n 2, 1) := by decide +kernel
theorem dX4_cost_72 : decode cX4_cost 72 = .ok (.aload_n 0, 1) := by decide +kernel
theorem dX4_cost_73 : decode cX4_cost 73 = .ok (.getfield 267, 3) := by decide +kernel
theorem dX4_cost_76 : decode cX4_cost 76 = .ok (.iadd, 1) := by decide +kernel
theorem dX4_cost_77 : decode cX4_cost 77 = .ok (.istore_n 2, 1) := by decide +kernel
theorem dX4_cost_78 : decode cX4_cost 78 = .ok (.iinc 3 1, 3) := by decide +kernel
theorem dX4_cost_81 : decode cX4_cost 81 = .ok (.goto (-27), 3) := by decide +kernel
theorem dX4_cost_84 : decode cX4_cost 84 = .ok (.iconst 0, 1) := by decide +kernel
theorem dX4_cost_85 : decode cX4_cost 85 = .ok (.istore_n 3, 1) := by decide +kernel
theorem dX4_cost_86 : decode cX4_cost 86 = .ok (.iload_n 3, 1) := by decide +kernel
theorem dX4_cost_87 : decode cX4_cost 87 = .ok (.aload_n 0, 1) := by decide +kernel
theorem dX4_cost_88 : decode cX4_cost 88 = .ok (.getfield 92, 3) := by decide +kernel
theorem dX4_cost_91 : decode cX4_cost 91 = .ok (.if_icmp .ge 18, 3) := by decide +kernel
theorem dX4_cost_94 : decode cX4_cost 94 = .ok (.iload_n 2, 1) := by decide +kernel
theorem dX4_cost_95 : decode cX4_cost 95 = .ok (.aload_n 0, 1) := by decide +kernel
theorem dX4_cost_96 : decode cX4_cost 96 = .ok (.iload_n 3, 1) := by decide +kernel
theorem dX4_cost_97 : decode cX4_cost 97 = .ok (.iload_n 1, 1) := by decide +kernel
theorem dX4_cost_98 : decode cX4_cost 98 = .ok (.invokevirtual 279, 3) := by decide +kernel
theorem dX4_cost_101 : decode cX4_cost 101 = .ok (.iadd, 1) := by decide +kernel
theorem dX4_cost_102 : decode cX4_cost 102 = .ok (.istore_n 2, 1) := by decide +kernel
theorem dX4_cost_103 : decode cX4_cost 103 = .ok (.iinc 3 1, 3) := by decide +kernel
theorem dX4_cost_106 : decode cX4_cost 106 = .ok (.goto (-20), 3) := by decide +kernel
theorem dX4_cost_109 : decode cX4_cost 109 = .ok (.aload_n 0, 1) := by decide +kernel
theorem dX4_cost_110 : decode cX4_cost 110 = .ok (.getfield 33, 3) := by decide +kernel
theorem dX4_cost_113 : decode cX4_cost 113 = .ok (.iload_n 1, 1) := by decide +kernel
theorem dX4_cost_114 : decode cX4_cost 114 = .ok (.iconst 1, 1) := by decide +kernel
theorem dX4_cost_115 : decode cX4_cost 115 = .ok (.bastore, 1) := by decide +kernel
theorem dX4_cost_116 : decode cX4_cost 116 = .ok (.aload_n 0, 1) := by decide +kernel
theorem dX4_cost_117 : decode cX4_cost 117 = .ok (.getfield 37, 3) := by decide +kernel
theorem dX4_cost_120 : decode cX4_cost 120 = .ok (.iload_n 1, 1) := by decide +kernel
theorem dX4_cost_121 : decode cX4_cost 121 = .ok (.iload_n 2, 1) := by decide +kernel
theorem dX4_cost_122 : decode cX4_cost 122 = .ok (.iastore, 1) := by decide +kernel
theorem dX4_cost_123 : decode cX4_cost 123 = .ok (.iload_n 2, 1) := by decide +kernel
theorem dX4_cost_124 : decode cX4_cost 124 = .ok (.ireturn, 1) := by decide +kernel
theorem dX4_rowCost_0 : decode cX4_rowCost 0 = .ok (.iload_n 1, 1) := by decide +kernel
theorem dX4_rowCost_1 : decode cX4_rowCost 1 = .ok (.ifCond .ne 14, 3) := by decide +kernel
theorem dX4_rowCost_4 : decode cX4_rowCost 4 = .ok (.iload_n 2, 1) := by decide +kernel
theorem dX4_rowCost_5 : decode cX4_rowCost 5 = .ok (.invokestatic 102, 3) := by decide +kernel
theorem dX4_rowCost_8 : decode cX4_rowCost 8 = .ok (.ifCond .eq 7, 3) := by decide +kernel
theorem dX4_rowCost_11 : decode cX4_rowCost 11 = .ok (.iconst 1, 1) := by decide +kernel
theorem dX4_rowCost_12 : decode cX4_rowCost 12 = .ok (.goto 4, 3) := by decide +kernel
theorem dX4_rowCost_15 : decode cX4_rowCost 15 = .ok (.iconst 0, 1) := by decide +kernel
theorem dX4_rowCost_16 : decode cX4_rowCost 16 = .ok (.istore_n 3, 1) := by decide +kernel
theorem dX4_rowCost_17 : decode cX4_rowCost 17 = .ok (.iload_n 3, 1) := by decide +kernel
theorem dX4_rowCost_18 : decode cX4_rowCost 18 = .ok (.ifCond .ne 13, 3) := by decide +kernel
theorem dX4_rowCost_21 : decode cX4_rowCost 21 = .ok (.aload_n 0, 1) := by decide +kernel
theorem dX4_rowCost_22 : decode cX4_rowCost 22 = .ok (.iload_n 1, 1) := by decide +kernel
theorem dX4_rowCost_23 : decode cX4_rowCost 23 = .ok (.invokevirtual 106, 3) := by decide +kernel
theorem dX4_rowCost_26 : decode cX4_rowCost 26 = .ok (.ifCond .ne 5, 3) := by decide +kernel
theorem dX4_rowCost_29 : decode cX4_rowCost 29 = .ok (.iconst 0, 1) := by decide +kernel
theorem dX4_rowCost_30 : decode cX4_rowCost 30 = .ok (.ireturn, 1) := by decide +kernel
theorem dX4_rowCost_31 : decode cX4_rowCost 31 = .ok (.iload_n 3, 1) := by decide +kernel
theorem dX4_rowCost_32 : decode cX4_rowCost 32 = .ok (.ifCond .eq 7, 3) := by decide +kernel
theorem dX4_rowCost_35 : decode cX4_rowCost 35 = .ok (.iconst 0, 1) := by decide +kernel
theorem dX4_rowCost_36 : decode cX4_rowCost 36 = .ok (.goto 5, 3) := by decide +kernel
theorem dX4_rowCost_39 : decode cX4_rowCost 39 = .ok (.bipush 30, 2) := by decide +kernel
theorem dX4_rowCost_41 : decode cX4_rowCost 41 = .ok (.istore 4, 2) := by decide +kernel
theorem dX4_rowCost_43 : decode cX4_rowCost 43 = .ok (.aload_n 0, 1) := by decide +kernel
theorem dX4_rowCost_44 : decode cX4_rowCost 44 = .ok (.getfield 20, 3) := by decide +kernel
theorem dX4_rowCost_47 : decode cX4_rowCost 47 = .ok (.iload_n 1, 1) := by decide +kernel
theorem dX4_rowCost_48 : decode cX4_rowCost 48 = .ok (.iaload, 1) := by decide +kernel
theorem dX4_rowCost_49 : decode cX4_rowCost 49 = .ok (.istore 5, 2) := by decide +kernel
theorem dX4_rowCost_51 : decode cX4_rowCost 51 = .ok (.iload 5, 2) := by decide +kernel
theorem dX4_rowCost_53 : decode cX4_rowCost 53 = .ok (.aload_n 0, 1) := by decide +kernel
theorem dX4_rowCost_54 : decode cX4_rowCost 54 = .ok (.getfield 20, 3) := by decide +kernel
theorem dX4_rowCost_57 : decode cX4_rowCost 57 = .ok (.iload_n 1, 1) := by decide +kernel
theorem dX4_rowCost_58 : decode cX4_rowCost 58 = .ok (.iconst 1, 1) := by decide +kernel
theorem dX4_rowCost_59 : decode cX4_rowCost 59 = .ok (.iadd, 1) := by decide +kernel
theorem dX4_rowCost_60 : decode cX4_rowCost 60 = .ok (.iaload, 1) := by decide +kernel
theorem dX4_rowCost_61 : decode cX4_rowCost 61 = .ok (.if_icmp .ge 34, 3) := by decide +kernel
theorem dX4_rowCost_64 : decode cX4_rowCost 64 = .ok (.iload 4, 2) := by decide +kernel
theorem dX4_rowCost_66 : decode cX4_rowCost 66 = .ok (.iload_n 3, 1) := by decide +kernel
theorem dX4_rowCost_67 : decode cX4_rowCost 67 = .ok (.ifCond .eq 7, 3) := by decide +kernel
theorem dX4_rowCost_70 : decode cX4_rowCost 70 = .ok (.iconst 4, 1) := by decide +kernel
theorem dX4_rowCost_71 : decode cX4_rowCost 71 = .ok (.goto 4, 3) := by decide +kernel
theorem dX4_rowCost_74 : decode cX4_rowCost 74 = .ok (.iconst 0, 1) := by decide +kernel
theorem dX4_rowCost_75 : decode cX4_rowCost 75 = .ok (.bipush 8, 2) := by decide +kernel
theorem dX4_rowCost_77 : decode cX4_rowCost 77 = .ok (.aload_n 0, 1) := by decide +kernel
theorem dX4_rowCost_78 : decode cX4_rowCost 78 = .ok (.getfield 27, 3) := by decide +kernel
theorem dX4_rowCost_81 : decode cX4_rowCost 81 = .ok (.iload 5, 2) := by decide +kernel
theorem dX4_rowCost_83 : decode cX4_rowCost 83 = .ok (.iaload, 1) := by decide +kernel
theorem dX4_rowCost_84 : decode cX4_rowCost 84 = .ok (.imul, 1) := by decide +kernel
theorem dX4_rowCost_85 : decode cX4_rowCost 85 = .ok (.iadd, 1) := by decide +kernel
theorem dX4_rowCost_86 : decode cX4_rowCost 86 = .ok (.iadd, 1) := by decide +kernel
theorem dX4_rowCost_87 : decode cX4_rowCost 87 = .ok (.istore 4, 2) := by decide +kernel
theorem dX4_rowCost_89 : decode cX4_rowCost 89 = .ok (.iinc 5 1, 3) := by decide +kernel
theorem dX4_rowCost_92 : decode cX4_rowCost 92 = .ok (.goto (-41), 3) := by decide +kernel
theorem dX4_rowCost_95 : decode cX4_rowCost 95 = .ok (.iload 4, 2) := by decide +kernel
theorem dX4_rowCost_97 : decode cX4_rowCost 97 = .ok (.ireturn, 1) := by decide +kernel
theorem dX4_best_0 : decode cX4_best 0 = .ok (.iconst (-1), 1) := by decide +kernel
theorem dX4_best_1 : decode cX4_best 1 = .ok (.istore_n 1, 1) := by decide +kernel
theorem dX4_best_2 : decode cX4_best 2 = .ok (.iconst 0, 1) := by decide +kernel
theorem dX4_best_3 : decode cX4_best 3 = .ok (.istore_n 2, 1) := by decide +kernel
theorem dX4_best_4 : decode cX4_best 4 = .ok (.iload_n 2, 1) := by decide +kernel
theorem dX4_best_5 : decode cX4_best 5 = .ok (.bipush 24, 2) := by decide +kernel
theorem dX4_best_7 : decode cX4_best 7 = .ok (.if_icmp .ge 36, 3) := by decide +kernel
theorem dX4_best_10 : decode cX4_best 10 = .ok (.aload_n 0, 1) := by decide +kernel
theorem dX4_best_11 : decode cX4_best 11 = .ok (.iload_n 2, 1) := by decide +kernel
theorem dX4_best_12 : decode cX4_best 12 = .ok (.invokevirtual 282, 3) := by decide +kernel
theorem dX4_best_15 : decode cX4_best 15 = .ok (.ifCond .lt 22, 3) := by decide +kernel
theorem dX4_best_18 : decode cX4_best 18 = .ok (.iload_n 1, 1) := by decide +kernel
theorem dX4_best_19 : decode cX4_best 19 = .ok (.ifCond .lt 16, 3) := by decide +kernel
theorem dX4_best_22 : decode cX4_best 22 = .ok (.aload_n 0, 1) := by decide +kernel
theorem dX4_best_23 : decode cX4_best 23 = .ok (.iload_n 2, 1) := by decide +kernel
theorem dX4_best_24 : decode cX4_best 24 = .ok (.invokevirtual 282, 3) := by decide +kernel
theorem dX4_best_27 : decode cX4_best 27 = .ok (.aload_n 0, 1) := by decide +kernel
theorem dX4_best_28 : decode cX4_best 28 = .ok (.iload_n 1, 1) := by decide +kernel
theorem dX4_best_29 : decode cX4_best 29 = .ok (.invokevirtual 282, 3) := by decide +kernel
theorem dX4_best_32 : decode cX4_best 32 = .ok (.if_icmp .ge 5, 3) := by decide +kernel
theorem dX4_best_35 : decode cX4_best 35 = .ok (.iload_n 2, 1) := by decide +kernel
theorem dX4_best_36 : decode cX4_best 36 = .ok (.istore_n 1, 1) := by decide +kernel
theorem dX4_best_37 : decode cX4_best 37 = .ok (.iinc 2 1, 3) := by decide +kernel
theorem dX4_best_40 : decode cX4_best 40 = .ok (.goto (-36), 3) := by decide +kernel
theorem dX4_best_43 : decode cX4_best 43 = .ok (.iload_n 1, 1) := by decide +kernel
theorem dX4_best_44 : decode cX4_best 44 = .ok (.ireturn, 1) := by decide +kernel
theorem dX4_use_0 : decode cX4_use 0 = .ok (.iload_n 1, 1) := by decide +kernel
theorem dX4_use_1 : decode cX4_use 1 = .ok (.invokestatic 126, 3) := by decide +kernel
theorem dX4_use_4 : decode cX4_use 4 = .ok (.ifCond .ne 5, 3) := by decide +kernel
theorem dX4_use_7 : decode cX4_use 7 = .ok (.iconst 0, 1) := by decide +kernel
theorem dX4_use_8 : decode cX4_use 8 = .ok (.ireturn, 1) := by decide +kernel
theorem dX4_use_9 : decode cX4_use 9 = .ok (.aload_n 0, 1) := by decide +kernel
theorem dX4_use_10 : decode cX4_use 10 = .ok (.iload_n 1, 1) := by decide +kernel
theorem dX4_use_11 : decode cX4_use 11 = .ok (.putfield 66, 3) := by decide +kernel
theorem dX4_use_14 : decode cX4_use 14 = .ok (.iconst 1, 1) := by decide +kernel
theorem dX4_use_15 : decode cX4_use 15 = .ok (.ireturn, 1) := by decide +kernel
theorem dX4_about_0 : decode cX4_about 0 = .ok (.aload_n 0, 1) := by decide +kernel
theorem dX4_about_1 : decode cX4_about 1 = .ok (.aload_n 0, 1) := by decide +kernel
theorem dX4_about_2 : decode cX4_about 2 = .ok (.getfield 66, 3) := by decide +kernel
theorem dX4_about_5 : decode cX4_about 5 = .ok (.invokevirtual 129, 3) := by decide +kernel
theorem dX4_about_8 : decode cX4_about 8 = .ok (.iload_n 1, 1) := by decide +kernel
theorem dX4_about_9 : decode cX4_about 9 = .ok (.tableswitch 69 0 5 #[39, 44, 49, 54, 59, 64], 39) := by decide +kernel
theorem dX4_about_48 : decode cX4_about 48 = .ok (.aload_n 0, 1) := by decide +kernel
theorem dX4_about_49 : decode cX4_about 49 = .ok (.getfield 92, 3) := by decide +kernel
theorem dX4_about_52 : decode cX4_about 52 = .ok (.ireturn, 1) := by decide +kernel
theorem dX4_about_53 : decode cX4_about 53 = .ok (.aload_n 0, 1) := by decide +kernel
theorem dX4_about_54 : decode cX4_about 54 = .ok (.invokevirtual 122, 3) := by decide +kernel
theorem dX4_about_57 : decode cX4_about 57 = .ok (.ireturn, 1) := by decide +kernel
theorem dX4_about_58 : decode cX4_about 58 = .ok (.aload_n 0, 1) := by decide +kernel
theorem dX4_about_59 : decode cX4_about 59 = .ok (.getfield 95, 3) := by decide +kernel
theorem dX4_about_62 : decode cX4_about 62 = .ok (.ireturn, 1) := by decide +kernel
theorem dX4_about_63 : decode cX4_about 63 = .ok (.aload_n 0, 1) := by decide +kernel
theorem dX4_about_64 : decode cX4_about 64 = .ok (.getfield 66, 3) := by decide +kernel
theorem dX4_about_67 : decode cX4_about 67 = .ok (.ireturn, 1) := by decide +kernel
theorem dX4_about_68 : decode cX4_about 68 = .ok (.aload_n 0, 1) := by decide +kernel
theorem dX4_about_69 : decode cX4_about 69 = .ok (.getfield 60, 3) := by decide +kernel
theorem dX4_about_72 : decode cX4_about 72 = .ok (.ireturn, 1) := by decide +kernel
theorem dX4_about_73 : decode cX4_about 73 = .ok (.aload_n 0, 1) := by decide +kernel
theorem dX4_about_74 : decode cX4_about 74 = .ok (.getfield 49, 3) := by decide +kernel
theorem dX4_about_77 : decode cX4_about 77 = .ok (.ireturn, 1) := by decide +kernel
theorem dX4_about_78 : decode cX4_about 78 = .ok (.iconst (-1), 1) := by decide +kernel
theorem dX4_about_79 : decode cX4_about 79 = .ok (.ireturn, 1) := by decide +kernel
theorem dX4_odd_0 : decode cX4_odd 0 = .ok (.aload_n 0, 1) := by decide +kernel
theorem dX4_odd_1 : decode cX4_odd 1 = .ok (.aload_n 0, 1) := by decide +kernel
theorem dX4_odd_2 : decode cX4_odd 2 = .ok (.getfield 66, 3) := by decide +kernel
theorem dX4_odd_5 : decode cX4_odd 5 = .ok (.invokevirtual 129, 3) := by decide +kernel
theorem dX4_odd_8 : decode cX4_odd 8 = .ok (.iconst 0, 1) := by decide +kernel
theorem dX4_odd_9 : decode cX4_odd 9 = .ok (.istore_n 2, 1) := by decide +kernel
theorem dX4_odd_10 : decode cX4_odd 10 = .ok (.iconst 0, 1) := by decide +kernel
theorem dX4_odd_11 : decode cX4_odd 11 = .ok (.istore_n 3, 1) := by decide +kernel
theorem dX4_odd_12 : decode cX4_odd 12 = .ok (.iload_n 3, 1) := by decide +kernel
theorem dX4_odd_13 : decode cX4_odd 13 = .ok (.aload_n 0, 1) := by decide +kernel
theorem dX4_odd_14 : decode cX4_odd 14 = .ok (.getfield 92, 3) := by decide +kernel
theorem dX4_odd_17 : decode cX4_odd 17 = .ok (.if_icmp .ge 34, 3) := by decide +kernel
theorem dX4_odd_20 : decode cX4_odd 20 = .ok (.iload_n 1, 1) := by decide +kernel
theorem dX4_odd_21 : decode cX4_odd 21 = .ok (.ifCond .lt 30, 3) := by decide +kernel
theorem dX4_odd_24 : decode cX4_odd 24 = .ok (.aload_n 0, 1) := by decide +kernel
theorem dX4_odd_25 : decode cX4_odd 25 = .ok (.iload_n 3, 1) := by decide +kernel
theorem dX4_odd_26 : decode cX4_odd 26 = .ok (.invokevirtual 106, 3) := by decide +kernel
theorem dX4_odd_29 : decode cX4_odd 29 = .ok (.ifCond .ne 6, 3) := by decide +kernel
theorem dX4_odd_32 : decode cX4_odd 32 = .ok (.goto 13, 3) := by decide +kernel
theorem dX4_odd_35 : decode cX4_odd 35 = .ok (.iload_n 2, 1) := by decide +kernel
theorem dX4_odd_36 : decode cX4_odd 36 = .ok (.iload_n 1, 1) := by decide +kernel
theorem dX4_odd_37 : decode cX4_odd 37 = .ok (.if_icmp .ne 5, 3) := by decide +kernel
theorem dX4_odd_40 : decode cX4_odd 40 = .ok (.iload_n 3, 1) := by decide +kernel
theorem dX4_odd_41 : decode cX4_odd 41 = .ok (.ireturn, 1) := by decide +kernel
theorem dX4_odd_42 : decode cX4_odd 42 = .ok (.iinc 2 1, 3) := by decide +kernel
theorem dX4_odd_45 : decode cX4_odd 45 = .ok (.iinc 3 1, 3) := by decide +kernel
theorem dX4_odd_48 : decode cX4_odd 48 = .ok (.goto (-36), 3) := by decide +kernel
theorem dX4_odd_51 : decode cX4_odd 51 = .ok (.iconst (-1), 1) := by decide +kernel
theorem dX4_odd_52 : decode cX4_odd 52 = .ok (.ireturn, 1) := by decide +kernel
theorem dX4_breadth_0 : decode cX4_breadth 0 = .ok (.aload_n 0, 1) := by decide +kernel
theorem dX4_breadth_1 : decode cX4_breadth 1 = .ok (.aload_n 0, 1) := by decide +kernel
theorem dX4_breadth_2 : decode cX4_breadth 2 = .ok (.getfield 66, 3) := by decide +kernel
theorem dX4_breadth_5 : decode cX4_breadth 5 = .ok (.invokevirtual 129, 3) := by decide +kernel
theorem dX4_breadth_8 : decode cX4_breadth 8 = .ok (.aload_n 0, 1) := by decide +kernel
theorem dX4_breadth_9 : decode cX4_breadth 9 = .ok (.iload_n 1, 1) := by decide +kernel
theorem dX4_breadth_10 : decode cX4_breadth 10 = .ok (.invokevirtual 285, 3) := by decide +kernel
theorem dX4_breadth_13 : decode cX4_breadth 13 = .ok (.ifCond .eq 11, 3) := by decide +kernel
theorem dX4_breadth_16 : decode cX4_breadth 16 = .ok (.aload_n 0, 1) := by decide +kernel
theorem dX4_breadth_17 : decode cX4_breadth 17 = .ok (.iload_n 1, 1) := by decide +kernel
theorem dX4_breadth_18 : decode cX4_breadth 18 = .ok (.invokevirtual 119, 3) := by decide +kernel
theorem dX4_breadth_21 : decode cX4_breadth 21 = .ok (.goto 4, 3) := by decide +kernel
theorem dX4_breadth_24 : decode cX4_breadth 24 = .ok (.iconst (-1), 1) := by decide +kernel
theorem dX4_breadth_25 : decode cX4_breadth 25 = .ok (.ireturn, 1) := by decide +kernel
theorem dX4_cellAt_0 : decode cX4_cellAt 0 = .ok (.aload_n 0, 1) := by decide +kernel
theorem dX4_cellAt_1 : decode cX4_cellAt 1 = .ok (.aload_n 0, 1) := by decide +kernel
theorem dX4_cellAt_2 : decode cX4_cellAt 2 = .ok (.getfield 66, 3) := by decide +kernel
theorem dX4_cellAt_5 : decode cX4_cellAt 5 = .ok (.invokevirtual 129, 3) := by decide +kernel
theorem dX4_cellAt_8 : decode cX4_cellAt 8 = .ok (.aload_n 0, 1) := by decide +kernel
theorem dX4_cellAt_9 : decode cX4_cellAt 9 = .ok (.iload_n 1, 1) := by decide +kernel
theorem dX4_cellAt_10 : decode cX4_cellAt 10 = .ok (.invokevirtual 285, 3) := by decide +kernel
theorem dX4_cellAt_13 : decode cX4_cellAt 13 = .ok (.ifCond .eq 29, 3) := by decide +kernel
theorem dX4_cellAt_16 : decode cX4_cellAt 16 = .ok (.iload_n 2, 1) := by decide +kernel
theorem dX4_cellAt_17 : decode cX4_cellAt 17 = .ok (.iconst 0, 1) := by decide +kernel
theorem dX4_cellAt_18 : decode cX4_cellAt 18 = .ok (.aload_n 0, 1) := by decide +kernel
theorem dX4_cellAt_19 : decode cX4_cellAt 19 = .ok (.iload_n 1, 1) := by decide +kernel
theorem dX4_cellAt_20 : decode cX4_cellAt 20 = .ok (.invokevirtual 119, 3) := by decide +kernel
theorem dX4_cellAt_23 : decode cX4_cellAt 23 = .ok (.iconst 1, 1) := by decide +kernel
theorem dX4_cellAt_24 : decode cX4_cellAt 24 = .ok (.isub, 1) := by decide +kernel
theorem dX4_cellAt_25 : decode cX4_cellAt 25 = .ok (.invokestatic 56, 3) := by decide +kernel
theorem dX4_cellAt_28 : decode cX4_cellAt 28 = .ok (.ifCond .eq 14, 3) := by decide +kernel
theorem dX4_cellAt_31 : decode cX4_cellAt 31 = .ok (.aload_n 0, 1) := by decide +kernel
theorem dX4_cellAt_32 : decode cX4_cellAt 32 = .ok (.getfield 20, 3) := by decide +kernel
theorem dX4_cellAt_35 : decode cX4_cellAt 35 = .ok (.iload_n 1, 1) := by decide +kernel
theorem dX4_cellAt_36 : decode cX4_cellAt 36 = .ok (.iaload, 1) := by decide +kernel
theorem dX4_cellAt_37 : decode cX4_cellAt 37 = .ok (.iload_n 2, 1) := by decide +kernel
theorem dX4_cellAt_38 : decode cX4_cellAt 38 = .ok (.iadd, 1) := by decide +kernel
theorem dX4_cellAt_39 : decode cX4_cellAt 39 = .ok (.goto 4, 3) := by decide +kernel
theorem dX4_cellAt_42 : decode cX4_cellAt 42 = .ok (.iconst (-1), 1) := by decide +kernel
theorem dX4_cellAt_43 : decode cX4_cellAt 43 = .ok (.ireturn, 1) := by decide +kernel
theorem dX4_size_0 : decode cX4_size 0 = .ok (.aload_n 0, 1) := by decide +kernel
theorem dX4_size_1 : decode cX4_size 1 = .ok (.iload_n 1, 1) := by decide +kernel
theorem dX4_size_2 : decode cX4_size 2 = .ok (.iload_n 2, 1) := by decide +kernel
theorem dX4_size_3 : decode cX4_size 3 = .ok (.invokevirtual 288, 3) := by decide +kernel
theorem dX4_size_6 : decode cX4_size 6 = .ok (.istore_n 3, 1) := by decide +kernel
theorem dX4_size_7 : decode cX4_size 7 = .ok (.iload_n 3, 1) := by decide +kernel
theorem dX4_size_8 : decode cX4_size 8 = .ok (.ifCond .ge 7, 3) := by decide +kernel
theorem dX4_size_11 : decode cX4_size 11 = .ok (.iconst (-1), 1) := by decide +kernel
theorem dX4_size_12 : decode cX4_size 12 = .ok (.goto 9, 3) := by decide +kernel
theorem dX4_size_15 : decode cX4_size 15 = .ok (.aload_n 0, 1) := by decide +kernel
theorem dX4_size_16 : decode cX4_size 16 = .ok (.getfield 27, 3) := by decide +kernel
theorem dX4_size_19 : decode cX4_size 19 = .ok (.iload_n 3, 1) := by decide +kernel
theorem dX4_size_20 : decode cX4_size 20 = .ok (.iaload, 1) := by decide +kernel
theorem dX4_size_21 : decode cX4_size 21 = .ok (.ireturn, 1) := by decide +kernel
theorem dX4_at_0 : decode cX4_at 0 = .ok (.aload_n 0, 1) := by decide +kernel
theorem dX4_at_1 : decode cX4_at 1 = .ok (.iload_n 1, 1) := by decide +kernel
theorem dX4_at_2 : decode cX4_at 2 = .ok (.iload_n 2, 1) := by decide +kernel
theorem dX4_at_3 : decode cX4_at 3 = .ok (.invokevirtual 288, 3) := by decide +kernel
theorem dX4_at_6 : decode cX4_at 6 = .ok (.istore 4, 2) := by decide +kernel
theorem dX4_at_8 : decode cX4_at 8 = .ok (.iload 4, 2) := by decide +kernel
theorem dX4_at_10 : decode cX4_at 10 = .ok (.ifCond .lt 20, 3) := by decide +kernel
theorem dX4_at_13 : decode cX4_at 13 = .ok (.iload_n 3, 1) := by decide +kernel
theorem dX4_at_14 : decode cX4_at 14 = .ok (.iconst 0, 1) := by decide +kernel
theorem dX4_at_15 : decode cX4_at 15 = .ok (.aload_n 0, 1) := by decide +kernel
theorem dX4_at_16 : decode cX4_at 16 = .ok (.getfield 27, 3) := by decide +kernel
theorem dX4_at_19 : decode cX4_at 19 = .ok (.iload 4, 2) := by decide +kernel
theorem dX4_at_21 : decode cX4_at 21 = .ok (.iaload, 1) := by decide +kernel
theorem dX4_at_22 : decode cX4_at 22 = .ok (.iconst 1, 1) := by decide +kernel
theorem dX4_at_23 : decode cX4_at 23 = .ok (.isub, 1) := by decide +kernel
theorem dX4_at_24 : decode cX4_at 24 = .ok (.invokestatic 56, 3) := by decide +kernel
theorem dX4_at_27 : decode cX4_at 27 = .ok (.ifCond .ne 7, 3) := by decide +kernel
theorem dX4_at_30 : decode cX4_at 30 = .ok (.iconst (-1), 1) := by decide +kernel
theorem dX4_at_31 : decode cX4_at 31 = .ok (.goto 10, 3) := by decide +kernel
theorem dX4_at_34 : decode cX4_at 34 = .ok (.aload_n 0, 1) := by decide +kernel
theorem dX4_at_35 : decode cX4_at 35 = .ok (.iload 4, 2) := by decide +kernel
theorem dX4_at_37 : decode cX4_at 37 = .ok (.iload_n 3, 1) := by decide +kernel
theorem dX4_at_38 : decode cX4_at 38 = .ok (.invokevirtual 137, 3) := by decide +kernel
theorem dX4_at_41 : decode cX4_at 41 = .ok (.ireturn, 1) := by decide +kernel
theorem dX4_isColumn_0 : decode cX4_isColumn 0 = .ok (.aload_n 0, 1) := by decide +kernel
theorem dX4_isColumn_1 : decode cX4_isColumn 1 = .ok (.aload_n 0, 1) := by decide +kernel
theorem dX4_isColumn_2 : decode cX4_isColumn 2 = .ok (.getfield 66, 3) := by decide +kernel
theorem dX4_isColumn_5 : decode cX4_isColumn 5 = .ok (.invokevirtual 129, 3) := by decide +kernel
theorem dX4_isColumn_8 : decode cX4_isColumn 8 = .ok (.iload_n 1, 1) := by decide +kernel
theorem dX4_isColumn_9 : decode cX4_isColumn 9 = .ok (.iconst 0, 1) := by decide +kernel
theorem dX4_isColumn_10 : decode cX4_isColumn 10 = .ok (.aload_n 0, 1) := by decide +kernel
theorem dX4_isColumn_11 : decode cX4_isColumn 11 = .ok (.invokevirtual 122, 3) := by decide +kernel
theorem dX4_isColumn_14 : decode cX4_isColumn 14 = .ok (.iconst 1, 1) := by decide +kernel
theorem dX4_isColumn_15 : decode cX4_isColumn 15 = .ok (.isub, 1) := by decide +kernel
theorem dX4_isColumn_16 : decode cX4_isColumn 16 = .ok (.invokestatic 56, 3) := by decide +kernel
theorem dX4_isColumn_19 : decode cX4_isColumn 19 = .ok (.ifCond .ne 5, 3) := by decide +kernel
theorem dX4_isColumn_22 : decode cX4_isColumn 22 = .ok (.iconst 0, 1) := by decide +kernel
theorem dX4_isColumn_23 : decode cX4_isColumn 23 = .ok (.ireturn, 1) := by decide +kernel
theorem dX4_isColumn_24 : decode cX4_isColumn 24 = .ok (.aload_n 0, 1) := by decide +kernel
theorem dX4_isColumn_25 : decode cX4_isColumn 25 = .ok (.iload_n 1, 1) := by decide +kernel
theorem dX4_isColumn_26 : decode cX4_isColumn 26 = .ok (.invokevirtual 273, 3) := by decide +kernel
theorem dX4_isColumn_29 : decode cX4_isColumn 29 = .ok (.aload_n 0, 1) := by decide +kernel
theorem dX4_isColumn_30 : decode cX4_isColumn 30 = .ok (.invokevirtual 276, 3) := by decide +kernel
theorem dX4_isColumn_33 : decode cX4_isColumn 33 = .ok (.aload_n 0, 1) := by decide +kernel
theorem dX4_isColumn_34 : decode cX4_isColumn 34 = .ok (.getfield 237, 3) := by decide +kernel
theorem dX4_isColumn_37 : decode cX4_isColumn 37 = .ok (.ifCond .le 7, 3) := by decide +kernel
theorem dX4_isColumn_40 : decode cX4_isColumn 40 = .ok (.iconst 1, 1) := by decide +kernel
theorem dX4_isColumn_41 : decode cX4_isColumn 41 = .ok (.goto 4, 3) := by decide +kernel
theorem dX4_isColumn_44 : decode cX4_isColumn 44 = .ok (.iconst 0, 1) := by decide +kernel
theorem dX4_isColumn_45 : decode cX4_isColumn 45 = .ok (.ireturn, 1) := by decide +kernel
theorem dX4_form_0 : decode cX4_form 0 = .ok (.aload_n 0, 1) := by decide +kernel
theorem dX4_form_1 : decode cX4_form 1 = .ok (.iload_n 1, 1) := by decide +kernel
theorem dX4_form_2 : decode cX4_form 2 = .ok (.invokevirtual 291, 3) := by decide +kernel
theorem dX4_form_5 : decode cX4_form 5 = .ok (.ifCond .eq 10, 3) := by decide +kernel
theorem dX4_form_8 : decode cX4_form 8 = .ok (.aload_n 0, 1) := by decide +kernel
theorem dX4_form_9 : decode cX4_form 9 = .ok (.getfield 261, 3) := by decide +kernel
theorem dX4_form_12 : decode cX4_form 12 = .ok (.goto 4, 3) := by decide +kernel
theorem dX4_form_15 : decode cX4_form 15 = .ok (.iconst (-1), 1) := by decide +kernel
theorem dX4_form_16 : decode cX4_form 16 = .ok (.ireturn, 1) := by decide +kernel
theorem dX4_missing_0 : decode cX4_missing 0 = .ok (.aload_n 0, 1) := by decide +kernel
theorem dX4_missing_1 : decode cX4_missing 1 = .ok (.iload_n 1, 1) := by decide +kernel
theorem dX4_missing_2 : decode cX4_missing 2 = .ok (.invokevirtual 291, 3) := by decide +kernel
theorem dX4_missing_5 : decode cX4_missing 5 = .ok (.ifCond .eq 10, 3) := by decide +kernel
theorem dX4_missing_8 : decode cX4_missing 8 = .ok (.aload_n 0, 1) := by decide +kernel
theorem dX4_missing_9 : decode cX4_missing 9 = .ok (.getfield 264, 3) := by decide +kernel
theorem dX4_missing_12 : decode cX4_missing 12 = .ok (.goto 4, 3) := by decide +kernel
theorem dX4_missing_15 : decode cX4_missing 15 = .ok (.iconst (-1), 1) := by decide +kernel
theorem dX4_missing_16 : decode cX4_missing 16 = .ok (.ireturn, 1) := by decide +kernel
theorem dX4_lacks_0 : decode cX4_lacks 0 = .ok (.aload_n 0, 1) := by decide +kernel
theorem dX4_lacks_1 : decode cX4_lacks 1 = .ok (.iload_n 1, 1) := by decide +kernel
theorem dX4_lacks_2 : decode cX4_lacks 2 = .ok (.invokevirtual 291, 3) := by decide +kernel
theorem dX4_lacks_5 : decode cX4_lacks 5 = .ok (.ifCond .ne 5, 3) := by decide +kernel
theorem dX4_lacks_8 : decode cX4_lacks 8 = .ok (.iconst (-1), 1) := by decide +kernel
theorem dX4_lacks_9 : decode cX4_lacks 9 = .ok (.ireturn, 1) := by decide +kernel
theorem dX4_lacks_10 : decode cX4_lacks 10 = .ok (.iconst 0, 1) := by decide +kernel
theorem dX4_lacks_11 : decode cX4_lacks 11 = .ok (.istore_n 2, 1) := by decide +kernel
theorem dX4_lacks_12 : decode cX4_lacks 12 = .ok (.iconst 0, 1) := by decide +kernel
theorem dX4_lacks_13 : decode cX4_lacks 13 = .ok (.istore_n 3, 1) := by decide +kernel
theorem dX4_lacks_14 : decode cX4_lacks 14 = .ok (.iload_n 3, 1) := by decide +kernel
theorem dX4_lacks_15 : decode cX4_lacks 15 = .ok (.aload_n 0, 1) := by decide +kernel
theorem dX4_lacks_16 : decode cX4_lacks 16 = .ok (.getfield 237, 3) := by decide +kernel
theorem dX4_lacks_19 : decode cX4_lacks 19 = .ok (.if_icmp .ge 34, 3) := by decide +kernel
theorem dX4_lacks_22 : decode cX4_lacks 22 = .ok (.iload_n 2, 1) := by decide +kernel
theorem dX4_lacks_23 : decode cX4_lacks 23 = .ok (.aload_n 0, 1) := by decide +kernel
theorem dX4_lacks_24 : decode cX4_lacks 24 = .ok (.aload_n 0, 1) := by decide +kernel
theorem dX4_lacks_25 : decode cX4_lacks 25 = .ok (.getfield 40, 3) := by decide +kernel
theorem dX4_lacks_28 : decode cX4_lacks 28 = .ok (.iload_n 3, 1) := by decide +kernel
theorem dX4_lacks_29 : decode cX4_lacks 29 = .ok (.iaload, 1) := by decide +kernel
theorem dX4_lacks_30 : decode cX4_lacks 30 = .ok (.aload_n 0, 1) := by decide +kernel
theorem dX4_lacks_31 : decode cX4_lacks 31 = .ok (.getfield 264, 3) := by decide +kernel
theorem dX4_lacks_34 : decode cX4_lacks 34 = .ok (.invokevirtual 243, 3) := by decide +kernel
theorem dX4_lacks_37 : decode cX4_lacks 37 = .ok (.ifCond .eq 7, 3) := by decide +kernel
theorem dX4_lacks_40 : decode cX4_lacks 40 = .ok (.iconst 1, 1) := by decide +kernel
theorem dX4_lacks_41 : decode cX4_lacks 41 = .ok (.goto 4, 3) := by decide +kernel
theorem dX4_lacks_44 : decode cX4_lacks 44 = .ok (.iconst 0, 1) := by decide +kernel
theorem dX4_lacks_45 : decode cX4_lacks 45 = .ok (.iadd, 1) := by decide +kernel
theorem dX4_lacks_46 : decode cX4_lacks 46 = .ok (.istore_n 2, 1) := by decide +kernel
theorem dX4_lacks_47 : decode cX4_lacks 47 = .ok (.iinc 3 1, 3) := by decide +kernel
theorem dX4_lacks_50 : decode cX4_lacks 50 = .ok (.goto (-36), 3) := by decide +kernel
theorem dX4_lacks_53 : decode cX4_lacks 53 = .ok (.iload_n 2, 1) := by decide +kernel
theorem dX4_lacks_54 : decode cX4_lacks 54 = .ok (.ireturn, 1) := by decide +kernel
theorem dX4_costOf_0 : decode cX4_costOf 0 = .ok (.aload_n 0, 1) := by decide +kernel
theorem dX4_costOf_1 : decode cX4_costOf 1 = .ok (.iload_n 1, 1) := by decide +kernel
theorem dX4_costOf_2 : decode cX4_costOf 2 = .ok (.invokevirtual 291, 3) := by decide +kernel
theorem dX4_costOf_5 : decode cX4_costOf 5 = .ok (.ifCond .eq 31, 3) := by decide +kernel
theorem dX4_costOf_8 : decode cX4_costOf 8 = .ok (.iload_n 2, 1) := by decide +kernel
theorem dX4_costOf_9 : decode cX4_costOf 9 = .ok (.iconst 0, 1) := by decide +kernel
theorem dX4_costOf_10 : decode cX4_costOf 10 = .ok (.bipush 31, 2) := by decide +kernel
theorem dX4_costOf_12 : decode cX4_costOf 12 = .ok (.invokestatic 56, 3) := by decide +kernel
theorem dX4_costOf_15 : decode cX4_costOf 15 = .ok (.ifCond .eq 21, 3) := by decide +kernel
theorem dX4_costOf_18 : decode cX4_costOf 18 = .ok (.iload_n 3, 1) := by decide +kernel
theorem dX4_costOf_19 : decode cX4_costOf 19 = .ok (.iconst 0, 1) := by decide +kernel
theorem dX4_costOf_20 : decode cX4_costOf 20 = .ok (.iconst 4, 1) := by decide +kernel
theorem dX4_costOf_21 : decode cX4_costOf 21 = .ok (.invokestatic 56, 3) := by decide +kernel
theorem dX4_costOf_24 : decode cX4_costOf 24 = .ok (.ifCond .eq 12, 3) := by decide +kernel
theorem dX4_costOf_27 : decode cX4_costOf 27 = .ok (.aload_n 0, 1) := by decide +kernel
theorem dX4_costOf_28 : decode cX4_costOf 28 = .ok (.iload_n 2, 1) := by decide +kernel
theorem dX4_costOf_29 : decode cX4_costOf 29 = .ok (.iload_n 3, 1) := by decide +kernel
theorem dX4_costOf_30 : decode cX4_costOf 30 = .ok (.invokevirtual 270, 3) := by decide +kernel
theorem dX4_costOf_33 : decode cX4_costOf 33 = .ok (.goto 4, 3) := by decide +kernel
theorem dX4_costOf_36 : decode cX4_costOf 36 = .ok (.iconst (-1), 1) := by decide +kernel
theorem dX4_costOf_37 : decode cX4_costOf 37 = .ok (.ireturn, 1) := by decide +kernel
theorem dX4_fits_0 : decode cX4_fits 0 = .ok (.aload_n 0, 1) := by decide +kernel
theorem dX4_fits_1 : decode cX4_fits 1 = .ok (.iload_n 1, 1) := by decide +kernel
theorem dX4_fits_2 : decode cX4_fits 2 = .ok (.invokevirtual 291, 3) := by decide +kernel
theorem dX4_fits_5 : decode cX4_fits 5 = .ok (.ifCond .ne 5, 3) := by decide +kernel
theorem dX4_fits_8 : decode cX4_fits 8 = .ok (.iconst (-1), 1) := by decide +kernel
theorem dX4_fits_9 : decode cX4_fits 9 = .ok (.ireturn, 1) := by decide +kernel
theorem dX4_fits_10 : decode cX4_fits 10 = .ok (.iconst 0, 1) := by decide +kernel
theorem dX4_fits_11 : decode cX4_fits 11 = .ok (.istore_n 2, 1) := by decide +kernel
theorem dX4_fits_12 : decode cX4_fits 12 = .ok (.iconst 0, 1) := by decide +kernel
theorem dX4_fits_13 : decode cX4_fits 13 = .ok (.istore_n 3, 1) := by decide +kernel
theorem dX4_fits_14 : decode cX4_fits 14 = .ok (.iload_n 3, 1) := by decide +kernel
theorem dX4_fits_15 : decode cX4_fits 15 = .ok (.bipush 32, 2) := by decide +kernel
theorem dX4_fits_17 : decode cX4_fits 17 = .ok (.if_icmp .ge 62, 3) := by decide +kernel
theorem dX4_fits_20 : decode cX4_fits 20 = .ok (.iconst 0, 1) := by decide +kernel
theorem dX4_fits_21 : decode cX4_fits 21 = .ok (.istore 4, 2) := by decide +kernel
theorem dX4_fits_23 : decode cX4_fits 23 = .ok (.iconst 0, 1) := by decide +kernel
theorem dX4_fits_24 : decode cX4_fits 24 = .ok (.istore 5, 2) := by decide +kernel
theorem dX4_fits_26 : decode cX4_fits 26 = .ok (.iload 5, 2) := by decide +kernel
theorem dX4_fits_28 : decode cX4_fits 28 = .ok (.iconst 5, 1) := by decide +kernel
theorem dX4_fits_29 : decode cX4_fits 29 = .ok (.if_icmp .ge 31, 3) := by decide +kernel
theorem dX4_fits_32 : decode cX4_fits 32 = .ok (.iload 4, 2) := by decide +kernel
theorem dX4_fits_34 : decode cX4_fits 34 = .ok (.ifCond .ne 13, 3) := by decide +kernel
theorem dX4_fits_37 : decode cX4_fits 37 = .ok (.aload_n 0, 1) := by decide +kernel
theorem dX4_fits_38 : decode cX4_fits 38 = .ok (.iload_n 3, 1) := by decide +kernel
theorem dX4_fits_39 : decode cX4_fits 39 = .ok (.iload 5, 2) := by decide +kernel
theorem dX4_fits_41 : decode cX4_fits 41 = .ok (.invokevirtual 270, 3) := by decide +kernel
theorem dX4_fits_44 : decode cX4_fits 44 = .ok (.ifCond .lt 7, 3) := by decide +kernel
theorem dX4_fits_47 : decode cX4_fits 47 = .ok (.iconst 1, 1) := by decide +kernel
theorem dX4_fits_48 : decode cX4_fits 48 = .ok (.goto 4, 3) := by decide +kernel
theorem dX4_fits_51 : decode cX4_fits 51 = .ok (.iconst 0, 1) := by decide +kernel
theorem dX4_fits_52 : decode cX4_fits 52 = .ok (.istore 4, 2) := by decide +kernel
theorem dX4_fits_54 : decode cX4_fits 54 = .ok (.iinc 5 1, 3) := by decide +kernel
theorem dX4_fits_57 : decode cX4_fits 57 = .ok (.goto (-31), 3) := by decide +kernel
theorem dX4_fits_60 : decode cX4_fits 60 = .ok (.iload_n 2, 1) := by decide +kernel
theorem dX4_fits_61 : decode cX4_fits 61 = .ok (.iload 4, 2) := by decide +kernel
theorem dX4_fits_63 : decode cX4_fits 63 = .ok (.ifCond .eq 7, 3) := by decide +kernel
theorem dX4_fits_66 : decode cX4_fits 66 = .ok (.iconst 1, 1) := by decide +kernel
theorem dX4_fits_67 : decode cX4_fits 67 = .ok (.goto 4, 3) := by decide +kernel
theorem dX4_fits_70 : decode cX4_fits 70 = .ok (.iconst 0, 1) := by decide +kernel
theorem dX4_fits_71 : decode cX4_fits 71 = .ok (.iadd, 1) := by decide +kernel
theorem dX4_fits_72 : decode cX4_fits 72 = .ok (.istore_n 2, 1) := by decide +kernel
theorem dX4_fits_73 : decode cX4_fits 73 = .ok (.iinc 3 1, 3) := by decide +kernel
theorem dX4_fits_76 : decode cX4_fits 76 = .ok (.goto (-62), 3) := by decide +kernel
theorem dX4_fits_79 : decode cX4_fits 79 = .ok (.iload_n 2, 1) := by decide +kernel
theorem dX4_fits_80 : decode cX4_fits 80 = .ok (.ireturn, 1) := by decide +kernel
theorem dX4_doubt_0 : decode cX4_doubt 0 = .ok (.aload_n 0, 1) := by decide +kernel
theorem dX4_doubt_1 : decode cX4_doubt 1 = .ok (.iload_n 1, 1) := by decide +kernel
theorem dX4_doubt_2 : decode cX4_doubt 2 = .ok (.invokevirtual 291, 3) := by decide +kernel
theorem dX4_doubt_5 : decode cX4_doubt 5 = .ok (.ifCond .ne 5, 3) := by decide +kernel
theorem dX4_doubt_8 : decode cX4_doubt 8 = .ok (.iconst (-1), 1) := by decide +kernel
theorem dX4_doubt_9 : decode cX4_doubt 9 = .ok (.ireturn, 1) := by decide +kernel
theorem dX4_doubt_10 : decode cX4_doubt 10 = .ok (.iconst 0, 1) := by decide +kernel
theorem dX4_doubt_11 : decode cX4_doubt 11 = .ok (.istore_n 2, 1) := by decide +kernel
theorem dX4_doubt_12 : decode cX4_doubt 12 = .ok (.iload_n 2, 1) := by decide +kernel
theorem dX4_doubt_13 : decode cX4_doubt 13 = .ok (.bipush 32, 2) := by decide +kernel
theorem dX4_doubt_15 : decode cX4_doubt 15 = .ok (.if_icmp .ge 45, 3) := by decide +kernel
theorem dX4_doubt_18 : decode cX4_doubt 18 = .ok (.iconst 0, 1) := by decide +kernel
theorem dX4_doubt_19 : decode cX4_doubt 19 = .ok (.istore_n 3, 1) := by decide +kernel
theorem dX4_doubt_20 : decode cX4_doubt 20 = .ok (.iload_n 3, 1) := by decide +kernel
theorem dX4_doubt_21 : decode cX4_doubt 21 = .ok (.iconst 5, 1) := by decide +kernel
theorem dX4_doubt_22 : decode cX4_doubt 22 = .ok (.if_icmp .ge 32, 3) := by decide +kernel
theorem dX4_doubt_25 : decode cX4_doubt 25 = .ok (.iload_n 2, 1) := by decide +kernel
theorem dX4_doubt_26 : decode cX4_doubt 26 = .ok (.aload_n 0, 1) := by decide +kernel
theorem dX4_doubt_27 : decode cX4_doubt 27 = .ok (.getfield 261, 3) := by decide +kernel
theorem dX4_doubt_30 : decode cX4_doubt 30 = .ok (.if_icmp .eq 18, 3) := by decide +kernel
theorem dX4_doubt_33 : decode cX4_doubt 33 = .ok (.aload_n 0, 1) := by decide +kernel
theorem dX4_doubt_34 : decode cX4_doubt 34 = .ok (.iload_n 2, 1) := by decide +kernel
theorem dX4_doubt_35 : decode cX4_doubt 35 = .ok (.iload_n 3, 1) := by decide +kernel
theorem dX4_doubt_36 : decode cX4_doubt 36 = .ok (.invokevirtual 270, 3) := by decide +kernel
theorem dX4_doubt_39 : decode cX4_doubt 39 = .ok (.aload_n 0, 1) := by decide +kernel
theorem dX4_doubt_40 : decode cX4_doubt 40 = .ok (.getfield 267, 3) := by decide +kernel
theorem dX4_doubt_43 : decode cX4_doubt 43 = .ok (.if_icmp .ne 5, 3) := by decide +kernel
theorem dX4_doubt_46 : decode cX4_doubt 46 = .ok (.iload_n 2, 1) := by decide +kernel
theorem dX4_doubt_47 : decode cX4_doubt 47 = .ok (.ireturn, 1) := by decide +kernel
theorem dX4_doubt_48 : decode cX4_doubt 48 = .ok (.iinc 3 1, 3) := by decide +kernel
theorem dX4_doubt_51 : decode cX4_doubt 51 = .ok (.goto (-31), 3) := by decide +kernel
theorem dX4_doubt_54 : decode cX4_doubt 54 = .ok (.iinc 2 1, 3) := by decide +kernel
theorem dX4_doubt_57 : decode cX4_doubt 57 = .ok (.goto (-45), 3) := by decide +kernel
theorem dX4_doubt_60 : decode cX4_doubt 60 = .ok (.iconst (-1), 1) := by decide +kernel
theorem dX4_doubt_61 : decode cX4_doubt 61 = .ok (.ireturn, 1) := by decide +kernel
theorem dX4_parts_0 : decode cX4_parts 0 = .ok (.aload_n 0, 1) := by decide +kernel
theorem dX4_parts_1 : decode cX4_parts 1 = .ok (.iload_n 1, 1) := by decide +kernel
theorem dX4_parts_2 : decode cX4_parts 2 = .ok (.invokevirtual 291, 3) := by decide +kernel
theorem dX4_parts_5 : decode cX4_parts 5 = .ok (.ifCond .eq 33, 3) := by decide +kernel
theorem dX4_parts_8 : decode cX4_parts 8 = .ok (.iload_n 2, 1) := by decide +kernel
theorem dX4_parts_9 : decode cX4_parts 9 = .ok (.iconst 0, 1) := by decide +kernel
theorem dX4_parts_10 : decode cX4_parts 10 = .ok (.bipush 31, 2) := by decide +kernel
theorem dX4_parts_12 : decode cX4_parts 12 = .ok (.invokestatic 56, 3) := by decide +kernel
theorem dX4_parts_15 : decode cX4_parts 15 = .ok (.ifCond .eq 23, 3) := by decide +kernel
theorem dX4_parts_18 : decode cX4_parts 18 = .ok (.iload_n 3, 1) := by decide +kernel
theorem dX4_parts_19 : decode cX4_parts 19 = .ok (.iconst 0, 1) := by decide +kernel
theorem dX4_parts_20 : decode cX4_parts 20 = .ok (.bipush 31, 2) := by decide +kernel
theorem dX4_parts_22 : decode cX4_parts 22 = .ok (.invokestatic 56, 3) := by decide +kernel
theorem dX4_parts_25 : decode cX4_parts 25 = .ok (.ifCond .eq 13, 3) := by decide +kernel
theorem dX4_parts_28 : decode cX4_parts 28 = .ok (.iload 4, 2) := by decide +kernel
theorem dX4_parts_30 : decode cX4_parts 30 = .ok (.iconst 0, 1) := by decide +kernel
theorem dX4_parts_31 : decode cX4_parts 31 = .ok (.iconst 4, 1) := by decide +kernel
theorem dX4_parts_32 : decode cX4_parts 32 = .ok (.invokestatic 56, 3) := by decide +kernel
theorem dX4_parts_35 : decode cX4_parts 35 = .ok (.ifCond .ne 5, 3) := by decide +kernel
theorem dX4_parts_38 : decode cX4_parts 38 = .ok (.iconst (-1), 1) := by decide +kernel
theorem dX4_parts_39 : decode cX4_parts 39 = .ok (.ireturn, 1) := by decide +kernel
theorem dX4_parts_40 : decode cX4_parts 40 = .ok (.aload_n 0, 1) := by decide +kernel
theorem dX4_parts_41 : decode cX4_parts 41 = .ok (.iload 4, 2) := by decide +kernel
theorem dX4_parts_43 : decode cX4_parts 43 = .ok (.invokevirtual 248, 3) := by decide +kernel
theorem dX4_parts_46 : decode cX4_parts 46 = .ok (.istore 5, 2) := by decide +kernel
theorem dX4_parts_48 : decode cX4_parts 48 = .ok (.iconst 0, 1) := by decide +kernel
theorem dX4_parts_49 : decode cX4_parts 49 = .ok (.istore 6, 2) := by decide +kernel
theorem dX4_parts_51 : decode cX4_parts 51 = .ok (.iload 6, 2) := by decide +kernel
theorem dX4_parts_53 : decode cX4_parts 53 = .ok (.aload_n 0, 1) := by decide +kernel
theorem dX4_parts_54 : decode cX4_parts 54 = .ok (.getfield 237, 3) := by decide +kernel
theorem dX4_parts_57 : decode cX4_parts 57 = .ok (.if_icmp .ge 71, 3) := by decide +kernel
theorem dX4_parts_60 : decode cX4_parts 60 = .ok (.aload_n 0, 1) := by decide +kernel
theorem dX4_parts_61 : decode cX4_parts 61 = .ok (.aload_n 0, 1) := by decide +kernel
theorem dX4_parts_62 : decode cX4_parts 62 = .ok (.getfield 40, 3) := by decide +kernel
theorem dX4_parts_65 : decode cX4_parts 65 = .ok (.iload 6, 2) := by decide +kernel
theorem dX4_parts_67 : decode cX4_parts 67 = .ok (.iaload, 1) := by decide +kernel
theorem dX4_parts_68 : decode cX4_parts 68 = .ok (.iload 4, 2) := by decide +kernel
theorem dX4_parts_70 : decode cX4_parts 70 = .ok (.invokevirtual 243, 3) := by decide +kernel
theorem dX4_parts_73 : decode cX4_parts 73 = .ok (.ifCond .eq 6, 3) := by decide +kernel
theorem dX4_parts_76 : decode cX4_parts 76 = .ok (.goto 46, 3) := by decide +kernel
theorem dX4_parts_79 : decode cX4_parts 79 = .ok (.aload_n 0, 1) := by decide +kernel
theorem dX4_parts_80 : decode cX4_parts 80 = .ok (.iload_n 2, 1) := by decide +kernel
theorem dX4_parts_81 : decode cX4_parts 81 = .ok (.aload_n 0, 1) := by decide +kernel
theorem dX4_parts_82 : decode cX4_parts 82 = .ok (.getfield 40, 3) := by decide +kernel
theorem dX4_parts_85 : decode cX4_parts 85 = .ok (.iload 6, 2) := by decide +kernel
theorem dX4_parts_87 : decode cX4_parts 87 = .ok (.iaload, 1) := by decide +kernel
theorem dX4_parts_88 : decode cX4_parts 88 = .ok (.iload 5, 2) := by decide +kernel
theorem dX4_parts_90 : decode cX4_parts 90 = .ok (.invokevirtual 251, 3) := by decide +kernel
theorem dX4_parts_93 : decode cX4_parts 93 = .ok (.istore 7, 2) := by decide +kernel
theorem dX4_parts_95 : decode cX4_parts 95 = .ok (.iload 7, 2) := by decide +kernel
theorem dX4_parts_97 : decode cX4_parts 97 = .ok (.aload_n 0, 1) := by decide +kernel
theorem dX4_parts_98 : decode cX4_parts 98 = .ok (.iload_n 3, 1) := by decide +kernel
theorem dX4_parts_99 : decode cX4_parts 99 = .ok (.aload_n 0, 1) := by decide +kernel
theorem dX4_parts_100 : decode cX4_parts 100 = .ok (.getfield 40, 3) := by decide +kernel
theorem dX4_parts_103 : decode cX4_parts 103 = .ok (.iload 6, 2) := by decide +kernel
theorem dX4_parts_105 : decode cX4_parts 105 = .ok (.iaload, 1) := by decide +kernel
theorem dX4_parts_106 : decode cX4_parts 106 = .ok (.iload 5, 2) := by decide +kernel
theorem dX4_parts_108 : decode cX4_parts 108 = .ok (.invokevirtual 251, 3) := by decide +kernel
theorem dX4_parts_111 : decode cX4_parts 111 = .ok (.if_icmp .eq 11, 3) := by decide +kernel
theorem dX4_parts_114 : decode cX4_parts 114 = .ok (.aload_n 0, 1) := by decide +kernel
theorem dX4_parts_115 : decode cX4_parts 115 = .ok (.getfield 43, 3) := by decide +kernel
theorem dX4_parts_118 : decode cX4_parts 118 = .ok (.iload 6, 2) := by decide +kernel
theorem dX4_parts_120 : decode cX4_parts 120 = .ok (.iaload, 1) := by decide +kernel
theorem dX4_parts_121 : decode cX4_parts 121 = .ok (.ireturn, 1) := by decide +kernel
theorem dX4_parts_122 : decode cX4_parts 122 = .ok (.iinc 6 1, 3) := by decide +kernel
theorem dX4_parts_125 : decode cX4_parts 125 = .ok (.goto (-74), 3) := by decide +kernel
theorem dX4_parts_128 : decode cX4_parts 128 = .ok (.iconst (-1), 1) := by decide +kernel
theorem dX4_parts_129 : decode cX4_parts 129 = .ok (.ireturn, 1) := by decide +kernel
theorem dX4_told_0 : decode cX4_told 0 = .ok (.aload_n 0, 1) := by decide +kernel
theorem dX4_told_1 : decode cX4_told 1 = .ok (.iload_n 2, 1) := by decide +kernel
theorem dX4_told_2 : decode cX4_told 2 = .ok (.invokevirtual 291, 3) := by decide +kernel
theorem dX4_told_5 : decode cX4_told 5 = .ok (.ifCond .eq 19, 3) := by decide +kernel
theorem dX4_told_8 : decode cX4_told 8 = .ok (.aload_n 0, 1) := by decide +kernel
theorem dX4_told_9 : decode cX4_told 9 = .ok (.iload_n 1, 1) := by decide +kernel
theorem dX4_told_10 : decode cX4_told 10 = .ok (.invokevirtual 285, 3) := by decide +kernel
theorem dX4_told_13 : decode cX4_told 13 = .ok (.ifCond .eq 11, 3) := by decide +kernel
theorem dX4_told_16 : decode cX4_told 16 = .ok (.aload_n 0, 1) := by decide +kernel
theorem dX4_told_17 : decode cX4_told 17 = .ok (.iload_n 1, 1) := by decide +kernel
theorem dX4_told_18 : decode cX4_told 18 = .ok (.invokevirtual 240, 3) := by decide +kernel
theorem dX4_told_21 : decode cX4_told 21 = .ok (.ifCond .ne 5, 3) := by decide +kernel
theorem dX4_told_24 : decode cX4_told 24 = .ok (.iconst (-1), 1) := by decide +kernel
theorem dX4_told_25 : decode cX4_told 25 = .ok (.ireturn, 1) := by decide +kernel
theorem dX4_told_26 : decode cX4_told 26 = .ok (.aload_n 0, 1) := by decide +kernel
theorem dX4_told_27 : decode cX4_told 27 = .ok (.getfield 20, 3) := by decide +kernel
theorem dX4_told_30 : decode cX4_told 30 = .ok (.iload_n 1, 1) := by decide +kernel
theorem dX4_told_31 : decode cX4_told 31 = .ok (.iaload, 1) := by decide +kernel
theorem dX4_told_32 : decode cX4_told 32 = .ok (.iload_n 2, 1) := by decide +kernel
theorem dX4_told_33 : decode cX4_told 33 = .ok (.iadd, 1) := by decide +kernel
theorem dX4_told_34 : decode cX4_told 34 = .ok (.istore_n 3, 1) := by decide +kernel
theorem dX4_told_35 : decode cX4_told 35 = .ok (.aload_n 0, 1) := by decide +kernel
theorem dX4_told_36 : decode cX4_told 36 = .ok (.lconst 0, 1) := by decide +kernel
theorem dX4_told_37 : decode cX4_told 37 = .ok (.putfield 176, 3) := by decide +kernel
theorem dX4_told_40 : decode cX4_told 40 = .ok (.aload_n 0, 1) := by decide +kernel
theorem dX4_told_41 : decode cX4_told 41 = .ok (.iload_n 3, 1) := by decide +kernel
theorem dX4_told_42 : decode cX4_told 42 = .ok (.aload_n 0, 1) := by decide +kernel
theorem dX4_told_43 : decode cX4_told 43 = .ok (.getfield 264, 3) := by decide +kernel
theorem dX4_told_46 : decode cX4_told 46 = .ok (.invokevirtual 243, 3) := by decide +kernel
theorem dX4_told_49 : decode cX4_told 49 = .ok (.ifCond .ne 21, 3) := by decide +kernel
theorem dX4_told_52 : decode cX4_told 52 = .ok (.aload_n 0, 1) := by decide +kernel
theorem dX4_told_53 : decode cX4_told 53 = .ok (.aload_n 0, 1) := by decide +kernel
theorem dX4_told_54 : decode cX4_told 54 = .ok (.getfield 261, 3) := by decide +kernel
theorem dX4_told_57 : decode cX4_told 57 = .ok (.iload_n 3, 1) := by decide +kernel
theorem dX4_told_58 : decode cX4_told 58 = .ok (.aload_n 0, 1) := by decide +kernel
theorem dX4_told_59 : decode cX4_told 59 = .ok (.aload_n 0, 1) := by decide +kernel
theorem dX4_told_60 : decode cX4_told 60 = .ok (.getfield 264, 3) := by decide +kernel
theorem dX4_told_63 : decode cX4_told 63 = .ok (.invokevirtual 248, 3) := by decide +kernel
theorem dX4_told_66 : decode cX4_told 66 = .ok (.invokevirtual 251, 3) := by decide +kernel
theorem dX4_told_69 : decode cX4_told 69 = .ok (.pop, 1) := by decide +kernel
theorem dX4_told_70 : decode cX4_told 70 = .ok (.iload_n 3, 1) := by decide +kernel
theorem dX4_told_71 : decode cX4_told 71 = .ok (.ireturn, 1) := by decide +kernel
theorem dX4_value_0 : decode cX4_value 0 = .ok (.aload_n 0, 1) := by decide +kernel
theorem dX4_value_1 : decode cX4_value 1 = .ok (.iload_n 1, 1) := by decide +kernel
theorem dX4_value_2 : decode cX4_value 2 = .ok (.iload_n 2, 1) := by decide +kernel
theorem dX4_value_3 : decode cX4_value 3 = .ok (.invokevirtual 294, 3) := by decide +kernel
theorem dX4_value_6 : decode cX4_value 6 = .ok (.ifCond .ge 7, 3) := by decide +kernel
theorem dX4_value_9 : decode cX4_value 9 = .ok (.lconst 0, 1) := by decide +kernel
theorem dX4_value_10 : decode cX4_value 10 = .ok (.goto 7, 3) := by decide +kernel
theorem dX4_value_13 : decode cX4_value 13 = .ok (.aload_n 0, 1) := by decide +kernel
theorem dX4_value_14 : decode cX4_value 14 = .ok (.getfield 176, 3) := by decide +kernel
theorem dX4_value_17 : decode cX4_value 17 = .ok (.lreturn, 1) := by decide +kernel
theorem dX4_write_0 : decode cX4_write 0 = .ok (.aload_n 0, 1) := by decide +kernel
theorem dX4_write_1 : decode cX4_write 1 = .ok (.getfield 46, 3) := by decide +kernel
theorem dX4_write_4 : decode cX4_write 4 = .ok (.aload_n 0, 1) := by decide +kernel
theorem dX4_write_5 : decode cX4_write 5 = .ok (.getfield 297, 3) := by decide +kernel
theorem dX4_write_8 : decode cX4_write 8 = .ok (.iload_n 1, 1) := by decide +kernel
theorem dX4_write_9 : decode cX4_write 9 = .ok (.i2b, 1) := by decide +kernel
theorem dX4_write_10 : decode cX4_write 10 = .ok (.bastore, 1) := by decide +kernel
theorem dX4_write_11 : decode cX4_write 11 = .ok (.aload_n 0, 1) := by decide +kernel
theorem dX4_write_12 : decode cX4_write 12 = .ok (.dup, 1) := by decide +kernel
theorem dX4_write_13 : decode cX4_write 13 = .ok (.getfield 297, 3) := by decide +kernel
theorem dX4_write_16 : decode cX4_write 16 = .ok (.iconst 1, 1) := by decide +kernel
theorem dX4_write_17 : decode cX4_write 17 = .ok (.iadd, 1) := by decide +kernel
theorem dX4_write_18 : decode cX4_write 18 = .ok (.putfield 297, 3) := by decide +kernel
theorem dX4_write_21 : decode cX4_write 21 = .ok (.return_, 1) := by decide +kernel
theorem dX4_writeWord_0 : decode cX4_writeWord 0 = .ok (.iconst 0, 1) := by decide +kernel
theorem dX4_writeWord_1 : decode cX4_writeWord 1 = .ok (.istore_n 2, 1) := by decide +kernel
theorem dX4_writeWord_2 : decode cX4_writeWord 2 = .ok (.iload_n 2, 1) := by decide +kernel
theorem dX4_writeWord_3 : decode cX4_writeWord 3 = .ok (.aload_n 1, 1) := by decide +kernel
theorem dX4_writeWord_4 : decode cX4_writeWord 4 = .ok (.invokevirtual 132, 3) := by decide +kernel
theorem dX4_writeWord_7 : decode cX4_writeWord 7 = .ok (.if_icmp .ge 18, 3) := by decide +kernel
theorem dX4_writeWord_10 : decode cX4_writeWord 10 = .ok (.aload_n 0, 1) := by decide +kernel
theorem dX4_writeWord_11 : decode cX4_writeWord 11 = .ok (.aload_n 1, 1) := by decide +kernel
theorem dX4_writeWord_12 : decode cX4_writeWord 12 = .ok (.iload_n 2, 1) := by decide +kernel
theorem dX4_writeWord_13 : decode cX4_writeWord 13 = .ok (.invokevirtual 140, 3) := by decide +kernel
theorem dX4_writeWord_16 : decode cX4_writeWord 16 = .ok (.invokevirtual 300, 3) := by decide +kernel
theorem dX4_writeWord_19 : decode cX4_writeWord 19 = .ok (.iinc 2 1, 3) := by decide +kernel
theorem dX4_writeWord_22 : decode cX4_writeWord 22 = .ok (.goto (-20), 3) := by decide +kernel
theorem dX4_writeWord_25 : decode cX4_writeWord 25 = .ok (.return_, 1) := by decide +kernel
theorem dX4_tens_0 : decode cX4_tens 0 = .ok (.lconst 1, 1) := by decide +kernel
theorem dX4_tens_1 : decode cX4_tens 1 = .ok (.lstore_n 1, 1) := by decide +kernel
theorem dX4_tens_2 : decode cX4_tens 2 = .ok (.iconst 0, 1) := by decide +kernel
theorem dX4_tens_3 : decode cX4_tens 3 = .ok (.istore_n 3, 1) := by decide +kernel
theorem dX4_tens_4 : decode cX4_tens 4 = .ok (.iload_n 3, 1) := by decide +kernel
theorem dX4_tens_5 : decode cX4_tens 5 = .ok (.iload_n 0, 1) := by decide +kernel
theorem dX4_tens_6 : decode cX4_tens 6 = .ok (.if_icmp .ge 15, 3) := by decide +kernel
theorem dX4_tens_9 : decode cX4_tens 9 = .ok (.lload_n 1, 1) := by decide +kernel
theorem dX4_tens_10 : decode cX4_tens 10 = .ok (.ldc2_w 198, 3) := by decide +kernel
theorem dX4_tens_13 : decode cX4_tens 13 = .ok (.lmul, 1) := by decide +kernel
theorem dX4_tens_14 : decode cX4_tens 14 = .ok (.lstore_n 1, 1) := by decide +kernel
theorem dX4_tens_15 : decode cX4_tens 15 = .ok (.iinc 3 1, 3) := by decide +kernel
theorem dX4_tens_18 : decode cX4_tens 18 = .ok (.goto (-14), 3) := by decide +kernel
theorem dX4_tens_21 : decode cX4_tens 21 = .ok (.lload_n 1, 1) := by decide +kernel
theorem dX4_tens_22 : decode cX4_tens 22 = .ok (.lreturn, 1) := by decide +kernel
theorem dX4_writeNumber_0 : decode cX4_writeNumber 0 = .ok (.aload_n 0, 1) := by decide +kernel
theorem dX4_writeNumber_1 : decode cX4_writeNumber 1 = .ok (.getfield 261, 3) := by decide +kernel
theorem dX4_writeNumber_4 : decode cX4_writeNumber 4 = .ok (.invokestatic 180, 3) := by decide +kernel
theorem dX4_writeNumber_7 : decode cX4_writeNumber 7 = .ok (.istore_n 1, 1) := by decide +kernel
theorem dX4_writeNumber_8 : decode cX4_writeNumber 8 = .ok (.aload_n 0, 1) := by decide +kernel
theorem dX4_writeNumber_9 : decode cX4_writeNumber 9 = .ok (.getfield 176, 3) := by decide +kernel
theorem dX4_writeNumber_12 : decode cX4_writeNumber 12 = .ok (.lconst 0, 1) := by decide +kernel
theorem dX4_writeNumber_13 : decode cX4_writeNumber 13 = .ok (.lcmp, 1) := by decide +kernel
theorem dX4_writeNumber_14 : decode cX4_writeNumber 14 = .ok (.ifCond .ge 11, 3) := by decide +kernel
theorem dX4_writeNumber_17 : decode cX4_writeNumber 17 = .ok (.aload_n 0, 1) := by decide +kernel
theorem dX4_writeNumber_18 : decode cX4_writeNumber 18 = .ok (.getfield 176, 3) := by decide +kernel
theorem dX4_writeNumber_21 : decode cX4_writeNumber 21 = .ok (.lneg, 1) := by decide +kernel
theorem dX4_writeNumber_22 : decode cX4_writeNumber 22 = .ok (.goto 7, 3) := by decide +kernel
theorem dX4_writeNumber_25 : decode cX4_writeNumber 25 = .ok (.aload_n 0, 1) := by decide +kernel
theorem dX4_writeNumber_26 : decode cX4_writeNumber 26 = .ok (.getfield 176, 3) := by decide +kernel
theorem dX4_writeNumber_29 : decode cX4_writeNumber 29 = .ok (.lstore_n 2, 1) := by decide +kernel
theorem dX4_writeNumber_30 : decode cX4_writeNumber 30 = .ok (.iload_n 1, 1) := by decide +kernel
theorem dX4_writeNumber_31 : decode cX4_writeNumber 31 = .ok (.iconst 1, 1) := by decide +kernel
theorem dX4_writeNumber_32 : decode cX4_writeNumber 32 = .ok (.iadd, 1) := by decide +kernel
theorem dX4_writeNumber_33 : decode cX4_writeNumber 33 = .ok (.istore 4, 2) := by decide +kernel
theorem dX4_writeNumber_35 : decode cX4_writeNumber 35 = .ok (.lload_n 2, 1) := by decide +kernel
theorem dX4_writeNumber_36 : decode cX4_writeNumber 36 = .ok (.iload 4, 2) := by decide +kernel
theorem dX4_writeNumber_38 : decode cX4_writeNumber 38 = .ok (.invokestatic 303, 3) := by decide +kernel
theorem dX4_writeNumber_41 : decode cX4_writeNumber 41 = .ok (.lcmp, 1) := by decide +kernel
theorem dX4_writeNumber_42 : decode cX4_writeNumber 42 = .ok (.ifCond .lt 9, 3) := by decide +kernel
theorem dX4_writeNumber_45 : decode cX4_writeNumber 45 = .ok (.iinc 4 1, 3) := by decide +kernel
theorem dX4_writeNumber_48 : decode cX4_writeNumber 48 = .ok (.goto (-13), 3) := by decide +kernel
theorem dX4_writeNumber_51 : decode cX4_writeNumber 51 = .ok (.aload_n 0, 1) := by decide +kernel
theorem dX4_writeNumber_52 : decode cX4_writeNumber 52 = .ok (.getfield 176, 3) := by decide +kernel
theorem dX4_writeNumber_55 : decode cX4_writeNumber 55 = .ok (.lconst 0, 1) := by decide +kernel
theorem dX4_writeNumber_56 : decode cX4_writeNumber 56 = .ok (.lcmp, 1) := by decide +kernel
theorem dX4_writeNumber_57 : decode cX4_writeNumber 57 = .ok (.ifCond .ge 9, 3) := by decide +kernel
theorem dX4_writeNumber_60 : decode cX4_writeNumber 60 = .ok (.aload_n 0, 1) := by decide +kernel
theorem dX4_writeNumber_61 : decode cX4_writeNumber 61 = .ok (.bipush 45, 2) := by decide +kernel
theorem dX4_writeNumber_63 : decode cX4_writeNumber 63 = .ok (.invokevirtual 300, 3) := by decide +kernel
theorem dX4_writeNumber_66 : decode cX4_writeNumber 66 = .ok (.iload 4, 2) := by decide +kernel
theorem dX4_writeNumber_68 : decode cX4_writeNumber 68 = .ok (.iconst 1, 1) := by decide +kernel
theorem dX4_writeNumber_69 : decode cX4_writeNumber 69 = .ok (.isub, 1) := by decide +kernel
theorem dX4_writeNumber_70 : decode cX4_writeNumber 70 = .ok (.istore 5, 2) := by decide +kernel
theorem dX4_writeNumber_72 : decode cX4_writeNumber 72 = .ok (.iload 5, 2) := by decide +kernel
theorem dX4_writeNumber_74 : decode cX4_writeNumber 74 = .ok (.ifCond .lt 101, 3) := by decide +kernel
theorem dX4_writeNumber_77 : decode cX4_writeNumber 77 = .ok (.iload_n 1, 1) := by decide +kernel
theorem dX4_writeNumber_78 : decode cX4_writeNumber 78 = .ok (.ifCond .le 22, 3) := by decide +kernel
theorem dX4_writeNumber_81 : decode cX4_writeNumber 81 = .ok (.iload 5, 2) := by decide +kernel
theorem dX4_writeNumber_83 : decode cX4_writeNumber 83 = .ok (.iload_n 1, 1) := by decide +kernel
theorem dX4_writeNumber_84 : decode cX4_writeNumber 84 = .ok (.iconst 1, 1) := by decide +kernel
theorem dX4_writeNumber_85 : decode cX4_writeNumber 85 = .ok (.isub, 1) := by decide +kernel
theorem dX4_writeNumber_86 : decode cX4_writeNumber 86 = .ok (.if_icmp .ne 14, 3) := by decide +kernel
theorem dX4_writeNumber_89 : decode cX4_writeNumber 89 = .ok (.aload_n 0, 1) := by decide +kernel
theorem dX4_writeNumber_90 : decode cX4_writeNumber 90 = .ok (.aload_n 0, 1) := by decide +kernel
theorem dX4_writeNumber_91 : decode cX4_writeNumber 91 = .ok (.getfield 261, 3) := by decide +kernel
theorem dX4_writeNumber_94 : decode cX4_writeNumber 94 = .ok (.invokestatic 186, 3) := by decide +kernel
theorem dX4_writeNumber_97 : decode cX4_writeNumber 97 = .ok (.invokevirtual 300, 3) := by decide +kernel
theorem dX4_writeNumber_100 : decode cX4_writeNumber 100 = .ok (.iload 5, 2) := by decide +kernel
theorem dX4_writeNumber_102 : decode cX4_writeNumber 102 = .ok (.iload_n 1, 1) := by decide +kernel
theorem dX4_writeNumber_103 : decode cX4_writeNumber 103 = .ok (.isub, 1) := by decide +kernel
theorem dX4_writeNumber_104 : decode cX4_writeNumber 104 = .ok (.istore 6, 2) := by decide +kernel
theorem dX4_writeNumber_106 : decode cX4_writeNumber 106 = .ok (.aload_n 0, 1) := by decide +kernel
theorem dX4_writeNumber_107 : decode cX4_writeNumber 107 = .ok (.getfield 261, 3) := by decide +kernel
theorem dX4_writeNumber_110 : decode cX4_writeNumber 110 = .ok (.invokestatic 189, 3) := by decide +kernel
theorem dX4_writeNumber_113 : decode cX4_writeNumber 113 = .ok (.ifCond .lt 36, 3) := by decide +kernel
theorem dX4_writeNumber_116 : decode cX4_writeNumber 116 = .ok (.iload 6, 2) := by decide +kernel
theorem dX4_writeNumber_118 : decode cX4_writeNumber 118 = .ok (.ifCond .lt 31, 3) := by decide +kernel
theorem dX4_writeNumber_121 : decode cX4_writeNumber 121 = .ok (.iload 6, 2) := by decide +kernel
theorem dX4_writeNumber_123 : decode cX4_writeNumber 123 = .ok (.iconst 3, 1) := by decide +kernel
theorem dX4_writeNumber_124 : decode cX4_writeNumber 124 = .ok (.irem, 1) := by decide +kernel
theorem dX4_writeNumber_125 : decode cX4_writeNumber 125 = .ok (.iconst 2, 1) := by decide +kernel
theorem dX4_writeNumber_126 : decode cX4_writeNumber 126 = .ok (.if_icmp .ne 23, 3) := by decide +kernel
theorem dX4_writeNumber_129 : decode cX4_writeNumber 129 = .ok (.iload 5, 2) := by decide +kernel
theorem dX4_writeNumber_131 : decode cX4_writeNumber 131 = .ok (.iload 4, 2) := by decide +kernel
theorem dX4_writeNumber_133 : decode cX4_writeNumber 133 = .ok (.iconst 1, 1) := by decide +kernel
theorem dX4_writeNumber_134 : decode cX4_writeNumber 134 = .ok (.isub, 1) := by decide +kernel
theorem dX4_writeNumber_135 : decode cX4_writeNumber 135 = .ok (.if_icmp .ge 14, 3) := by decide +kernel
theorem dX4_writeNumber_138 : decode cX4_writeNumber 138 = .ok (.aload_n 0, 1) := by decide +kernel
theorem dX4_writeNumber_139 : decode cX4_writeNumber 139 = .ok (.aload_n 0, 1) := by decide +kernel
theorem dX4_writeNumber_140 : decode cX4_writeNumber 140 = .ok (.getfield 261, 3) := by decide +kernel
theorem dX4_writeNumber_143 : decode cX4_writeNumber 143 = .ok (.invokestatic 189, 3) := by decide +kernel
theorem dX4_writeNumber_146 : decode cX4_writeNumber 146 = .ok (.invokevirtual 300, 3) := by decide +kernel
theorem dX4_writeNumber_149 : decode cX4_writeNumber 149 = .ok (.aload_n 0, 1) := by decide +kernel
theorem dX4_writeNumber_150 : decode cX4_writeNumber 150 = .ok (.ldc2_w 200, 3) := by decide +kernel
theorem dX4_writeNumber_153 : decode cX4_writeNumber 153 = .ok (.lload_n 2, 1) := by decide +kernel
theorem dX4_writeNumber_154 : decode cX4_writeNumber 154 = .ok (.iload 5, 2) := by decide +kernel
theorem dX4_writeNumber_156 : decode cX4_writeNumber 156 = .ok (.invokestatic 303, 3) := by decide +kernel
theorem dX4_writeNumber_159 : decode cX4_writeNumber 159 = .ok (.ldiv, 1) := by decide +kernel
theorem dX4_writeNumber_160 : decode cX4_writeNumber 160 = .ok (.ldc2_w 198, 3) := by decide +kernel
theorem dX4_writeNumber_163 : decode cX4_writeNumber 163 = .ok (.lrem, 1) := by decide +kernel
theorem dX4_writeNumber_164 : decode cX4_writeNumber 164 = .ok (.ladd, 1) := by decide +kernel
theorem dX4_writeNumber_165 : decode cX4_writeNumber 165 = .ok (.l2i, 1) := by decide +kernel
theorem dX4_writeNumber_166 : decode cX4_writeNumber 166 = .ok (.invokevirtual 300, 3) := by decide +kernel
theorem dX4_writeNumber_169 : decode cX4_writeNumber 169 = .ok (.iinc 5 (-1), 3) := by decide +kernel
theorem dX4_writeNumber_172 : decode cX4_writeNumber 172 = .ok (.goto (-100), 3) := by decide +kernel
theorem dX4_writeNumber_175 : decode cX4_writeNumber 175 = .ok (.return_, 1) := by decide +kernel
theorem dX4_writeWhole_0 : decode cX4_writeWhole 0 = .ok (.iload_n 2, 1) := by decide +kernel
theorem dX4_writeWhole_1 : decode cX4_writeWhole 1 = .ok (.iconst 1, 1) := by decide +kernel
theorem dX4_writeWhole_2 : decode cX4_writeWhole 2 = .ok (.isub, 1) := by decide +kernel
theorem dX4_writeWhole_3 : decode cX4_writeWhole 3 = .ok (.istore_n 3, 1) := by decide +kernel
theorem dX4_writeWhole_4 : decode cX4_writeWhole 4 = .ok (.iload_n 3, 1) := by decide +kernel
theorem dX4_writeWhole_5 : decode cX4_writeWhole 5 = .ok (.ifCond .lt 29, 3) := by decide +kernel
theorem dX4_writeWhole_8 : decode cX4_writeWhole 8 = .ok (.aload_n 0, 1) := by decide +kernel
theorem dX4_writeWhole_9 : decode cX4_writeWhole 9 = .ok (.ldc2_w 200, 3) := by decide +kernel
theorem dX4_writeWhole_12 : decode cX4_writeWhole 12 = .ok (.iload_n 1, 1) := by decide +kernel
theorem dX4_writeWhole_13 : decode cX4_writeWhole 13 = .ok (.i2l, 1) := by decide +kernel
theorem dX4_writeWhole_14 : decode cX4_writeWhole 14 = .ok (.iload_n 3, 1) := by decide +kernel
theorem dX4_writeWhole_15 : decode cX4_writeWhole 15 = .ok (.invokestatic 303, 3) := by decide +kernel
theorem dX4_writeWhole_18 : decode cX4_writeWhole 18 = .ok (.ldiv, 1) := by decide +kernel
theorem dX4_writeWhole_19 : decode cX4_writeWhole 19 = .ok (.ldc2_w 198, 3) := by decide +kernel
theorem dX4_writeWhole_22 : decode cX4_writeWhole 22 = .ok (.lrem, 1) := by decide +kernel
theorem dX4_writeWhole_23 : decode cX4_writeWhole 23 = .ok (.ladd, 1) := by decide +kernel
theorem dX4_writeWhole_24 : decode cX4_writeWhole 24 = .ok (.l2i, 1) := by decide +kernel
theorem dX4_writeWhole_25 : decode cX4_writeWhole 25 = .ok (.invokevirtual 300, 3) := by decide +kernel
theorem dX4_writeWhole_28 : decode cX4_writeWhole 28 = .ok (.iinc 3 (-1), 3) := by decide +kernel
theorem dX4_writeWhole_31 : decode cX4_writeWhole 31 = .ok (.goto (-27), 3) := by decide +kernel
theorem dX4_writeWhole_34 : decode cX4_writeWhole 34 = .ok (.return_, 1) := by decide +kernel
theorem dX4_writeDay_0 : decode cX4_writeDay 0 = .ok (.aload_n 0, 1) := by decide +kernel
theorem dX4_writeDay_1 : decode cX4_writeDay 1 = .ok (.getfield 261, 3) := by decide +kernel
theorem dX4_writeDay_4 : decode cX4_writeDay 4 = .ok (.bipush 22, 2) := by decide +kernel
theorem dX4_writeDay_6 : decode cX4_writeDay 6 = .ok (.isub, 1) := by decide +kernel
theorem dX4_writeDay_7 : decode cX4_writeDay 7 = .ok (.iconst 3, 1) := by decide +kernel
theorem dX4_writeDay_8 : decode cX4_writeDay 8 = .ok (.idiv, 1) := by decide +kernel
theorem dX4_writeDay_9 : decode cX4_writeDay 9 = .ok (.istore_n 1, 1) := by decide +kernel
theorem dX4_writeDay_10 : decode cX4_writeDay 10 = .ok (.aload_n 0, 1) := by decide +kernel
theorem dX4_writeDay_11 : decode cX4_writeDay 11 = .ok (.getfield 176, 3) := by decide +kernel
theorem dX4_writeDay_14 : decode cX4_writeDay 14 = .ok (.ldc2_w 211, 3) := by decide +kernel
theorem dX4_writeDay_17 : decode cX4_writeDay 17 = .ok (.ldiv, 1) := by decide +kernel
theorem dX4_writeDay_18 : decode cX4_writeDay 18 = .ok (.l2i, 1) := by decide +kernel
theorem dX4_writeDay_19 : decode cX4_writeDay 19 = .ok (.istore_n 2, 1) := by decide +kernel
theorem dX4_writeDay_20 : decode cX4_writeDay 20 = .ok (.aload_n 0, 1) := by decide +kernel
theorem dX4_writeDay_21 : decode cX4_writeDay 21 = .ok (.getfield 176, 3) := by decide +kernel
theorem dX4_writeDay_24 : decode cX4_writeDay 24 = .ok (.ldc2_w 213, 3) := by decide +kernel
theorem dX4_writeDay_27 : decode cX4_writeDay 27 = .ok (.ldiv, 1) := by decide +kernel
theorem dX4_writeDay_28 : decode cX4_writeDay 28 = .ok (.ldc2_w 213, 3) := by decide +kernel
theorem dX4_writeDay_31 : decode cX4_writeDay 31 = .ok (.lrem, 1) := by decide +kernel
theorem dX4_writeDay_32 : decode cX4_writeDay 32 = .ok (.l2i, 1) := by decide +kernel
theorem dX4_writeDay_33 : decode cX4_writeDay 33 = .ok (.istore_n 3, 1) := by decide +kernel
theorem dX4_writeDay_34 : decode cX4_writeDay 34 = .ok (.aload_n 0, 1) := by decide +kernel
theorem dX4_writeDay_35 : decode cX4_writeDay 35 = .ok (.getfield 176, 3) := by decide +kernel
theorem dX4_writeDay_38 : decode cX4_writeDay 38 = .ok (.ldc2_w 213, 3) := by decide +kernel
theorem dX4_writeDay_41 : decode cX4_writeDay 41 = .ok (.lrem, 1) := by decide +kernel
theorem dX4_writeDay_42 : decode cX4_writeDay 42 = .ok (.l2i, 1) := by decide +kernel
theorem dX4_writeDay_43 : decode cX4_writeDay 43 = .ok (.istore 4, 2) := by decide +kernel
theorem dX4_writeDay_45 : decode cX4_writeDay 45 = .ok (.iload_n 1, 1) := by decide +kernel
theorem dX4_writeDay_46 : decode cX4_writeDay 46 = .ok (.iconst 2, 1) := by decide +kernel
theorem dX4_writeDay_47 : decode cX4_writeDay 47 = .ok (.if_icmp .ne 12, 3) := by decide +kernel
theorem dX4_writeDay_50 : decode cX4_writeDay 50 = .ok (.aload_n 0, 1) := by decide +kernel
theorem dX4_writeDay_51 : decode cX4_writeDay 51 = .ok (.iload_n 2, 1) := by decide +kernel
theorem dX4_writeDay_52 : decode cX4_writeDay 52 = .ok (.iconst 4, 1) := by decide +kernel
theorem dX4_writeDay_53 : decode cX4_writeDay 53 = .ok (.invokevirtual 306, 3) := by decide +kernel
theorem dX4_writeDay_56 : decode cX4_writeDay 56 = .ok (.goto 18, 3) := by decide +kernel
theorem dX4_writeDay_59 : decode cX4_writeDay 59 = .ok (.aload_n 0, 1) := by decide +kernel
theorem dX4_writeDay_60 : decode cX4_writeDay 60 = .ok (.iload_n 1, 1) := by decide +kernel
theorem dX4_writeDay_61 : decode cX4_writeDay 61 = .ok (.ifCond .ne 8, 3) := by decide +kernel
theorem dX4_writeDay_64 : decode cX4_writeDay 64 = .ok (.iload 4, 2) := by decide +kernel
theorem dX4_writeDay_66 : decode cX4_writeDay 66 = .ok (.goto 4, 3) := by decide +kernel
theorem dX4_writeDay_69 : decode cX4_writeDay 69 = .ok (.iload_n 3, 1) := by decide +kernel
theorem dX4_writeDay_70 : decode cX4_writeDay 70 = .ok (.iconst 2, 1) := by decide +kernel
theorem dX4_writeDay_71 : decode cX4_writeDay 71 = .ok (.invokevirtual 306, 3) := by decide +kernel
theorem dX4_writeDay_74 : decode cX4_writeDay 74 = .ok (.aload_n 0, 1) := by decide +kernel
theorem dX4_writeDay_75 : decode cX4_writeDay 75 = .ok (.aload_n 0, 1) := by decide +kernel
theorem dX4_writeDay_76 : decode cX4_writeDay 76 = .ok (.getfield 261, 3) := by decide +kernel
theorem dX4_writeDay_79 : decode cX4_writeDay 79 = .ok (.invokestatic 202, 3) := by decide +kernel
theorem dX4_writeDay_82 : decode cX4_writeDay 82 = .ok (.invokevirtual 300, 3) := by decide +kernel
theorem dX4_writeDay_85 : decode cX4_writeDay 85 = .ok (.aload_n 0, 1) := by decide +kernel
theorem dX4_writeDay_86 : decode cX4_writeDay 86 = .ok (.iload_n 1, 1) := by decide +kernel
theorem dX4_writeDay_87 : decode cX4_writeDay 87 = .ok (.iconst 1, 1) := by decide +kernel
theorem dX4_writeDay_88 : decode cX4_writeDay 88 = .ok (.if_icmp .ne 8, 3) := by decide +kernel
theorem dX4_writeDay_91 : decode cX4_writeDay 91 = .ok (.iload 4, 2) := by decide +kernel
theorem dX4_writeDay_93 : decode cX4_writeDay 93 = .ok (.goto 4, 3) := by decide +kernel
theorem dX4_writeDay_96 : decode cX4_writeDay 96 = .ok (.iload_n 3, 1) := by decide +kernel
theorem dX4_writeDay_97 : decode cX4_writeDay 97 = .ok (.iconst 2, 1) := by decide +kernel
theorem dX4_writeDay_98 : decode cX4_writeDay 98 = .ok (.invokevirtual 306, 3) := by decide +kernel
theorem dX4_writeDay_101 : decode cX4_writeDay 101 = .ok (.aload_n 0, 1) := by decide +kernel
theorem dX4_writeDay_102 : decode cX4_writeDay 102 = .ok (.aload_n 0, 1) := by decide +kernel
theorem dX4_writeDay_103 : decode cX4_writeDay 103 = .ok (.getfield 261, 3) := by decide +kernel
theorem dX4_writeDay_106 : decode cX4_writeDay 106 = .ok (.invokestatic 202, 3) := by decide +kernel
theorem dX4_writeDay_109 : decode cX4_writeDay 109 = .ok (.invokevirtual 300, 3) := by decide +kernel
theorem dX4_writeDay_112 : decode cX4_writeDay 112 = .ok (.iload_n 1, 1) := by decide +kernel
theorem dX4_writeDay_113 : decode cX4_writeDay 113 = .ok (.iconst 2, 1) := by decide +kernel
theorem dX4_writeDay_114 : decode cX4_writeDay 114 = .ok (.if_icmp .ne 13, 3) := by decide +kernel
theorem dX4_writeDay_117 : decode cX4_writeDay 117 = .ok (.aload_n 0, 1) := by decide +kernel
theorem dX4_writeDay_118 : decode cX4_writeDay 118 = .ok (.iload 4, 2) := by decide +kernel
theorem dX4_writeDay_120 : decode cX4_writeDay 120 = .ok (.iconst 2, 1) := by decide +kernel
theorem dX4_writeDay_121 : decode cX4_writeDay 121 = .ok (.invokevirtual 306, 3) := by decide +kernel
theorem dX4_writeDay_124 : decode cX4_writeDay 124 = .ok (.goto 9, 3) := by decide +kernel
theorem dX4_writeDay_127 : decode cX4_writeDay 127 = .ok (.aload_n 0, 1) := by decide +kernel
theorem dX4_writeDay_128 : decode cX4_writeDay 128 = .ok (.iload_n 2, 1) := by decide +kernel
theorem dX4_writeDay_129 : decode cX4_writeDay 129 = .ok (.iconst 4, 1) := by decide +kernel
theorem dX4_writeDay_130 : decode cX4_writeDay 130 = .ok (.invokevirtual 306, 3) := by decide +kernel
theorem dX4_writeDay_133 : decode cX4_writeDay 133 = .ok (.return_, 1) := by decide +kernel
theorem dX4_back_0 : decode cX4_back 0 = .ok (.aload_n 0, 1) := by decide +kernel
theorem dX4_back_1 : decode cX4_back 1 = .ok (.iload_n 1, 1) := by decide +kernel
theorem dX4_back_2 : decode cX4_back 2 = .ok (.iload_n 2, 1) := by decide +kernel
theorem dX4_back_3 : decode cX4_back 3 = .ok (.invokevirtual 294, 3) := by decide +kernel
theorem dX4_back_6 : decode cX4_back 6 = .ok (.istore 4, 2) := by decide +kernel
theorem dX4_back_8 : decode cX4_back 8 = .ok (.iload 4, 2) := by decide +kernel
theorem dX4_back_10 : decode cX4_back 10 = .ok (.ifCond .ge 5, 3) := by decide +kernel
theorem dX4_back_13 : decode cX4_back 13 = .ok (.iconst (-1), 1) := by decide +kernel
theorem dX4_back_14 : decode cX4_back 14 = .ok (.ireturn, 1) := by decide +kernel
theorem dX4_back_15 : decode cX4_back 15 = .ok (.aload_n 0, 1) := by decide +kernel
theorem dX4_back_16 : decode cX4_back 16 = .ok (.iload 4, 2) := by decide +kernel
theorem dX4_back_18 : decode cX4_back 18 = .ok (.aload_n 0, 1) := by decide +kernel
theorem dX4_back_19 : decode cX4_back 19 = .ok (.getfield 264, 3) := by decide +kernel
theorem dX4_back_22 : decode cX4_back 22 = .ok (.invokevirtual 243, 3) := by decide +kernel
theorem dX4_back_25 : decode cX4_back 25 = .ok (.istore 5, 2) := by decide +kernel
theorem dX4_back_27 : decode cX4_back 27 = .ok (.iload 5, 2) := by decide +kernel
theorem dX4_back_29 : decode cX4_back 29 = .ok (.ifCond .ne 48, 3) := by decide +kernel
theorem dX4_back_32 : decode cX4_back 32 = .ok (.aload_n 0, 1) := by decide +kernel
theorem dX4_back_33 : decode cX4_back 33 = .ok (.getfield 261, 3) := by decide +kernel
theorem dX4_back_36 : decode cX4_back 36 = .ok (.ifCond .eq 12, 3) := by decide +kernel
theorem dX4_back_39 : decode cX4_back 39 = .ok (.aload_n 0, 1) := by decide +kernel
theorem dX4_back_40 : decode cX4_back 40 = .ok (.getfield 261, 3) := by decide +kernel
theorem dX4_back_43 : decode cX4_back 43 = .ok (.bipush 31, 2) := by decide +kernel
theorem dX4_back_45 : decode cX4_back 45 = .ok (.if_icmp .ne 32, 3) := by decide +kernel
theorem dX4_back_48 : decode cX4_back 48 = .ok (.iload_n 3, 1) := by decide +kernel
theorem dX4_back_49 : decode cX4_back 49 = .ok (.iconst 0, 1) := by decide +kernel
theorem dX4_back_50 : decode cX4_back 50 = .ok (.aload_n 0, 1) := by decide +kernel
theorem dX4_back_51 : decode cX4_back 51 = .ok (.getfield 27, 3) := by decide +kernel
theorem dX4_back_54 : decode cX4_back 54 = .ok (.iload 4, 2) := by decide +kernel
theorem dX4_back_56 : decode cX4_back 56 = .ok (.iaload, 1) := by decide +kernel
theorem dX4_back_57 : decode cX4_back 57 = .ok (.iconst 1, 1) := by decide +kernel
theorem dX4_back_58 : decode cX4_back 58 = .ok (.isub, 1) := by decide +kernel
theorem dX4_back_59 : decode cX4_back 59 = .ok (.invokestatic 56, 3) := by decide +kernel
theorem dX4_back_62 : decode cX4_back 62 = .ok (.ifCond .eq 13, 3) := by decide +kernel
theorem dX4_back_65 : decode cX4_back 65 = .ok (.aload_n 0, 1) := by decide +kernel
theorem dX4_back_66 : decode cX4_back 66 = .ok (.iload 4, 2) := by decide +kernel
theorem dX4_back_68 : decode cX4_back 68 = .ok (.iload_n 3, 1) := by decide +kernel
theorem dX4_back_69 : decode cX4_back 69 = .ok (.invokevirtual 137, 3) := by decide +kernel
theorem dX4_back_72 : decode cX4_back 72 = .ok (.goto 4, 3) := by decide +kernel
theorem dX4_back_75 : decode cX4_back 75 = .ok (.iconst (-1), 1) := by decide +kernel
theorem dX4_back_76 : decode cX4_back 76 = .ok (.ireturn, 1) := by decide +kernel
theorem dX4_back_77 : decode cX4_back 77 = .ok (.aload_n 0, 1) := by decide +kernel
theorem dX4_back_78 : decode cX4_back 78 = .ok (.iconst 0, 1) := by decide +kernel
theorem dX4_back_79 : decode cX4_back 79 = .ok (.putfield 297, 3) := by decide +kernel
theorem dX4_back_82 : decode cX4_back 82 = .ok (.iload 5, 2) := by decide +kernel
theorem dX4_back_84 : decode cX4_back 84 = .ok (.ifCond .eq 52, 3) := by decide +kernel
theorem dX4_back_87 : decode cX4_back 87 = .ok (.aload_n 0, 1) := by decide +kernel
theorem dX4_back_88 : decode cX4_back 88 = .ok (.aload_n 0, 1) := by decide +kernel
theorem dX4_back_89 : decode cX4_back 89 = .ok (.getfield 264, 3) := by decide +kernel
theorem dX4_back_92 : decode cX4_back 92 = .ok (.iconst 2, 1) := by decide +kernel
theorem dX4_back_93 : decode cX4_back 93 = .ok (.if_icmp .ne 8, 3) := by decide +kernel
theorem dX4_back_96 : decode cX4_back 96 = .ok (.ldc 218, 2) := by decide +kernel
theorem dX4_back_98 : decode cX4_back 98 = .ok (.goto 32, 3) := by decide +kernel
theorem dX4_back_101 : decode cX4_back 101 = .ok (.aload_n 0, 1) := by decide +kernel
theorem dX4_back_102 : decode cX4_back 102 = .ok (.getfield 264, 3) := by decide +kernel
theorem dX4_back_105 : decode cX4_back 105 = .ok (.iconst 3, 1) := by decide +kernel
theorem dX4_back_106 : decode cX4_back 106 = .ok (.if_icmp .ne 8, 3) := by decide +kernel
theorem dX4_back_109 : decode cX4_back 109 = .ok (.ldc 220, 2) := by decide +kernel
theorem dX4_back_111 : decode cX4_back 111 = .ok (.goto 19, 3) := by decide +kernel
theorem dX4_back_114 : decode cX4_back 114 = .ok (.aload_n 0, 1) := by decide +kernel
theorem dX4_back_115 : decode cX4_back 115 = .ok (.getfield 264, 3) := by decide +kernel
theorem dX4_back_118 : decode cX4_back 118 = .ok (.iconst 4, 1) := by decide +kernel
theorem dX4_back_119 : decode cX4_back 119 = .ok (.if_icmp .ne 8, 3) := by decide +kernel
theorem dX4_back_122 : decode cX4_back 122 = .ok (.ldc 222, 2) := by decide +kernel
theorem dX4_back_124 : decode cX4_back 124 = .ok (.goto 6, 3) := by decide +kernel
theorem dX4_back_127 : decode cX4_back 127 = .ok (.ldc_w 309, 3) := by decide +kernel
theorem dX4_back_130 : decode cX4_back 130 = .ok (.invokevirtual 311, 3) := by decide +kernel
theorem dX4_back_133 : decode cX4_back 133 = .ok (.goto 51, 3) := by decide +kernel
theorem dX4_back_136 : decode cX4_back 136 = .ok (.aload_n 0, 1) := by decide +kernel
theorem dX4_back_137 : decode cX4_back 137 = .ok (.getfield 261, 3) := by decide +kernel
theorem dX4_back_140 : decode cX4_back 140 = .ok (.bipush 7, 2) := by decide +kernel
theorem dX4_back_142 : decode cX4_back 142 = .ok (.if_icmp .ge 22, 3) := by decide +kernel
theorem dX4_back_145 : decode cX4_back 145 = .ok (.aload_n 0, 1) := by decide +kernel
theorem dX4_back_146 : decode cX4_back 146 = .ok (.aload_n 0, 1) := by decide +kernel
theorem dX4_back_147 : decode cX4_back 147 = .ok (.getfield 261, 3) := by decide +kernel
theorem dX4_back_150 : decode cX4_back 150 = .ok (.aload_n 0, 1) := by decide +kernel
theorem dX4_back_151 : decode cX4_back 151 = .ok (.getfield 176, 3) := by decide +kernel
theorem dX4_back_154 : decode cX4_back 154 = .ok (.l2i, 1) := by decide +kernel
theorem dX4_back_155 : decode cX4_back 155 = .ok (.invokestatic 168, 3) := by decide +kernel
theorem dX4_back_158 : decode cX4_back 158 = .ok (.invokevirtual 311, 3) := by decide +kernel
theorem dX4_back_161 : decode cX4_back 161 = .ok (.goto 23, 3) := by decide +kernel
theorem dX4_back_164 : decode cX4_back 164 = .ok (.aload_n 0, 1) := by decide +kernel
theorem dX4_back_165 : decode cX4_back 165 = .ok (.getfield 261, 3) := by decide +kernel
theorem dX4_back_168 : decode cX4_back 168 = .ok (.bipush 22, 2) := by decide +kernel
theorem dX4_back_170 : decode cX4_back 170 = .ok (.if_icmp .ge 10, 3) := by decide +kernel
theorem dX4_back_173 : decode cX4_back 173 = .ok (.aload_n 0, 1) := by decide +kernel
theorem dX4_back_174 : decode cX4_back 174 = .ok (.invokevirtual 315, 3) := by decide +kernel
theorem dX4_back_177 : decode cX4_back 177 = .ok (.goto 7, 3) := by decide +kernel
theorem dX4_back_180 : decode cX4_back 180 = .ok (.aload_n 0, 1) := by decide +kernel
theorem dX4_back_181 : decode cX4_back 181 = .ok (.invokevirtual 318, 3) := by decide +kernel
theorem dX4_back_184 : decode cX4_back 184 = .ok (.iload_n 3, 1) := by decide +kernel
theorem dX4_back_185 : decode cX4_back 185 = .ok (.iconst 0, 1) := by decide +kernel
theorem dX4_back_186 : decode cX4_back 186 = .ok (.aload_n 0, 1) := by decide +kernel
theorem dX4_back_187 : decode cX4_back 187 = .ok (.getfield 297, 3) := by decide +kernel
theorem dX4_back_190 : decode cX4_back 190 = .ok (.iconst 1, 1) := by decide +kernel
theorem dX4_back_191 : decode cX4_back 191 = .ok (.isub, 1) := by decide +kernel
theorem dX4_back_192 : decode cX4_back 192 = .ok (.invokestatic 56, 3) := by decide +kernel
theorem dX4_back_195 : decode cX4_back 195 = .ok (.ifCond .eq 16, 3) := by decide +kernel
theorem dX4_back_198 : decode cX4_back 198 = .ok (.aload_n 0, 1) := by decide +kernel
theorem dX4_back_199 : decode cX4_back 199 = .ok (.getfield 46, 3) := by decide +kernel
theorem dX4_back_202 : decode cX4_back 202 = .ok (.iload_n 3, 1) := by decide +kernel
theorem dX4_back_203 : decode cX4_back 203 = .ok (.baload, 1) := by decide +kernel
theorem dX4_back_204 : decode cX4_back 204 = .ok (.sipush 255, 3) := by decide +kernel
theorem dX4_back_207 : decode cX4_back 207 = .ok (.iand, 1) := by decide +kernel
theorem dX4_back_208 : decode cX4_back 208 = .ok (.goto 4, 3) := by decide +kernel
theorem dX4_back_211 : decode cX4_back 211 = .ok (.iconst (-1), 1) := by decide +kernel
theorem dX4_back_212 : decode cX4_back 212 = .ok (.ireturn, 1) := by decide +kernel
theorem dX4_isSame_0 : decode cX4_isSame 0 = .ok (.aload_n 0, 1) := by decide +kernel
theorem dX4_isSame_1 : decode cX4_isSame 1 = .ok (.getfield 27, 3) := by decide +kernel
theorem dX4_isSame_4 : decode cX4_isSame 4 = .ok (.iload_n 1, 1) := by decide +kernel
theorem dX4_isSame_5 : decode cX4_isSame 5 = .ok (.iaload, 1) := by decide +kernel
theorem dX4_isSame_6 : decode cX4_isSame 6 = .ok (.aload_n 0, 1) := by decide +kernel
theorem dX4_isSame_7 : decode cX4_isSame 7 = .ok (.getfield 27, 3) := by decide +kernel
theorem dX4_isSame_10 : decode cX4_isSame 10 = .ok (.iload_n 2, 1) := by decide +kernel
theorem dX4_isSame_11 : decode cX4_isSame 11 = .ok (.iaload, 1) := by decide +kernel
theorem dX4_isSame_12 : decode cX4_isSame 12 = .ok (.if_icmp .eq 5, 3) := by decide +kernel
theorem dX4_isSame_15 : decode cX4_isSame 15 = .ok (.iconst 0, 1) := by decide +kernel
theorem dX4_isSame_16 : decode cX4_isSame 16 = .ok (.ireturn, 1) := by decide +kernel
theorem dX4_isSame_17 : decode cX4_isSame 17 = .ok (.iconst 0, 1) := by decide +kernel
theorem dX4_isSame_18 : decode cX4_isSame 18 = .ok (.istore_n 3, 1) := by decide +kernel
theorem dX4_isSame_19 : decode cX4_isSame 19 = .ok (.iload_n 3, 1) := by decide +kernel
theorem dX4_isSame_20 : decode cX4_isSame 20 = .ok (.aload_n 0, 1) := by decide +kernel
theorem dX4_isSame_21 : decode cX4_isSame 21 = .ok (.getfield 27, 3) := by decide +kernel
theorem dX4_isSame_24 : decode cX4_isSame 24 = .ok (.iload_n 1, 1) := by decide +kernel
theorem dX4_isSame_25 : decode cX4_isSame 25 = .ok (.iaload, 1) := by decide +kernel
theorem dX4_isSame_26 : decode cX4_isSame 26 = .ok (.if_icmp .ge 26, 3) := by decide +kernel
theorem dX4_isSame_29 : decode cX4_isSame 29 = .ok (.aload_n 0, 1) := by decide +kernel
theorem dX4_isSame_30 : decode cX4_isSame 30 = .ok (.iload_n 1, 1) := by decide +kernel
theorem dX4_isSame_31 : decode cX4_isSame 31 = .ok (.iload_n 3, 1) := by decide +kernel
theorem dX4_isSame_32 : decode cX4_isSame 32 = .ok (.invokevirtual 137, 3) := by decide +kernel
theorem dX4_isSame_35 : decode cX4_isSame 35 = .ok (.aload_n 0, 1) := by decide +kernel
theorem dX4_isSame_36 : decode cX4_isSame 36 = .ok (.iload_n 2, 1) := by decide +kernel
theorem dX4_isSame_37 : decode cX4_isSame 37 = .ok (.iload_n 3, 1) := by decide +kernel
theorem dX4_isSame_38 : decode cX4_isSame 38 = .ok (.invokevirtual 137, 3) := by decide +kernel
theorem dX4_isSame_41 : decode cX4_isSame 41 = .ok (.if_icmp .eq 5, 3) := by decide +kernel
theorem dX4_isSame_44 : decode cX4_isSame 44 = .ok (.iconst 0, 1) := by decide +kernel
theorem dX4_isSame_45 : decode cX4_isSame 45 = .ok (.ireturn, 1) := by decide +kernel
theorem dX4_isSame_46 : decode cX4_isSame 46 = .ok (.iinc 3 1, 3) := by decide +kernel
theorem dX4_isSame_49 : decode cX4_isSame 49 = .ok (.goto (-30), 3) := by decide +kernel
theorem dX4_isSame_52 : decode cX4_isSame 52 = .ok (.iconst 1, 1) := by decide +kernel
theorem dX4_isSame_53 : decode cX4_isSame 53 = .ok (.ireturn, 1) := by decide +kernel
theorem dX4_key_0 : decode cX4_key 0 = .ok (.aload_n 0, 1) := by decide +kernel
theorem dX4_key_1 : decode cX4_key 1 = .ok (.iload_n 1, 1) := by decide +kernel
theorem dX4_key_2 : decode cX4_key 2 = .ok (.invokevirtual 291, 3) := by decide +kernel
theorem dX4_key_5 : decode cX4_key 5 = .ok (.ifCond .ne 5, 3) := by decide +kernel
theorem dX4_key_8 : decode cX4_key 8 = .ok (.iconst (-1), 1) := by decide +kernel
theorem dX4_key_9 : decode cX4_key 9 = .ok (.ireturn, 1) := by decide +kernel
theorem dX4_key_10 : decode cX4_key 10 = .ok (.iconst 0, 1) := by decide +kernel
theorem dX4_key_11 : decode cX4_key 11 = .ok (.istore_n 2, 1) := by decide +kernel
theorem dX4_key_12 : decode cX4_key 12 = .ok (.iload_n 2, 1) := by decide +kernel
theorem dX4_key_13 : decode cX4_key 13 = .ok (.aload_n 0, 1) := by decide +kernel
theorem dX4_key_14 : decode cX4_key 14 = .ok (.getfield 237, 3) := by decide +kernel
theorem dX4_key_17 : decode cX4_key 17 = .ok (.if_icmp .ge 62, 3) := by decide +kernel
theorem dX4_key_20 : decode cX4_key 20 = .ok (.aload_n 0, 1) := by decide +kernel
theorem dX4_key_21 : decode cX4_key 21 = .ok (.aload_n 0, 1) := by decide +kernel
theorem dX4_key_22 : decode cX4_key 22 = .ok (.getfield 40, 3) := by decide +kernel
theorem dX4_key_25 : decode cX4_key 25 = .ok (.iload_n 2, 1) := by decide +kernel
theorem dX4_key_26 : decode cX4_key 26 = .ok (.iaload, 1) := by decide +kernel
theorem dX4_key_27 : decode cX4_key 27 = .ok (.aload_n 0, 1) := by decide +kernel
theorem dX4_key_28 : decode cX4_key 28 = .ok (.getfield 264, 3) := by decide +kernel
theorem dX4_key_31 : decode cX4_key 31 = .ok (.invokevirtual 243, 3) := by decide +kernel
theorem dX4_key_34 : decode cX4_key 34 = .ok (.ifCond .eq 5, 3) := by decide +kernel
theorem dX4_key_37 : decode cX4_key 37 = .ok (.iconst 0, 1) := by decide +kernel
theorem dX4_key_38 : decode cX4_key 38 = .ok (.ireturn, 1) := by decide +kernel
theorem dX4_key_39 : decode cX4_key 39 = .ok (.iconst 0, 1) := by decide +kernel
theorem dX4_key_40 : decode cX4_key 40 = .ok (.istore_n 3, 1) := by decide +kernel
theorem dX4_key_41 : decode cX4_key 41 = .ok (.iload_n 3, 1) := by decide +kernel
theorem dX4_key_42 : decode cX4_key 42 = .ok (.iload_n 2, 1) := by decide +kernel
theorem dX4_key_43 : decode cX4_key 43 = .ok (.if_icmp .ge 30, 3) := by decide +kernel
theorem dX4_key_46 : decode cX4_key 46 = .ok (.aload_n 0, 1) := by decide +kernel
theorem dX4_key_47 : decode cX4_key 47 = .ok (.aload_n 0, 1) := by decide +kernel
theorem dX4_key_48 : decode cX4_key 48 = .ok (.getfield 40, 3) := by decide +kernel
theorem dX4_key_51 : decode cX4_key 51 = .ok (.iload_n 2, 1) := by decide +kernel
theorem dX4_key_52 : decode cX4_key 52 = .ok (.iaload, 1) := by decide +kernel
theorem dX4_key_53 : decode cX4_key 53 = .ok (.aload_n 0, 1) := by decide +kernel
theorem dX4_key_54 : decode cX4_key 54 = .ok (.getfield 40, 3) := by decide +kernel
theorem dX4_key_57 : decode cX4_key 57 = .ok (.iload_n 3, 1) := by decide +kernel
theorem dX4_key_58 : decode cX4_key 58 = .ok (.iaload, 1) := by decide +kernel
theorem dX4_key_59 : decode cX4_key 59 = .ok (.invokevirtual 321, 3) := by decide +kernel
theorem dX4_key_62 : decode cX4_key 62 = .ok (.ifCond .eq 5, 3) := by decide +kernel
theorem dX4_key_65 : decode cX4_key 65 = .ok (.iconst 0, 1) := by decide +kernel
theorem dX4_key_66 : decode cX4_key 66 = .ok (.ireturn, 1) := by decide +kernel
theorem dX4_key_67 : decode cX4_key 67 = .ok (.iinc 3 1, 3) := by decide +kernel
theorem dX4_key_70 : decode cX4_key 70 = .ok (.goto (-29), 3) := by decide +kernel
theorem dX4_key_73 : decode cX4_key 73 = .ok (.iinc 2 1, 3) := by decide +kernel
theorem dX4_key_76 : decode cX4_key 76 = .ok (.goto (-64), 3) := by decide +kernel
theorem dX4_key_79 : decode cX4_key 79 = .ok (.iconst 1, 1) := by decide +kernel
theorem dX4_key_80 : decode cX4_key 80 = .ok (.ireturn, 1) := by decide +kernel
