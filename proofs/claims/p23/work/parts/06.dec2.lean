theorem dX2_init_0 : decode cX2_init 0 = .ok (.aload_n 0, 1) := by decide +kernel
theorem dX2_init_1 : decode cX2_init 1 = .ok (.invokespecial 3, 3) := by decide +kernel
theorem dX2_init_4 : decode cX2_init 4 = .ok (.aload_n 0, 1) := by decide +kernel
theorem dX2_init_5 : decode cX2_init 5 = .ok (.aload_n 1, 1) := by decide +kernel
theorem dX2_init_6 : decode cX2_init 6 = .ok (.putfield 9, 3) := by decide +kernel
theorem dX2_init_9 : decode cX2_init 9 = .ok (.return_, 1) := by decide +kernel
theorem dX2_prepare_0 : decode cX2_prepare 0 = .ok (.aload_n 0, 1) := by decide +kernel
theorem dX2_prepare_1 : decode cX2_prepare 1 = .ok (.iload_n 1, 1) := by decide +kernel
theorem dX2_prepare_2 : decode cX2_prepare 2 = .ok (.putfield 15, 3) := by decide +kernel
theorem dX2_prepare_5 : decode cX2_prepare 5 = .ok (.aload_n 0, 1) := by decide +kernel
theorem dX2_prepare_6 : decode cX2_prepare 6 = .ok (.iload_n 2, 1) := by decide +kernel
theorem dX2_prepare_7 : decode cX2_prepare 7 = .ok (.putfield 19, 3) := by decide +kernel
theorem dX2_prepare_10 : decode cX2_prepare 10 = .ok (.return_, 1) := by decide +kernel
theorem dX2_isNumber_0 : decode cX2_isNumber 0 = .ok (.iload_n 0, 1) := by decide +kernel
theorem dX2_isNumber_1 : decode cX2_isNumber 1 = .ok (.bipush 7, 2) := by decide +kernel
theorem dX2_isNumber_3 : decode cX2_isNumber 3 = .ok (.if_icmp .lt 13, 3) := by decide +kernel
theorem dX2_isNumber_6 : decode cX2_isNumber 6 = .ok (.iload_n 0, 1) := by decide +kernel
theorem dX2_isNumber_7 : decode cX2_isNumber 7 = .ok (.bipush 21, 2) := by decide +kernel
theorem dX2_isNumber_9 : decode cX2_isNumber 9 = .ok (.if_icmp .gt 7, 3) := by decide +kernel
theorem dX2_isNumber_12 : decode cX2_isNumber 12 = .ok (.iconst 1, 1) := by decide +kernel
theorem dX2_isNumber_13 : decode cX2_isNumber 13 = .ok (.goto 4, 3) := by decide +kernel
theorem dX2_isNumber_16 : decode cX2_isNumber 16 = .ok (.iconst 0, 1) := by decide +kernel
theorem dX2_isNumber_17 : decode cX2_isNumber 17 = .ok (.ireturn, 1) := by decide +kernel
theorem dX2_tells_0 : decode cX2_tells 0 = .ok (.aload_n 0, 1) := by decide +kernel
theorem dX2_tells_1 : decode cX2_tells 1 = .ok (.iconst 0, 1) := by decide +kernel
theorem dX2_tells_2 : decode cX2_tells 2 = .ok (.putfield 23, 3) := by decide +kernel
theorem dX2_tells_5 : decode cX2_tells 5 = .ok (.aload_n 0, 1) := by decide +kernel
theorem dX2_tells_6 : decode cX2_tells 6 = .ok (.iconst 0, 1) := by decide +kernel
theorem dX2_tells_7 : decode cX2_tells 7 = .ok (.putfield 26, 3) := by decide +kernel
theorem dX2_tells_10 : decode cX2_tells 10 = .ok (.iload_n 1, 1) := by decide +kernel
theorem dX2_tells_11 : decode cX2_tells 11 = .ok (.ifCond .ne 5, 3) := by decide +kernel
theorem dX2_tells_14 : decode cX2_tells 14 = .ok (.iconst 1, 1) := by decide +kernel
theorem dX2_tells_15 : decode cX2_tells 15 = .ok (.ireturn, 1) := by decide +kernel
theorem dX2_tells_16 : decode cX2_tells 16 = .ok (.iload_n 1, 1) := by decide +kernel
theorem dX2_tells_17 : decode cX2_tells 17 = .ok (.bipush 6, 2) := by decide +kernel
theorem dX2_tells_19 : decode cX2_tells 19 = .ok (.if_icmp .gt 10, 3) := by decide +kernel
theorem dX2_tells_22 : decode cX2_tells 22 = .ok (.aload_n 0, 1) := by decide +kernel
theorem dX2_tells_23 : decode cX2_tells 23 = .ok (.iload_n 1, 1) := by decide +kernel
theorem dX2_tells_24 : decode cX2_tells 24 = .ok (.iload_n 2, 1) := by decide +kernel
theorem dX2_tells_25 : decode cX2_tells 25 = .ok (.invokevirtual 29, 3) := by decide +kernel
theorem dX2_tells_28 : decode cX2_tells 28 = .ok (.ireturn, 1) := by decide +kernel
theorem dX2_tells_29 : decode cX2_tells 29 = .ok (.iload_n 1, 1) := by decide +kernel
theorem dX2_tells_30 : decode cX2_tells 30 = .ok (.bipush 21, 2) := by decide +kernel
theorem dX2_tells_32 : decode cX2_tells 32 = .ok (.if_icmp .gt 10, 3) := by decide +kernel
theorem dX2_tells_35 : decode cX2_tells 35 = .ok (.aload_n 0, 1) := by decide +kernel
theorem dX2_tells_36 : decode cX2_tells 36 = .ok (.iload_n 1, 1) := by decide +kernel
theorem dX2_tells_37 : decode cX2_tells 37 = .ok (.iload_n 2, 1) := by decide +kernel
theorem dX2_tells_38 : decode cX2_tells 38 = .ok (.invokevirtual 33, 3) := by decide +kernel
theorem dX2_tells_41 : decode cX2_tells 41 = .ok (.ireturn, 1) := by decide +kernel
theorem dX2_tells_42 : decode cX2_tells 42 = .ok (.iload_n 1, 1) := by decide +kernel
theorem dX2_tells_43 : decode cX2_tells 43 = .ok (.bipush 30, 2) := by decide +kernel
theorem dX2_tells_45 : decode cX2_tells 45 = .ok (.if_icmp .gt 10, 3) := by decide +kernel
theorem dX2_tells_48 : decode cX2_tells 48 = .ok (.aload_n 0, 1) := by decide +kernel
theorem dX2_tells_49 : decode cX2_tells 49 = .ok (.iload_n 1, 1) := by decide +kernel
theorem dX2_tells_50 : decode cX2_tells 50 = .ok (.iload_n 2, 1) := by decide +kernel
theorem dX2_tells_51 : decode cX2_tells 51 = .ok (.invokevirtual 36, 3) := by decide +kernel
theorem dX2_tells_54 : decode cX2_tells 54 = .ok (.ireturn, 1) := by decide +kernel
theorem dX2_tells_55 : decode cX2_tells 55 = .ok (.aload_n 0, 1) := by decide +kernel
theorem dX2_tells_56 : decode cX2_tells 56 = .ok (.iload_n 2, 1) := by decide +kernel
theorem dX2_tells_57 : decode cX2_tells 57 = .ok (.invokevirtual 39, 3) := by decide +kernel
theorem dX2_tells_60 : decode cX2_tells 60 = .ok (.ireturn, 1) := by decide +kernel
theorem dX2_tellsFlag_0 : decode cX2_tellsFlag 0 = .ok (.aload_n 0, 1) := by decide +kernel
theorem dX2_tellsFlag_1 : decode cX2_tellsFlag 1 = .ok (.aload_n 0, 1) := by decide +kernel
theorem dX2_tellsFlag_2 : decode cX2_tellsFlag 2 = .ok (.getfield 9, 3) := by decide +kernel
theorem dX2_tellsFlag_5 : decode cX2_tellsFlag 5 = .ok (.iload_n 2, 1) := by decide +kernel
theorem dX2_tellsFlag_6 : decode cX2_tellsFlag 6 = .ok (.iload_n 1, 1) := by decide +kernel
theorem dX2_tellsFlag_7 : decode cX2_tellsFlag 7 = .ok (.invokestatic 43, 3) := by decide +kernel
theorem dX2_tellsFlag_10 : decode cX2_tellsFlag 10 = .ok (.invokevirtual 47, 3) := by decide +kernel
theorem dX2_tellsFlag_13 : decode cX2_tellsFlag 13 = .ok (.ifCond .eq 7, 3) := by decide +kernel
theorem dX2_tellsFlag_16 : decode cX2_tellsFlag 16 = .ok (.iconst 1, 1) := by decide +kernel
theorem dX2_tellsFlag_17 : decode cX2_tellsFlag 17 = .ok (.goto 4, 3) := by decide +kernel
theorem dX2_tellsFlag_20 : decode cX2_tellsFlag 20 = .ok (.iconst 0, 1) := by decide +kernel
theorem dX2_tellsFlag_21 : decode cX2_tellsFlag 21 = .ok (.putfield 23, 3) := by decide +kernel
theorem dX2_tellsFlag_24 : decode cX2_tellsFlag 24 = .ok (.aload_n 0, 1) := by decide +kernel
theorem dX2_tellsFlag_25 : decode cX2_tellsFlag 25 = .ok (.getfield 23, 3) := by decide +kernel
theorem dX2_tellsFlag_28 : decode cX2_tellsFlag 28 = .ok (.iconst 1, 1) := by decide +kernel
theorem dX2_tellsFlag_29 : decode cX2_tellsFlag 29 = .ok (.if_icmp .eq 18, 3) := by decide +kernel
theorem dX2_tellsFlag_32 : decode cX2_tellsFlag 32 = .ok (.aload_n 0, 1) := by decide +kernel
theorem dX2_tellsFlag_33 : decode cX2_tellsFlag 33 = .ok (.getfield 9, 3) := by decide +kernel
theorem dX2_tellsFlag_36 : decode cX2_tellsFlag 36 = .ok (.iload_n 2, 1) := by decide +kernel
theorem dX2_tellsFlag_37 : decode cX2_tellsFlag 37 = .ok (.iload_n 1, 1) := by decide +kernel
theorem dX2_tellsFlag_38 : decode cX2_tellsFlag 38 = .ok (.invokestatic 53, 3) := by decide +kernel
theorem dX2_tellsFlag_41 : decode cX2_tellsFlag 41 = .ok (.invokevirtual 47, 3) := by decide +kernel
theorem dX2_tellsFlag_44 : decode cX2_tellsFlag 44 = .ok (.ifCond .eq 7, 3) := by decide +kernel
theorem dX2_tellsFlag_47 : decode cX2_tellsFlag 47 = .ok (.iconst 1, 1) := by decide +kernel
theorem dX2_tellsFlag_48 : decode cX2_tellsFlag 48 = .ok (.goto 4, 3) := by decide +kernel
theorem dX2_tellsFlag_51 : decode cX2_tellsFlag 51 = .ok (.iconst 0, 1) := by decide +kernel
theorem dX2_tellsFlag_52 : decode cX2_tellsFlag 52 = .ok (.ireturn, 1) := by decide +kernel
theorem dX2_noOf_0 : decode cX2_noOf 0 = .ok (.iload_n 0, 1) := by decide +kernel
theorem dX2_noOf_1 : decode cX2_noOf 1 = .ok (.tableswitch 50 1 5 #[35, 38, 41, 44, 47], 35) := by decide +kernel
theorem dX2_noOf_36 : decode cX2_noOf 36 = .ok (.ldc 56, 2) := by decide +kernel
theorem dX2_noOf_38 : decode cX2_noOf 38 = .ok (.areturn, 1) := by decide +kernel
theorem dX2_noOf_39 : decode cX2_noOf 39 = .ok (.ldc 58, 2) := by decide +kernel
theorem dX2_noOf_41 : decode cX2_noOf 41 = .ok (.areturn, 1) := by decide +kernel
theorem dX2_noOf_42 : decode cX2_noOf 42 = .ok (.ldc 60, 2) := by decide +kernel
theorem dX2_noOf_44 : decode cX2_noOf 44 = .ok (.areturn, 1) := by decide +kernel
theorem dX2_noOf_45 : decode cX2_noOf 45 = .ok (.ldc 62, 2) := by decide +kernel
theorem dX2_noOf_47 : decode cX2_noOf 47 = .ok (.areturn, 1) := by decide +kernel
theorem dX2_noOf_48 : decode cX2_noOf 48 = .ok (.ldc 64, 2) := by decide +kernel
theorem dX2_noOf_50 : decode cX2_noOf 50 = .ok (.areturn, 1) := by decide +kernel
theorem dX2_noOf_51 : decode cX2_noOf 51 = .ok (.ldc 66, 2) := by decide +kernel
theorem dX2_noOf_53 : decode cX2_noOf 53 = .ok (.areturn, 1) := by decide +kernel
theorem dX2_yesOf_0 : decode cX2_yesOf 0 = .ok (.iload_n 0, 1) := by decide +kernel
theorem dX2_yesOf_1 : decode cX2_yesOf 1 = .ok (.tableswitch 50 1 5 #[35, 38, 41, 44, 47], 35) := by decide +kernel
theorem dX2_yesOf_36 : decode cX2_yesOf 36 = .ok (.ldc 68, 2) := by decide +kernel
theorem dX2_yesOf_38 : decode cX2_yesOf 38 = .ok (.areturn, 1) := by decide +kernel
theorem dX2_yesOf_39 : decode cX2_yesOf 39 = .ok (.ldc 70, 2) := by decide +kernel
theorem dX2_yesOf_41 : decode cX2_yesOf 41 = .ok (.areturn, 1) := by decide +kernel
theorem dX2_yesOf_42 : decode cX2_yesOf 42 = .ok (.ldc 72, 2) := by decide +kernel
theorem dX2_yesOf_44 : decode cX2_yesOf 44 = .ok (.areturn, 1) := by decide +kernel
theorem dX2_yesOf_45 : decode cX2_yesOf 45 = .ok (.ldc 74, 2) := by decide +kernel
theorem dX2_yesOf_47 : decode cX2_yesOf 47 = .ok (.areturn, 1) := by decide +kernel
theorem dX2_yesOf_48 : decode cX2_yesOf 48 = .ok (.ldc 76, 2) := by decide +kernel
theorem dX2_yesOf_50 : decode cX2_yesOf 50 = .ok (.areturn, 1) := by decide +kernel
theorem dX2_yesOf_51 : decode cX2_yesOf 51 = .ok (.ldc 78, 2) := by decide +kernel
theorem dX2_yesOf_53 : decode cX2_yesOf 53 = .ok (.areturn, 1) := by decide +kernel
theorem dX2_decimalsOf_0 : decode cX2_decimalsOf 0 = .ok (.iload_n 0, 1) := by decide +kernel
theorem dX2_decimalsOf_1 : decode cX2_decimalsOf 1 = .ok (.bipush 10, 2) := by decide +kernel
theorem dX2_decimalsOf_3 : decode cX2_decimalsOf 3 = .ok (.if_icmp .ge 7, 3) := by decide +kernel
theorem dX2_decimalsOf_6 : decode cX2_decimalsOf 6 = .ok (.iconst 0, 1) := by decide +kernel
theorem dX2_decimalsOf_7 : decode cX2_decimalsOf 7 = .ok (.goto 11, 3) := by decide +kernel
theorem dX2_decimalsOf_10 : decode cX2_decimalsOf 10 = .ok (.iload_n 0, 1) := by decide +kernel
theorem dX2_decimalsOf_11 : decode cX2_decimalsOf 11 = .ok (.bipush 10, 2) := by decide +kernel
theorem dX2_decimalsOf_13 : decode cX2_decimalsOf 13 = .ok (.isub, 1) := by decide +kernel
theorem dX2_decimalsOf_14 : decode cX2_decimalsOf 14 = .ok (.iconst 4, 1) := by decide +kernel
theorem dX2_decimalsOf_15 : decode cX2_decimalsOf 15 = .ok (.idiv, 1) := by decide +kernel
theorem dX2_decimalsOf_16 : decode cX2_decimalsOf 16 = .ok (.iconst 1, 1) := by decide +kernel
theorem dX2_decimalsOf_17 : decode cX2_decimalsOf 17 = .ok (.iadd, 1) := by decide +kernel
theorem dX2_decimalsOf_18 : decode cX2_decimalsOf 18 = .ok (.ireturn, 1) := by decide +kernel
theorem dX2_pointOf_0 : decode cX2_pointOf 0 = .ok (.iload_n 0, 1) := by decide +kernel
theorem dX2_pointOf_1 : decode cX2_pointOf 1 = .ok (.bipush 10, 2) := by decide +kernel
theorem dX2_pointOf_3 : decode cX2_pointOf 3 = .ok (.isub, 1) := by decide +kernel
theorem dX2_pointOf_4 : decode cX2_pointOf 4 = .ok (.iconst 4, 1) := by decide +kernel
theorem dX2_pointOf_5 : decode cX2_pointOf 5 = .ok (.irem, 1) := by decide +kernel
theorem dX2_pointOf_6 : decode cX2_pointOf 6 = .ok (.iconst 2, 1) := by decide +kernel
theorem dX2_pointOf_7 : decode cX2_pointOf 7 = .ok (.if_icmp .ge 8, 3) := by decide +kernel
theorem dX2_pointOf_10 : decode cX2_pointOf 10 = .ok (.bipush 46, 2) := by decide +kernel
theorem dX2_pointOf_12 : decode cX2_pointOf 12 = .ok (.goto 5, 3) := by decide +kernel
theorem dX2_pointOf_15 : decode cX2_pointOf 15 = .ok (.bipush 44, 2) := by decide +kernel
theorem dX2_pointOf_17 : decode cX2_pointOf 17 = .ok (.ireturn, 1) := by decide +kernel
theorem dX2_thousandsOf_0 : decode cX2_thousandsOf 0 = .ok (.iload_n 0, 1) := by decide +kernel
theorem dX2_thousandsOf_1 : decode cX2_thousandsOf 1 = .ok (.bipush 10, 2) := by decide +kernel
theorem dX2_thousandsOf_3 : decode cX2_thousandsOf 3 = .ok (.if_icmp .ge 27, 3) := by decide +kernel
theorem dX2_thousandsOf_6 : decode cX2_thousandsOf 6 = .ok (.iload_n 0, 1) := by decide +kernel
theorem dX2_thousandsOf_7 : decode cX2_thousandsOf 7 = .ok (.bipush 7, 2) := by decide +kernel
theorem dX2_thousandsOf_9 : decode cX2_thousandsOf 9 = .ok (.if_icmp .ne 7, 3) := by decide +kernel
theorem dX2_thousandsOf_12 : decode cX2_thousandsOf 12 = .ok (.iconst (-1), 1) := by decide +kernel
theorem dX2_thousandsOf_13 : decode cX2_thousandsOf 13 = .ok (.goto 16, 3) := by decide +kernel
theorem dX2_thousandsOf_16 : decode cX2_thousandsOf 16 = .ok (.iload_n 0, 1) := by decide +kernel
theorem dX2_thousandsOf_17 : decode cX2_thousandsOf 17 = .ok (.bipush 8, 2) := by decide +kernel
theorem dX2_thousandsOf_19 : decode cX2_thousandsOf 19 = .ok (.if_icmp .ne 8, 3) := by decide +kernel
theorem dX2_thousandsOf_22 : decode cX2_thousandsOf 22 = .ok (.bipush 44, 2) := by decide +kernel
theorem dX2_thousandsOf_24 : decode cX2_thousandsOf 24 = .ok (.goto 5, 3) := by decide +kernel
theorem dX2_thousandsOf_27 : decode cX2_thousandsOf 27 = .ok (.bipush 46, 2) := by decide +kernel
theorem dX2_thousandsOf_29 : decode cX2_thousandsOf 29 = .ok (.ireturn, 1) := by decide +kernel
theorem dX2_thousandsOf_30 : decode cX2_thousandsOf 30 = .ok (.iload_n 0, 1) := by decide +kernel
theorem dX2_thousandsOf_31 : decode cX2_thousandsOf 31 = .ok (.bipush 10, 2) := by decide +kernel
theorem dX2_thousandsOf_33 : decode cX2_thousandsOf 33 = .ok (.isub, 1) := by decide +kernel
theorem dX2_thousandsOf_34 : decode cX2_thousandsOf 34 = .ok (.iconst 4, 1) := by decide +kernel
theorem dX2_thousandsOf_35 : decode cX2_thousandsOf 35 = .ok (.irem, 1) := by decide +kernel
theorem dX2_thousandsOf_36 : decode cX2_thousandsOf 36 = .ok (.istore_n 1, 1) := by decide +kernel
theorem dX2_thousandsOf_37 : decode cX2_thousandsOf 37 = .ok (.iload_n 1, 1) := by decide +kernel
theorem dX2_thousandsOf_38 : decode cX2_thousandsOf 38 = .ok (.iconst 1, 1) := by decide +kernel
theorem dX2_thousandsOf_39 : decode cX2_thousandsOf 39 = .ok (.if_icmp .ne 8, 3) := by decide +kernel
theorem dX2_thousandsOf_42 : decode cX2_thousandsOf 42 = .ok (.bipush 44, 2) := by decide +kernel
theorem dX2_thousandsOf_44 : decode cX2_thousandsOf 44 = .ok (.goto 14, 3) := by decide +kernel
theorem dX2_thousandsOf_47 : decode cX2_thousandsOf 47 = .ok (.iload_n 1, 1) := by decide +kernel
theorem dX2_thousandsOf_48 : decode cX2_thousandsOf 48 = .ok (.iconst 3, 1) := by decide +kernel
theorem dX2_thousandsOf_49 : decode cX2_thousandsOf 49 = .ok (.if_icmp .ne 8, 3) := by decide +kernel
theorem dX2_thousandsOf_52 : decode cX2_thousandsOf 52 = .ok (.bipush 46, 2) := by decide +kernel
theorem dX2_thousandsOf_54 : decode cX2_thousandsOf 54 = .ok (.goto 4, 3) := by decide +kernel
theorem dX2_thousandsOf_57 : decode cX2_thousandsOf 57 = .ok (.iconst (-1), 1) := by decide +kernel
theorem dX2_thousandsOf_58 : decode cX2_thousandsOf 58 = .ok (.ireturn, 1) := by decide +kernel
theorem dX2_tellsNumber_0 : decode cX2_tellsNumber 0 = .ok (.iload_n 1, 1) := by decide +kernel
theorem dX2_tellsNumber_1 : decode cX2_tellsNumber 1 = .ok (.invokestatic 80, 3) := by decide +kernel
theorem dX2_tellsNumber_4 : decode cX2_tellsNumber 4 = .ok (.istore_n 3, 1) := by decide +kernel
theorem dX2_tellsNumber_5 : decode cX2_tellsNumber 5 = .ok (.aload_n 0, 1) := by decide +kernel
theorem dX2_tellsNumber_6 : decode cX2_tellsNumber 6 = .ok (.getfield 9, 3) := by decide +kernel
theorem dX2_tellsNumber_9 : decode cX2_tellsNumber 9 = .ok (.iload_n 2, 1) := by decide +kernel
theorem dX2_tellsNumber_10 : decode cX2_tellsNumber 10 = .ok (.invokevirtual 84, 3) := by decide +kernel
theorem dX2_tellsNumber_13 : decode cX2_tellsNumber 13 = .ok (.istore 4, 2) := by decide +kernel
theorem dX2_tellsNumber_15 : decode cX2_tellsNumber 15 = .ok (.iload_n 3, 1) := by decide +kernel
theorem dX2_tellsNumber_16 : decode cX2_tellsNumber 16 = .ok (.ifCond .le 12, 3) := by decide +kernel
theorem dX2_tellsNumber_19 : decode cX2_tellsNumber 19 = .ok (.iload 4, 2) := by decide +kernel
theorem dX2_tellsNumber_21 : decode cX2_tellsNumber 21 = .ok (.iload_n 3, 1) := by decide +kernel
theorem dX2_tellsNumber_22 : decode cX2_tellsNumber 22 = .ok (.isub, 1) := by decide +kernel
theorem dX2_tellsNumber_23 : decode cX2_tellsNumber 23 = .ok (.iconst 1, 1) := by decide +kernel
theorem dX2_tellsNumber_24 : decode cX2_tellsNumber 24 = .ok (.isub, 1) := by decide +kernel
theorem dX2_tellsNumber_25 : decode cX2_tellsNumber 25 = .ok (.goto 5, 3) := by decide +kernel
theorem dX2_tellsNumber_28 : decode cX2_tellsNumber 28 = .ok (.iload 4, 2) := by decide +kernel
theorem dX2_tellsNumber_30 : decode cX2_tellsNumber 30 = .ok (.istore 5, 2) := by decide +kernel
theorem dX2_tellsNumber_32 : decode cX2_tellsNumber 32 = .ok (.aload_n 0, 1) := by decide +kernel
theorem dX2_tellsNumber_33 : decode cX2_tellsNumber 33 = .ok (.getfield 9, 3) := by decide +kernel
theorem dX2_tellsNumber_36 : decode cX2_tellsNumber 36 = .ok (.iload_n 2, 1) := by decide +kernel
theorem dX2_tellsNumber_37 : decode cX2_tellsNumber 37 = .ok (.iconst 0, 1) := by decide +kernel
theorem dX2_tellsNumber_38 : decode cX2_tellsNumber 38 = .ok (.invokevirtual 87, 3) := by decide +kernel
theorem dX2_tellsNumber_41 : decode cX2_tellsNumber 41 = .ok (.bipush 45, 2) := by decide +kernel
theorem dX2_tellsNumber_43 : decode cX2_tellsNumber 43 = .ok (.if_icmp .ne 7, 3) := by decide +kernel
theorem dX2_tellsNumber_46 : decode cX2_tellsNumber 46 = .ok (.iconst 1, 1) := by decide +kernel
theorem dX2_tellsNumber_47 : decode cX2_tellsNumber 47 = .ok (.goto 4, 3) := by decide +kernel
theorem dX2_tellsNumber_50 : decode cX2_tellsNumber 50 = .ok (.iconst 0, 1) := by decide +kernel
theorem dX2_tellsNumber_51 : decode cX2_tellsNumber 51 = .ok (.istore 6, 2) := by decide +kernel
theorem dX2_tellsNumber_53 : decode cX2_tellsNumber 53 = .ok (.iload_n 1, 1) := by decide +kernel
theorem dX2_tellsNumber_54 : decode cX2_tellsNumber 54 = .ok (.invokestatic 91, 3) := by decide +kernel
theorem dX2_tellsNumber_57 : decode cX2_tellsNumber 57 = .ok (.istore 7, 2) := by decide +kernel
theorem dX2_tellsNumber_59 : decode cX2_tellsNumber 59 = .ok (.iload_n 1, 1) := by decide +kernel
theorem dX2_tellsNumber_60 : decode cX2_tellsNumber 60 = .ok (.invokestatic 94, 3) := by decide +kernel
theorem dX2_tellsNumber_63 : decode cX2_tellsNumber 63 = .ok (.istore 8, 2) := by decide +kernel
theorem dX2_tellsNumber_65 : decode cX2_tellsNumber 65 = .ok (.iload 5, 2) := by decide +kernel
theorem dX2_tellsNumber_67 : decode cX2_tellsNumber 67 = .ok (.iload 6, 2) := by decide +kernel
theorem dX2_tellsNumber_69 : decode cX2_tellsNumber 69 = .ok (.if_icmp .le 27, 3) := by decide +kernel
theorem dX2_tellsNumber_72 : decode cX2_tellsNumber 72 = .ok (.iload 5, 2) := by decide +kernel
theorem dX2_tellsNumber_74 : decode cX2_tellsNumber 74 = .ok (.iload 6, 2) := by decide +kernel
theorem dX2_tellsNumber_76 : decode cX2_tellsNumber 76 = .ok (.isub, 1) := by decide +kernel
theorem dX2_tellsNumber_77 : decode cX2_tellsNumber 77 = .ok (.iconst 1, 1) := by decide +kernel
theorem dX2_tellsNumber_78 : decode cX2_tellsNumber 78 = .ok (.if_icmp .le 20, 3) := by decide +kernel
theorem dX2_tellsNumber_81 : decode cX2_tellsNumber 81 = .ok (.aload_n 0, 1) := by decide +kernel
theorem dX2_tellsNumber_82 : decode cX2_tellsNumber 82 = .ok (.getfield 9, 3) := by decide +kernel
theorem dX2_tellsNumber_85 : decode cX2_tellsNumber 85 = .ok (.iload_n 2, 1) := by decide +kernel
theorem dX2_tellsNumber_86 : decode cX2_tellsNumber 86 = .ok (.iload 6, 2) := by decide +kernel
theorem dX2_tellsNumber_88 : decode cX2_tellsNumber 88 = .ok (.invokevirtual 87, 3) := by decide +kernel
theorem dX2_tellsNumber_91 : decode cX2_tellsNumber 91 = .ok (.bipush 48, 2) := by decide +kernel
theorem dX2_tellsNumber_93 : decode cX2_tellsNumber 93 = .ok (.if_icmp .ne 5, 3) := by decide +kernel
theorem dX2_tellsNumber_96 : decode cX2_tellsNumber 96 = .ok (.iconst 0, 1) := by decide +kernel
theorem dX2_tellsNumber_97 : decode cX2_tellsNumber 97 = .ok (.ireturn, 1) := by decide +kernel
theorem dX2_tellsNumber_98 : decode cX2_tellsNumber 98 = .ok (.iload 6, 2) := by decide +kernel
theorem dX2_tellsNumber_100 : decode cX2_tellsNumber 100 = .ok (.istore 9, 2) := by decide +kernel
theorem dX2_tellsNumber_102 : decode cX2_tellsNumber 102 = .ok (.iload 9, 2) := by decide +kernel
theorem dX2_tellsNumber_104 : decode cX2_tellsNumber 104 = .ok (.iload 4, 2) := by decide +kernel
theorem dX2_tellsNumber_106 : decode cX2_tellsNumber 106 = .ok (.if_icmp .ge 109, 3) := by decide +kernel
theorem dX2_tellsNumber_109 : decode cX2_tellsNumber 109 = .ok (.aload_n 0, 1) := by decide +kernel
theorem dX2_tellsNumber_110 : decode cX2_tellsNumber 110 = .ok (.getfield 9, 3) := by decide +kernel
theorem dX2_tellsNumber_113 : decode cX2_tellsNumber 113 = .ok (.iload_n 2, 1) := by decide +kernel
theorem dX2_tellsNumber_114 : decode cX2_tellsNumber 114 = .ok (.iload 9, 2) := by decide +kernel
theorem dX2_tellsNumber_116 : decode cX2_tellsNumber 116 = .ok (.invokevirtual 87, 3) := by decide +kernel
theorem dX2_tellsNumber_119 : decode cX2_tellsNumber 119 = .ok (.istore 10, 2) := by decide +kernel
theorem dX2_tellsNumber_121 : decode cX2_tellsNumber 121 = .ok (.iload 5, 2) := by decide +kernel
theorem dX2_tellsNumber_123 : decode cX2_tellsNumber 123 = .ok (.iload 9, 2) := by decide +kernel
theorem dX2_tellsNumber_125 : decode cX2_tellsNumber 125 = .ok (.isub, 1) := by decide +kernel
theorem dX2_tellsNumber_126 : decode cX2_tellsNumber 126 = .ok (.iload 7, 2) := by decide +kernel
theorem dX2_tellsNumber_128 : decode cX2_tellsNumber 128 = .ok (.iload 8, 2) := by decide +kernel
theorem dX2_tellsNumber_130 : decode cX2_tellsNumber 130 = .ok (.invokestatic 97, 3) := by decide +kernel
theorem dX2_tellsNumber_133 : decode cX2_tellsNumber 133 = .ok (.istore 11, 2) := by decide +kernel
theorem dX2_tellsNumber_135 : decode cX2_tellsNumber 135 = .ok (.iload 11, 2) := by decide +kernel
theorem dX2_tellsNumber_137 : decode cX2_tellsNumber 137 = .ok (.iconst (-1), 1) := by decide +kernel
theorem dX2_tellsNumber_138 : decode cX2_tellsNumber 138 = .ok (.if_icmp .eq 19, 3) := by decide +kernel
theorem dX2_tellsNumber_141 : decode cX2_tellsNumber 141 = .ok (.iload 10, 2) := by decide +kernel
theorem dX2_tellsNumber_143 : decode cX2_tellsNumber 143 = .ok (.iload 11, 2) := by decide +kernel
theorem dX2_tellsNumber_145 : decode cX2_tellsNumber 145 = .ok (.if_icmp .ne 10, 3) := by decide +kernel
theorem dX2_tellsNumber_148 : decode cX2_tellsNumber 148 = .ok (.iload 9, 2) := by decide +kernel
theorem dX2_tellsNumber_150 : decode cX2_tellsNumber 150 = .ok (.iload 6, 2) := by decide +kernel
theorem dX2_tellsNumber_152 : decode cX2_tellsNumber 152 = .ok (.if_icmp .ne 57, 3) := by decide +kernel
theorem dX2_tellsNumber_155 : decode cX2_tellsNumber 155 = .ok (.iconst 0, 1) := by decide +kernel
theorem dX2_tellsNumber_156 : decode cX2_tellsNumber 156 = .ok (.ireturn, 1) := by decide +kernel
theorem dX2_tellsNumber_157 : decode cX2_tellsNumber 157 = .ok (.iload 10, 2) := by decide +kernel
theorem dX2_tellsNumber_159 : decode cX2_tellsNumber 159 = .ok (.bipush 48, 2) := by decide +kernel
theorem dX2_tellsNumber_161 : decode cX2_tellsNumber 161 = .ok (.if_icmp .lt 19, 3) := by decide +kernel
theorem dX2_tellsNumber_164 : decode cX2_tellsNumber 164 = .ok (.iload 10, 2) := by decide +kernel
theorem dX2_tellsNumber_166 : decode cX2_tellsNumber 166 = .ok (.bipush 57, 2) := by decide +kernel
theorem dX2_tellsNumber_168 : decode cX2_tellsNumber 168 = .ok (.if_icmp .gt 12, 3) := by decide +kernel
theorem dX2_tellsNumber_171 : decode cX2_tellsNumber 171 = .ok (.aload_n 0, 1) := by decide +kernel
theorem dX2_tellsNumber_172 : decode cX2_tellsNumber 172 = .ok (.getfield 26, 3) := by decide +kernel
theorem dX2_tellsNumber_175 : decode cX2_tellsNumber 175 = .ok (.bipush 9, 2) := by decide +kernel
theorem dX2_tellsNumber_177 : decode cX2_tellsNumber 177 = .ok (.if_icmp .ne 5, 3) := by decide +kernel
theorem dX2_tellsNumber_180 : decode cX2_tellsNumber 180 = .ok (.iconst 0, 1) := by decide +kernel
theorem dX2_tellsNumber_181 : decode cX2_tellsNumber 181 = .ok (.ireturn, 1) := by decide +kernel
theorem dX2_tellsNumber_182 : decode cX2_tellsNumber 182 = .ok (.aload_n 0, 1) := by decide +kernel
theorem dX2_tellsNumber_183 : decode cX2_tellsNumber 183 = .ok (.aload_n 0, 1) := by decide +kernel
theorem dX2_tellsNumber_184 : decode cX2_tellsNumber 184 = .ok (.getfield 23, 3) := by decide +kernel
theorem dX2_tellsNumber_187 : decode cX2_tellsNumber 187 = .ok (.bipush 10, 2) := by decide +kernel
theorem dX2_tellsNumber_189 : decode cX2_tellsNumber 189 = .ok (.imul, 1) := by decide +kernel
theorem dX2_tellsNumber_190 : decode cX2_tellsNumber 190 = .ok (.iload 10, 2) := by decide +kernel
theorem dX2_tellsNumber_192 : decode cX2_tellsNumber 192 = .ok (.iadd, 1) := by decide +kernel
theorem dX2_tellsNumber_193 : decode cX2_tellsNumber 193 = .ok (.bipush 48, 2) := by decide +kernel
theorem dX2_tellsNumber_195 : decode cX2_tellsNumber 195 = .ok (.isub, 1) := by decide +kernel
theorem dX2_tellsNumber_196 : decode cX2_tellsNumber 196 = .ok (.putfield 23, 3) := by decide +kernel
theorem dX2_tellsNumber_199 : decode cX2_tellsNumber 199 = .ok (.aload_n 0, 1) := by decide +kernel
theorem dX2_tellsNumber_200 : decode cX2_tellsNumber 200 = .ok (.dup, 1) := by decide +kernel
theorem dX2_tellsNumber_201 : decode cX2_tellsNumber 201 = .ok (.getfield 26, 3) := by decide +kernel
theorem dX2_tellsNumber_204 : decode cX2_tellsNumber 204 = .ok (.iconst 1, 1) := by decide +kernel
theorem dX2_tellsNumber_205 : decode cX2_tellsNumber 205 = .ok (.iadd, 1) := by decide +kernel
theorem dX2_tellsNumber_206 : decode cX2_tellsNumber 206 = .ok (.putfield 26, 3) := by decide +kernel
theorem dX2_tellsNumber_209 : decode cX2_tellsNumber 209 = .ok (.iinc 9 1, 3) := by decide +kernel
theorem dX2_tellsNumber_212 : decode cX2_tellsNumber 212 = .ok (.goto (-110), 3) := by decide +kernel
theorem dX2_tellsNumber_215 : decode cX2_tellsNumber 215 = .ok (.iload 6, 2) := by decide +kernel
theorem dX2_tellsNumber_217 : decode cX2_tellsNumber 217 = .ok (.iconst 1, 1) := by decide +kernel
theorem dX2_tellsNumber_218 : decode cX2_tellsNumber 218 = .ok (.if_icmp .ne 12, 3) := by decide +kernel
theorem dX2_tellsNumber_221 : decode cX2_tellsNumber 221 = .ok (.aload_n 0, 1) := by decide +kernel
theorem dX2_tellsNumber_222 : decode cX2_tellsNumber 222 = .ok (.aload_n 0, 1) := by decide +kernel
theorem dX2_tellsNumber_223 : decode cX2_tellsNumber 223 = .ok (.getfield 23, 3) := by decide +kernel
theorem dX2_tellsNumber_226 : decode cX2_tellsNumber 226 = .ok (.ineg, 1) := by decide +kernel
theorem dX2_tellsNumber_227 : decode cX2_tellsNumber 227 = .ok (.putfield 23, 3) := by decide +kernel
theorem dX2_tellsNumber_230 : decode cX2_tellsNumber 230 = .ok (.iload 6, 2) := by decide +kernel
theorem dX2_tellsNumber_232 : decode cX2_tellsNumber 232 = .ok (.ifCond .eq 10, 3) := by decide +kernel
theorem dX2_tellsNumber_235 : decode cX2_tellsNumber 235 = .ok (.aload_n 0, 1) := by decide +kernel
theorem dX2_tellsNumber_236 : decode cX2_tellsNumber 236 = .ok (.getfield 23, 3) := by decide +kernel
theorem dX2_tellsNumber_239 : decode cX2_tellsNumber 239 = .ok (.ifCond .eq 25, 3) := by decide +kernel
theorem dX2_tellsNumber_242 : decode cX2_tellsNumber 242 = .ok (.aload_n 0, 1) := by decide +kernel
theorem dX2_tellsNumber_243 : decode cX2_tellsNumber 243 = .ok (.getfield 19, 3) := by decide +kernel
theorem dX2_tellsNumber_246 : decode cX2_tellsNumber 246 = .ok (.ifCond .eq 14, 3) := by decide +kernel
theorem dX2_tellsNumber_249 : decode cX2_tellsNumber 249 = .ok (.aload_n 0, 1) := by decide +kernel
theorem dX2_tellsNumber_250 : decode cX2_tellsNumber 250 = .ok (.getfield 23, 3) := by decide +kernel
theorem dX2_tellsNumber_253 : decode cX2_tellsNumber 253 = .ok (.iload_n 3, 1) := by decide +kernel
theorem dX2_tellsNumber_254 : decode cX2_tellsNumber 254 = .ok (.invokestatic 101, 3) := by decide +kernel
theorem dX2_tellsNumber_257 : decode cX2_tellsNumber 257 = .ok (.if_icmp .ge 7, 3) := by decide +kernel
theorem dX2_tellsNumber_260 : decode cX2_tellsNumber 260 = .ok (.iconst 1, 1) := by decide +kernel
theorem dX2_tellsNumber_261 : decode cX2_tellsNumber 261 = .ok (.goto 4, 3) := by decide +kernel
theorem dX2_tellsNumber_264 : decode cX2_tellsNumber 264 = .ok (.iconst 0, 1) := by decide +kernel
theorem dX2_tellsNumber_265 : decode cX2_tellsNumber 265 = .ok (.ireturn, 1) := by decide +kernel
theorem dX2_signDue_0 : decode cX2_signDue 0 = .ok (.iload_n 0, 1) := by decide +kernel
theorem dX2_signDue_1 : decode cX2_signDue 1 = .ok (.ifCond .ne 5, 3) := by decide +kernel
theorem dX2_signDue_4 : decode cX2_signDue 4 = .ok (.iload_n 1, 1) := by decide +kernel
theorem dX2_signDue_5 : decode cX2_signDue 5 = .ok (.ireturn, 1) := by decide +kernel
theorem dX2_signDue_6 : decode cX2_signDue 6 = .ok (.iload_n 0, 1) := by decide +kernel
theorem dX2_signDue_7 : decode cX2_signDue 7 = .ok (.ifCond .le 13, 3) := by decide +kernel
theorem dX2_signDue_10 : decode cX2_signDue 10 = .ok (.iload_n 0, 1) := by decide +kernel
theorem dX2_signDue_11 : decode cX2_signDue 11 = .ok (.iconst 4, 1) := by decide +kernel
theorem dX2_signDue_12 : decode cX2_signDue 12 = .ok (.irem, 1) := by decide +kernel
theorem dX2_signDue_13 : decode cX2_signDue 13 = .ok (.ifCond .ne 7, 3) := by decide +kernel
theorem dX2_signDue_16 : decode cX2_signDue 16 = .ok (.iload_n 2, 1) := by decide +kernel
theorem dX2_signDue_17 : decode cX2_signDue 17 = .ok (.goto 4, 3) := by decide +kernel
theorem dX2_signDue_20 : decode cX2_signDue 20 = .ok (.iconst (-1), 1) := by decide +kernel
theorem dX2_signDue_21 : decode cX2_signDue 21 = .ok (.ireturn, 1) := by decide +kernel
theorem dX2_bigOf_0 : decode cX2_bigOf 0 = .ok (.sipush 9999, 3) := by decide +kernel
theorem dX2_bigOf_3 : decode cX2_bigOf 3 = .ok (.istore_n 1, 1) := by decide +kernel
theorem dX2_bigOf_4 : decode cX2_bigOf 4 = .ok (.iconst 0, 1) := by decide +kernel
theorem dX2_bigOf_5 : decode cX2_bigOf 5 = .ok (.istore_n 2, 1) := by decide +kernel
theorem dX2_bigOf_6 : decode cX2_bigOf 6 = .ok (.iload_n 2, 1) := by decide +kernel
theorem dX2_bigOf_7 : decode cX2_bigOf 7 = .ok (.iload_n 0, 1) := by decide +kernel
theorem dX2_bigOf_8 : decode cX2_bigOf 8 = .ok (.if_icmp .ge 14, 3) := by decide +kernel
theorem dX2_bigOf_11 : decode cX2_bigOf 11 = .ok (.iload_n 1, 1) := by decide +kernel
theorem dX2_bigOf_12 : decode cX2_bigOf 12 = .ok (.bipush 10, 2) := by decide +kernel
theorem dX2_bigOf_14 : decode cX2_bigOf 14 = .ok (.imul, 1) := by decide +kernel
theorem dX2_bigOf_15 : decode cX2_bigOf 15 = .ok (.istore_n 1, 1) := by decide +kernel
theorem dX2_bigOf_16 : decode cX2_bigOf 16 = .ok (.iinc 2 1, 3) := by decide +kernel
theorem dX2_bigOf_19 : decode cX2_bigOf 19 = .ok (.goto (-13), 3) := by decide +kernel
theorem dX2_bigOf_22 : decode cX2_bigOf 22 = .ok (.iload_n 1, 1) := by decide +kernel
theorem dX2_bigOf_23 : decode cX2_bigOf 23 = .ok (.ireturn, 1) := by decide +kernel
theorem dX2_tellsDay_0 : decode cX2_tellsDay 0 = .ok (.aload_n 0, 1) := by decide +kernel
theorem dX2_tellsDay_1 : decode cX2_tellsDay 1 = .ok (.getfield 9, 3) := by decide +kernel
theorem dX2_tellsDay_4 : decode cX2_tellsDay 4 = .ok (.iload_n 2, 1) := by decide +kernel
theorem dX2_tellsDay_5 : decode cX2_tellsDay 5 = .ok (.invokevirtual 84, 3) := by decide +kernel
theorem dX2_tellsDay_8 : decode cX2_tellsDay 8 = .ok (.bipush 10, 2) := by decide +kernel
theorem dX2_tellsDay_10 : decode cX2_tellsDay 10 = .ok (.if_icmp .ne 9, 3) := by decide +kernel
theorem dX2_tellsDay_13 : decode cX2_tellsDay 13 = .ok (.iload_n 1, 1) := by decide +kernel
theorem dX2_tellsDay_14 : decode cX2_tellsDay 14 = .ok (.bipush 22, 2) := by decide +kernel
theorem dX2_tellsDay_16 : decode cX2_tellsDay 16 = .ok (.if_icmp .ge 5, 3) := by decide +kernel
theorem dX2_tellsDay_19 : decode cX2_tellsDay 19 = .ok (.iconst 0, 1) := by decide +kernel
theorem dX2_tellsDay_20 : decode cX2_tellsDay 20 = .ok (.ireturn, 1) := by decide +kernel
theorem dX2_tellsDay_21 : decode cX2_tellsDay 21 = .ok (.iload_n 1, 1) := by decide +kernel
theorem dX2_tellsDay_22 : decode cX2_tellsDay 22 = .ok (.bipush 22, 2) := by decide +kernel
theorem dX2_tellsDay_24 : decode cX2_tellsDay 24 = .ok (.isub, 1) := by decide +kernel
theorem dX2_tellsDay_25 : decode cX2_tellsDay 25 = .ok (.iconst 3, 1) := by decide +kernel
theorem dX2_tellsDay_26 : decode cX2_tellsDay 26 = .ok (.idiv, 1) := by decide +kernel
theorem dX2_tellsDay_27 : decode cX2_tellsDay 27 = .ok (.istore_n 3, 1) := by decide +kernel
theorem dX2_tellsDay_28 : decode cX2_tellsDay 28 = .ok (.getstatic 104, 3) := by decide +kernel
theorem dX2_tellsDay_31 : decode cX2_tellsDay 31 = .ok (.iload_n 1, 1) := by decide +kernel
theorem dX2_tellsDay_32 : decode cX2_tellsDay 32 = .ok (.bipush 22, 2) := by decide +kernel
theorem dX2_tellsDay_34 : decode cX2_tellsDay 34 = .ok (.isub, 1) := by decide +kernel
theorem dX2_tellsDay_35 : decode cX2_tellsDay 35 = .ok (.iconst 3, 1) := by decide +kernel
theorem dX2_tellsDay_36 : decode cX2_tellsDay 36 = .ok (.irem, 1) := by decide +kernel
theorem dX2_tellsDay_37 : decode cX2_tellsDay 37 = .ok (.caload, 1) := by decide +kernel
theorem dX2_tellsDay_38 : decode cX2_tellsDay 38 = .ok (.istore 4, 2) := by decide +kernel
theorem dX2_tellsDay_40 : decode cX2_tellsDay 40 = .ok (.iload_n 3, 1) := by decide +kernel
theorem dX2_tellsDay_41 : decode cX2_tellsDay 41 = .ok (.iconst 2, 1) := by decide +kernel
theorem dX2_tellsDay_42 : decode cX2_tellsDay 42 = .ok (.if_icmp .ne 7, 3) := by decide +kernel
theorem dX2_tellsDay_45 : decode cX2_tellsDay 45 = .ok (.iconst 1, 1) := by decide +kernel
theorem dX2_tellsDay_46 : decode cX2_tellsDay 46 = .ok (.goto 4, 3) := by decide +kernel
theorem dX2_tellsDay_49 : decode cX2_tellsDay 49 = .ok (.iconst 0, 1) := by decide +kernel
theorem dX2_tellsDay_50 : decode cX2_tellsDay 50 = .ok (.istore 5, 2) := by decide +kernel
theorem dX2_tellsDay_52 : decode cX2_tellsDay 52 = .ok (.aload_n 0, 1) := by decide +kernel
theorem dX2_tellsDay_53 : decode cX2_tellsDay 53 = .ok (.getfield 9, 3) := by decide +kernel
theorem dX2_tellsDay_56 : decode cX2_tellsDay 56 = .ok (.iload_n 2, 1) := by decide +kernel
theorem dX2_tellsDay_57 : decode cX2_tellsDay 57 = .ok (.iload 5, 2) := by decide +kernel
theorem dX2_tellsDay_59 : decode cX2_tellsDay 59 = .ok (.ifCond .eq 7, 3) := by decide +kernel
theorem dX2_tellsDay_62 : decode cX2_tellsDay 62 = .ok (.iconst 4, 1) := by decide +kernel
theorem dX2_tellsDay_63 : decode cX2_tellsDay 63 = .ok (.goto 4, 3) := by decide +kernel
theorem dX2_tellsDay_66 : decode cX2_tellsDay 66 = .ok (.iconst 2, 1) := by decide +kernel
theorem dX2_tellsDay_67 : decode cX2_tellsDay 67 = .ok (.invokevirtual 87, 3) := by decide +kernel
theorem dX2_tellsDay_70 : decode cX2_tellsDay 70 = .ok (.iload 4, 2) := by decide +kernel
theorem dX2_tellsDay_72 : decode cX2_tellsDay 72 = .ok (.if_icmp .ne 27, 3) := by decide +kernel
theorem dX2_tellsDay_75 : decode cX2_tellsDay 75 = .ok (.aload_n 0, 1) := by decide +kernel
theorem dX2_tellsDay_76 : decode cX2_tellsDay 76 = .ok (.getfield 9, 3) := by decide +kernel
theorem dX2_tellsDay_79 : decode cX2_tellsDay 79 = .ok (.iload_n 2, 1) := by decide +kernel
theorem dX2_tellsDay_80 : decode cX2_tellsDay 80 = .ok (.iload 5, 2) := by decide +kernel
theorem dX2_tellsDay_82 : decode cX2_tellsDay 82 = .ok (.ifCond .eq 8, 3) := by decide +kernel
theorem dX2_tellsDay_85 : decode cX2_tellsDay 85 = .ok (.bipush 7, 2) := by decide +kernel
theorem dX2_tellsDay_87 : decode cX2_tellsDay 87 = .ok (.goto 4, 3) := by decide +kernel
theorem dX2_tellsDay_90 : decode cX2_tellsDay 90 = .ok (.iconst 5, 1) := by decide +kernel
theorem dX2_tellsDay_91 : decode cX2_tellsDay 91 = .ok (.invokevirtual 87, 3) := by decide +kernel
theorem dX2_tellsDay_94 : decode cX2_tellsDay 94 = .ok (.iload 4, 2) := by decide +kernel
theorem dX2_tellsDay_96 : decode cX2_tellsDay 96 = .ok (.if_icmp .eq 5, 3) := by decide +kernel
theorem dX2_tellsDay_99 : decode cX2_tellsDay 99 = .ok (.iconst 0, 1) := by decide +kernel
theorem dX2_tellsDay_100 : decode cX2_tellsDay 100 = .ok (.ireturn, 1) := by decide +kernel
theorem dX2_tellsDay_101 : decode cX2_tellsDay 101 = .ok (.aload_n 0, 1) := by decide +kernel
theorem dX2_tellsDay_102 : decode cX2_tellsDay 102 = .ok (.getfield 9, 3) := by decide +kernel
theorem dX2_tellsDay_105 : decode cX2_tellsDay 105 = .ok (.iload_n 2, 1) := by decide +kernel
theorem dX2_tellsDay_106 : decode cX2_tellsDay 106 = .ok (.iload 5, 2) := by decide +kernel
theorem dX2_tellsDay_108 : decode cX2_tellsDay 108 = .ok (.ifCond .eq 7, 3) := by decide +kernel
theorem dX2_tellsDay_111 : decode cX2_tellsDay 111 = .ok (.iconst 0, 1) := by decide +kernel
theorem dX2_tellsDay_112 : decode cX2_tellsDay 112 = .ok (.goto 5, 3) := by decide +kernel
theorem dX2_tellsDay_115 : decode cX2_tellsDay 115 = .ok (.bipush 6, 2) := by decide +kernel
theorem dX2_tellsDay_117 : decode cX2_tellsDay 117 = .ok (.iconst 4, 1) := by decide +kernel
theorem dX2_tellsDay_118 : decode cX2_tellsDay 118 = .ok (.invokevirtual 108, 3) := by decide +kernel
theorem dX2_tellsDay_121 : decode cX2_tellsDay 121 = .ok (.istore 6, 2) := by decide +kernel
theorem dX2_tellsDay_123 : decode cX2_tellsDay 123 = .ok (.aload_n 0, 1) := by decide +kernel
theorem dX2_tellsDay_124 : decode cX2_tellsDay 124 = .ok (.getfield 9, 3) := by decide +kernel
theorem dX2_tellsDay_127 : decode cX2_tellsDay 127 = .ok (.iload_n 2, 1) := by decide +kernel
theorem dX2_tellsDay_128 : decode cX2_tellsDay 128 = .ok (.iload 5, 2) := by decide +kernel
theorem dX2_tellsDay_130 : decode cX2_tellsDay 130 = .ok (.ifCond .eq 7, 3) := by decide +kernel
theorem dX2_tellsDay_133 : decode cX2_tellsDay 133 = .ok (.iconst 5, 1) := by decide +kernel
theorem dX2_tellsDay_134 : decode cX2_tellsDay 134 = .ok (.goto 12, 3) := by decide +kernel
theorem dX2_tellsDay_137 : decode cX2_tellsDay 137 = .ok (.iload_n 3, 1) := by decide +kernel
theorem dX2_tellsDay_138 : decode cX2_tellsDay 138 = .ok (.ifCond .ne 7, 3) := by decide +kernel
theorem dX2_tellsDay_141 : decode cX2_tellsDay 141 = .ok (.iconst 3, 1) := by decide +kernel
theorem dX2_tellsDay_142 : decode cX2_tellsDay 142 = .ok (.goto 4, 3) := by decide +kernel
theorem dX2_tellsDay_145 : decode cX2_tellsDay 145 = .ok (.iconst 0, 1) := by decide +kernel
theorem dX2_tellsDay_146 : decode cX2_tellsDay 146 = .ok (.iconst 2, 1) := by decide +kernel
theorem dX2_tellsDay_147 : decode cX2_tellsDay 147 = .ok (.invokevirtual 108, 3) := by decide +kernel
theorem dX2_tellsDay_150 : decode cX2_tellsDay 150 = .ok (.istore 7, 2) := by decide +kernel
theorem dX2_tellsDay_152 : decode cX2_tellsDay 152 = .ok (.aload_n 0, 1) := by decide +kernel
theorem dX2_tellsDay_153 : decode cX2_tellsDay 153 = .ok (.getfield 9, 3) := by decide +kernel
theorem dX2_tellsDay_156 : decode cX2_tellsDay 156 = .ok (.iload_n 2, 1) := by decide +kernel
theorem dX2_tellsDay_157 : decode cX2_tellsDay 157 = .ok (.iload 5, 2) := by decide +kernel
theorem dX2_tellsDay_159 : decode cX2_tellsDay 159 = .ok (.ifCond .eq 8, 3) := by decide +kernel
theorem dX2_tellsDay_162 : decode cX2_tellsDay 162 = .ok (.bipush 8, 2) := by decide +kernel
theorem dX2_tellsDay_164 : decode cX2_tellsDay 164 = .ok (.goto 12, 3) := by decide +kernel
theorem dX2_tellsDay_167 : decode cX2_tellsDay 167 = .ok (.iload_n 3, 1) := by decide +kernel
theorem dX2_tellsDay_168 : decode cX2_tellsDay 168 = .ok (.ifCond .ne 7, 3) := by decide +kernel
theorem dX2_tellsDay_171 : decode cX2_tellsDay 171 = .ok (.iconst 0, 1) := by decide +kernel
theorem dX2_tellsDay_172 : decode cX2_tellsDay 172 = .ok (.goto 4, 3) := by decide +kernel
theorem dX2_tellsDay_175 : decode cX2_tellsDay 175 = .ok (.iconst 3, 1) := by decide +kernel
theorem dX2_tellsDay_176 : decode cX2_tellsDay 176 = .ok (.iconst 2, 1) := by decide +kernel
theorem dX2_tellsDay_177 : decode cX2_tellsDay 177 = .ok (.invokevirtual 108, 3) := by decide +kernel
theorem dX2_tellsDay_180 : decode cX2_tellsDay 180 = .ok (.istore 8, 2) := by decide +kernel
theorem dX2_tellsDay_182 : decode cX2_tellsDay 182 = .ok (.iload 6, 2) := by decide +kernel
theorem dX2_tellsDay_184 : decode cX2_tellsDay 184 = .ok (.sipush 1600, 3) := by decide +kernel
theorem dX2_tellsDay_187 : decode cX2_tellsDay 187 = .ok (.if_icmp .lt 29, 3) := by decide +kernel
theorem dX2_tellsDay_190 : decode cX2_tellsDay 190 = .ok (.iload 6, 2) := by decide +kernel
theorem dX2_tellsDay_192 : decode cX2_tellsDay 192 = .ok (.sipush 2999, 3) := by decide +kernel
theorem dX2_tellsDay_195 : decode cX2_tellsDay 195 = .ok (.if_icmp .gt 21, 3) := by decide +kernel
theorem dX2_tellsDay_198 : decode cX2_tellsDay 198 = .ok (.iload 8, 2) := by decide +kernel
theorem dX2_tellsDay_200 : decode cX2_tellsDay 200 = .ok (.iconst 1, 1) := by decide +kernel
theorem dX2_tellsDay_201 : decode cX2_tellsDay 201 = .ok (.if_icmp .lt 15, 3) := by decide +kernel
theorem dX2_tellsDay_204 : decode cX2_tellsDay 204 = .ok (.iload 8, 2) := by decide +kernel
theorem dX2_tellsDay_206 : decode cX2_tellsDay 206 = .ok (.iload 6, 2) := by decide +kernel
theorem dX2_tellsDay_208 : decode cX2_tellsDay 208 = .ok (.iload 7, 2) := by decide +kernel
theorem dX2_tellsDay_210 : decode cX2_tellsDay 210 = .ok (.invokestatic 111, 3) := by decide +kernel
theorem dX2_tellsDay_213 : decode cX2_tellsDay 213 = .ok (.if_icmp .le 5, 3) := by decide +kernel
theorem dX2_tellsDay_216 : decode cX2_tellsDay 216 = .ok (.iconst 0, 1) := by decide +kernel
theorem dX2_tellsDay_217 : decode cX2_tellsDay 217 = .ok (.ireturn, 1) := by decide +kernel
theorem dX2_tellsDay_218 : decode cX2_tellsDay 218 = .ok (.aload_n 0, 1) := by decide +kernel
theorem dX2_tellsDay_219 : decode cX2_tellsDay 219 = .ok (.iload 6, 2) := by decide +kernel
theorem dX2_tellsDay_221 : decode cX2_tellsDay 221 = .ok (.sipush 10000, 3) := by decide +kernel
theorem dX2_tellsDay_224 : decode cX2_tellsDay 224 = .ok (.imul, 1) := by decide +kernel
theorem dX2_tellsDay_225 : decode cX2_tellsDay 225 = .ok (.iload 7, 2) := by decide +kernel
theorem dX2_tellsDay_227 : decode cX2_tellsDay 227 = .ok (.bipush 100, 2) := by decide +kernel
theorem dX2_tellsDay_229 : decode cX2_tellsDay 229 = .ok (.imul, 1) := by decide +kernel
theorem dX2_tellsDay_230 : decode cX2_tellsDay 230 = .ok (.iadd, 1) := by decide +kernel
theorem dX2_tellsDay_231 : decode cX2_tellsDay 231 = .ok (.iload 8, 2) := by decide +kernel
theorem dX2_tellsDay_233 : decode cX2_tellsDay 233 = .ok (.iadd, 1) := by decide +kernel
theorem dX2_tellsDay_234 : decode cX2_tellsDay 234 = .ok (.putfield 23, 3) := by decide +kernel
theorem dX2_tellsDay_237 : decode cX2_tellsDay 237 = .ok (.iconst 1, 1) := by decide +kernel
theorem dX2_tellsDay_238 : decode cX2_tellsDay 238 = .ok (.ireturn, 1) := by decide +kernel
theorem dX2_daysOf_0 : decode cX2_daysOf 0 = .ok (.iload_n 1, 1) := by decide +kernel
theorem dX2_daysOf_1 : decode cX2_daysOf 1 = .ok (.iconst 1, 1) := by decide +kernel
theorem dX2_daysOf_2 : decode cX2_daysOf 2 = .ok (.if_icmp .lt 11, 3) := by decide +kernel
theorem dX2_daysOf_5 : decode cX2_daysOf 5 = .ok (.iload_n 1, 1) := by decide +kernel
theorem dX2_daysOf_6 : decode cX2_daysOf 6 = .ok (.getstatic 114, 3) := by decide +kernel
theorem dX2_daysOf_9 : decode cX2_daysOf 9 = .ok (.arraylength, 1) := by decide +kernel
theorem dX2_daysOf_10 : decode cX2_daysOf 10 = .ok (.if_icmp .le 5, 3) := by decide +kernel
theorem dX2_daysOf_13 : decode cX2_daysOf 13 = .ok (.iconst 0, 1) := by decide +kernel
theorem dX2_daysOf_14 : decode cX2_daysOf 14 = .ok (.ireturn, 1) := by decide +kernel
theorem dX2_daysOf_15 : decode cX2_daysOf 15 = .ok (.iload_n 0, 1) := by decide +kernel
theorem dX2_daysOf_16 : decode cX2_daysOf 16 = .ok (.iconst 4, 1) := by decide +kernel
theorem dX2_daysOf_17 : decode cX2_daysOf 17 = .ok (.irem, 1) := by decide +kernel
theorem dX2_daysOf_18 : decode cX2_daysOf 18 = .ok (.ifCond .ne 22, 3) := by decide +kernel
theorem dX2_daysOf_21 : decode cX2_daysOf 21 = .ok (.iload_n 0, 1) := by decide +kernel
theorem dX2_daysOf_22 : decode cX2_daysOf 22 = .ok (.bipush 100, 2) := by decide +kernel
theorem dX2_daysOf_24 : decode cX2_daysOf 24 = .ok (.irem, 1) := by decide +kernel
theorem dX2_daysOf_25 : decode cX2_daysOf 25 = .ok (.ifCond .ne 11, 3) := by decide +kernel
theorem dX2_daysOf_28 : decode cX2_daysOf 28 = .ok (.iload_n 0, 1) := by decide +kernel
theorem dX2_daysOf_29 : decode cX2_daysOf 29 = .ok (.sipush 400, 3) := by decide +kernel
theorem dX2_daysOf_32 : decode cX2_daysOf 32 = .ok (.irem, 1) := by decide +kernel
theorem dX2_daysOf_33 : decode cX2_daysOf 33 = .ok (.ifCond .ne 7, 3) := by decide +kernel
theorem dX2_daysOf_36 : decode cX2_daysOf 36 = .ok (.iconst 1, 1) := by decide +kernel
theorem dX2_daysOf_37 : decode cX2_daysOf 37 = .ok (.goto 4, 3) := by decide +kernel
theorem dX2_daysOf_40 : decode cX2_daysOf 40 = .ok (.iconst 0, 1) := by decide +kernel
theorem dX2_daysOf_41 : decode cX2_daysOf 41 = .ok (.istore_n 2, 1) := by decide +kernel
theorem dX2_daysOf_42 : decode cX2_daysOf 42 = .ok (.iload_n 1, 1) := by decide +kernel
theorem dX2_daysOf_43 : decode cX2_daysOf 43 = .ok (.iconst 2, 1) := by decide +kernel
theorem dX2_daysOf_44 : decode cX2_daysOf 44 = .ok (.if_icmp .ne 12, 3) := by decide +kernel
theorem dX2_daysOf_47 : decode cX2_daysOf 47 = .ok (.iload_n 2, 1) := by decide +kernel
theorem dX2_daysOf_48 : decode cX2_daysOf 48 = .ok (.ifCond .eq 8, 3) := by decide +kernel
theorem dX2_daysOf_51 : decode cX2_daysOf 51 = .ok (.bipush 29, 2) := by decide +kernel
theorem dX2_daysOf_53 : decode cX2_daysOf 53 = .ok (.goto 10, 3) := by decide +kernel
theorem dX2_daysOf_56 : decode cX2_daysOf 56 = .ok (.getstatic 114, 3) := by decide +kernel
theorem dX2_daysOf_59 : decode cX2_daysOf 59 = .ok (.iload_n 1, 1) := by decide +kernel
theorem dX2_daysOf_60 : decode cX2_daysOf 60 = .ok (.iconst 1, 1) := by decide +kernel
theorem dX2_daysOf_61 : decode cX2_daysOf 61 = .ok (.isub, 1) := by decide +kernel
theorem dX2_daysOf_62 : decode cX2_daysOf 62 = .ok (.iaload, 1) := by decide +kernel
theorem dX2_daysOf_63 : decode cX2_daysOf 63 = .ok (.ireturn, 1) := by decide +kernel
theorem dX2_tellsCode_0 : decode cX2_tellsCode 0 = .ok (.aload_n 0, 1) := by decide +kernel
theorem dX2_tellsCode_1 : decode cX2_tellsCode 1 = .ok (.getfield 9, 3) := by decide +kernel
theorem dX2_tellsCode_4 : decode cX2_tellsCode 4 = .ok (.aload_n 0, 1) := by decide +kernel
theorem dX2_tellsCode_5 : decode cX2_tellsCode 5 = .ok (.getfield 15, 3) := by decide +kernel
theorem dX2_tellsCode_8 : decode cX2_tellsCode 8 = .ok (.invokevirtual 84, 3) := by decide +kernel
theorem dX2_tellsCode_11 : decode cX2_tellsCode 11 = .ok (.istore_n 2, 1) := by decide +kernel
theorem dX2_tellsCode_12 : decode cX2_tellsCode 12 = .ok (.iload_n 2, 1) := by decide +kernel
theorem dX2_tellsCode_13 : decode cX2_tellsCode 13 = .ok (.iconst 1, 1) := by decide +kernel
theorem dX2_tellsCode_14 : decode cX2_tellsCode 14 = .ok (.if_icmp .lt 21, 3) := by decide +kernel
theorem dX2_tellsCode_17 : decode cX2_tellsCode 17 = .ok (.iload_n 2, 1) := by decide +kernel
theorem dX2_tellsCode_18 : decode cX2_tellsCode 18 = .ok (.bipush 20, 2) := by decide +kernel
theorem dX2_tellsCode_20 : decode cX2_tellsCode 20 = .ok (.if_icmp .gt 15, 3) := by decide +kernel
theorem dX2_tellsCode_23 : decode cX2_tellsCode 23 = .ok (.aload_n 0, 1) := by decide +kernel
theorem dX2_tellsCode_24 : decode cX2_tellsCode 24 = .ok (.getfield 9, 3) := by decide +kernel
theorem dX2_tellsCode_27 : decode cX2_tellsCode 27 = .ok (.iload_n 1, 1) := by decide +kernel
theorem dX2_tellsCode_28 : decode cX2_tellsCode 28 = .ok (.invokevirtual 84, 3) := by decide +kernel
theorem dX2_tellsCode_31 : decode cX2_tellsCode 31 = .ok (.iload_n 2, 1) := by decide +kernel
theorem dX2_tellsCode_32 : decode cX2_tellsCode 32 = .ok (.if_icmp .eq 5, 3) := by decide +kernel
theorem dX2_tellsCode_35 : decode cX2_tellsCode 35 = .ok (.iconst 0, 1) := by decide +kernel
theorem dX2_tellsCode_36 : decode cX2_tellsCode 36 = .ok (.ireturn, 1) := by decide +kernel
theorem dX2_tellsCode_37 : decode cX2_tellsCode 37 = .ok (.iconst 0, 1) := by decide +kernel
theorem dX2_tellsCode_38 : decode cX2_tellsCode 38 = .ok (.istore_n 3, 1) := by decide +kernel
theorem dX2_tellsCode_39 : decode cX2_tellsCode 39 = .ok (.iload_n 3, 1) := by decide +kernel
theorem dX2_tellsCode_40 : decode cX2_tellsCode 40 = .ok (.iload_n 2, 1) := by decide +kernel
theorem dX2_tellsCode_41 : decode cX2_tellsCode 41 = .ok (.if_icmp .ge 41, 3) := by decide +kernel
theorem dX2_tellsCode_44 : decode cX2_tellsCode 44 = .ok (.aload_n 0, 1) := by decide +kernel
theorem dX2_tellsCode_45 : decode cX2_tellsCode 45 = .ok (.getfield 9, 3) := by decide +kernel
theorem dX2_tellsCode_48 : decode cX2_tellsCode 48 = .ok (.iload_n 1, 1) := by decide +kernel
theorem dX2_tellsCode_49 : decode cX2_tellsCode 49 = .ok (.iload_n 3, 1) := by decide +kernel
theorem dX2_tellsCode_50 : decode cX2_tellsCode 50 = .ok (.invokevirtual 87, 3) := by decide +kernel
theorem dX2_tellsCode_53 : decode cX2_tellsCode 53 = .ok (.invokestatic 118, 3) := by decide +kernel
theorem dX2_tellsCode_56 : decode cX2_tellsCode 56 = .ok (.aload_n 0, 1) := by decide +kernel
theorem dX2_tellsCode_57 : decode cX2_tellsCode 57 = .ok (.getfield 9, 3) := by decide +kernel
theorem dX2_tellsCode_60 : decode cX2_tellsCode 60 = .ok (.aload_n 0, 1) := by decide +kernel
theorem dX2_tellsCode_61 : decode cX2_tellsCode 61 = .ok (.getfield 15, 3) := by decide +kernel
theorem dX2_tellsCode_64 : decode cX2_tellsCode 64 = .ok (.iload_n 3, 1) := by decide +kernel
theorem dX2_tellsCode_65 : decode cX2_tellsCode 65 = .ok (.invokevirtual 87, 3) := by decide +kernel
theorem dX2_tellsCode_68 : decode cX2_tellsCode 68 = .ok (.invokestatic 118, 3) := by decide +kernel
theorem dX2_tellsCode_71 : decode cX2_tellsCode 71 = .ok (.if_icmp .eq 5, 3) := by decide +kernel
theorem dX2_tellsCode_74 : decode cX2_tellsCode 74 = .ok (.iconst 0, 1) := by decide +kernel
theorem dX2_tellsCode_75 : decode cX2_tellsCode 75 = .ok (.ireturn, 1) := by decide +kernel
theorem dX2_tellsCode_76 : decode cX2_tellsCode 76 = .ok (.iinc 3 1, 3) := by decide +kernel
theorem dX2_tellsCode_79 : decode cX2_tellsCode 79 = .ok (.goto (-40), 3) := by decide +kernel
theorem dX2_tellsCode_82 : decode cX2_tellsCode 82 = .ok (.iconst 1, 1) := by decide +kernel
theorem dX2_tellsCode_83 : decode cX2_tellsCode 83 = .ok (.ireturn, 1) := by decide +kernel
theorem dX2_sortOf_0 : decode cX2_sortOf 0 = .ok (.iload_n 0, 1) := by decide +kernel
theorem dX2_sortOf_1 : decode cX2_sortOf 1 = .ok (.bipush 48, 2) := by decide +kernel
theorem dX2_sortOf_3 : decode cX2_sortOf 3 = .ok (.if_icmp .lt 13, 3) := by decide +kernel
theorem dX2_sortOf_6 : decode cX2_sortOf 6 = .ok (.iload_n 0, 1) := by decide +kernel
theorem dX2_sortOf_7 : decode cX2_sortOf 7 = .ok (.bipush 57, 2) := by decide +kernel
theorem dX2_sortOf_9 : decode cX2_sortOf 9 = .ok (.if_icmp .gt 7, 3) := by decide +kernel
theorem dX2_sortOf_12 : decode cX2_sortOf 12 = .ok (.sipush 256, 3) := by decide +kernel
theorem dX2_sortOf_15 : decode cX2_sortOf 15 = .ok (.ireturn, 1) := by decide +kernel
theorem dX2_sortOf_16 : decode cX2_sortOf 16 = .ok (.iload_n 0, 1) := by decide +kernel
theorem dX2_sortOf_17 : decode cX2_sortOf 17 = .ok (.bipush 65, 2) := by decide +kernel
theorem dX2_sortOf_19 : decode cX2_sortOf 19 = .ok (.if_icmp .lt 13, 3) := by decide +kernel
theorem dX2_sortOf_22 : decode cX2_sortOf 22 = .ok (.iload_n 0, 1) := by decide +kernel
theorem dX2_sortOf_23 : decode cX2_sortOf 23 = .ok (.bipush 90, 2) := by decide +kernel
theorem dX2_sortOf_25 : decode cX2_sortOf 25 = .ok (.if_icmp .gt 7, 3) := by decide +kernel
theorem dX2_sortOf_28 : decode cX2_sortOf 28 = .ok (.sipush 257, 3) := by decide +kernel
theorem dX2_sortOf_31 : decode cX2_sortOf 31 = .ok (.ireturn, 1) := by decide +kernel
theorem dX2_sortOf_32 : decode cX2_sortOf 32 = .ok (.iload_n 0, 1) := by decide +kernel
theorem dX2_sortOf_33 : decode cX2_sortOf 33 = .ok (.bipush 97, 2) := by decide +kernel
theorem dX2_sortOf_35 : decode cX2_sortOf 35 = .ok (.if_icmp .lt 15, 3) := by decide +kernel
theorem dX2_sortOf_38 : decode cX2_sortOf 38 = .ok (.iload_n 0, 1) := by decide +kernel
theorem dX2_sortOf_39 : decode cX2_sortOf 39 = .ok (.bipush 122, 2) := by decide +kernel
theorem dX2_sortOf_41 : decode cX2_sortOf 41 = .ok (.if_icmp .gt 9, 3) := by decide +kernel
theorem dX2_sortOf_44 : decode cX2_sortOf 44 = .ok (.sipush 258, 3) := by decide +kernel
theorem dX2_sortOf_47 : decode cX2_sortOf 47 = .ok (.goto 4, 3) := by decide +kernel
theorem dX2_sortOf_50 : decode cX2_sortOf 50 = .ok (.iload_n 0, 1) := by decide +kernel
theorem dX2_sortOf_51 : decode cX2_sortOf 51 = .ok (.ireturn, 1) := by decide +kernel
theorem dX2_priceOfForm_0 : decode cX2_priceOfForm 0 = .ok (.iload_n 1, 1) := by decide +kernel
theorem dX2_priceOfForm_1 : decode cX2_priceOfForm 1 = .ok (.ifCond .ne 5, 3) := by decide +kernel
theorem dX2_priceOfForm_4 : decode cX2_priceOfForm 4 = .ok (.iconst 0, 1) := by decide +kernel
theorem dX2_priceOfForm_5 : decode cX2_priceOfForm 5 = .ok (.ireturn, 1) := by decide +kernel
theorem dX2_priceOfForm_6 : decode cX2_priceOfForm 6 = .ok (.iload_n 1, 1) := by decide +kernel
theorem dX2_priceOfForm_7 : decode cX2_priceOfForm 7 = .ok (.bipush 6, 2) := by decide +kernel
theorem dX2_priceOfForm_9 : decode cX2_priceOfForm 9 = .ok (.if_icmp .gt 6, 3) := by decide +kernel
theorem dX2_priceOfForm_12 : decode cX2_priceOfForm 12 = .ok (.bipush 12, 2) := by decide +kernel
theorem dX2_priceOfForm_14 : decode cX2_priceOfForm 14 = .ok (.ireturn, 1) := by decide +kernel
theorem dX2_priceOfForm_15 : decode cX2_priceOfForm 15 = .ok (.iload_n 1, 1) := by decide +kernel
theorem dX2_priceOfForm_16 : decode cX2_priceOfForm 16 = .ok (.bipush 21, 2) := by decide +kernel
theorem dX2_priceOfForm_18 : decode cX2_priceOfForm 18 = .ok (.if_icmp .gt 6, 3) := by decide +kernel
theorem dX2_priceOfForm_21 : decode cX2_priceOfForm 21 = .ok (.bipush 16, 2) := by decide +kernel
theorem dX2_priceOfForm_23 : decode cX2_priceOfForm 23 = .ok (.ireturn, 1) := by decide +kernel
theorem dX2_priceOfForm_24 : decode cX2_priceOfForm 24 = .ok (.iload_n 1, 1) := by decide +kernel
theorem dX2_priceOfForm_25 : decode cX2_priceOfForm 25 = .ok (.bipush 30, 2) := by decide +kernel
theorem dX2_priceOfForm_27 : decode cX2_priceOfForm 27 = .ok (.if_icmp .gt 8, 3) := by decide +kernel
theorem dX2_priceOfForm_30 : decode cX2_priceOfForm 30 = .ok (.bipush 20, 2) := by decide +kernel
theorem dX2_priceOfForm_32 : decode cX2_priceOfForm 32 = .ok (.goto 19, 3) := by decide +kernel
theorem dX2_priceOfForm_35 : decode cX2_priceOfForm 35 = .ok (.bipush 14, 2) := by decide +kernel
theorem dX2_priceOfForm_37 : decode cX2_priceOfForm 37 = .ok (.iconst 2, 1) := by decide +kernel
theorem dX2_priceOfForm_38 : decode cX2_priceOfForm 38 = .ok (.aload_n 0, 1) := by decide +kernel
theorem dX2_priceOfForm_39 : decode cX2_priceOfForm 39 = .ok (.getfield 9, 3) := by decide +kernel
theorem dX2_priceOfForm_42 : decode cX2_priceOfForm 42 = .ok (.aload_n 0, 1) := by decide +kernel
theorem dX2_priceOfForm_43 : decode cX2_priceOfForm 43 = .ok (.getfield 15, 3) := by decide +kernel
theorem dX2_priceOfForm_46 : decode cX2_priceOfForm 46 = .ok (.invokevirtual 84, 3) := by decide +kernel
theorem dX2_priceOfForm_49 : decode cX2_priceOfForm 49 = .ok (.imul, 1) := by decide +kernel
theorem dX2_priceOfForm_50 : decode cX2_priceOfForm 50 = .ok (.iadd, 1) := by decide +kernel
theorem dX2_priceOfForm_51 : decode cX2_priceOfForm 51 = .ok (.ireturn, 1) := by decide +kernel
theorem dX2_priceOfCell_0 : decode cX2_priceOfCell 0 = .ok (.iload_n 1, 1) := by decide +kernel
theorem dX2_priceOfCell_1 : decode cX2_priceOfCell 1 = .ok (.ifCond .ne 17, 3) := by decide +kernel
theorem dX2_priceOfCell_4 : decode cX2_priceOfCell 4 = .ok (.iconst 4, 1) := by decide +kernel
theorem dX2_priceOfCell_5 : decode cX2_priceOfCell 5 = .ok (.bipush 8, 2) := by decide +kernel
theorem dX2_priceOfCell_7 : decode cX2_priceOfCell 7 = .ok (.aload_n 0, 1) := by decide +kernel
theorem dX2_priceOfCell_8 : decode cX2_priceOfCell 8 = .ok (.getfield 9, 3) := by decide +kernel
theorem dX2_priceOfCell_11 : decode cX2_priceOfCell 11 = .ok (.iload_n 2, 1) := by decide +kernel
theorem dX2_priceOfCell_12 : decode cX2_priceOfCell 12 = .ok (.invokevirtual 84, 3) := by decide +kernel
theorem dX2_priceOfCell_15 : decode cX2_priceOfCell 15 = .ok (.imul, 1) := by decide +kernel
theorem dX2_priceOfCell_16 : decode cX2_priceOfCell 16 = .ok (.iadd, 1) := by decide +kernel
theorem dX2_priceOfCell_17 : decode cX2_priceOfCell 17 = .ok (.ireturn, 1) := by decide +kernel
theorem dX2_priceOfCell_18 : decode cX2_priceOfCell 18 = .ok (.iload_n 1, 1) := by decide +kernel
theorem dX2_priceOfCell_19 : decode cX2_priceOfCell 19 = .ok (.bipush 6, 2) := by decide +kernel
theorem dX2_priceOfCell_21 : decode cX2_priceOfCell 21 = .ok (.if_icmp .gt 5, 3) := by decide +kernel
theorem dX2_priceOfCell_24 : decode cX2_priceOfCell 24 = .ok (.iconst 1, 1) := by decide +kernel
theorem dX2_priceOfCell_25 : decode cX2_priceOfCell 25 = .ok (.ireturn, 1) := by decide +kernel
theorem dX2_priceOfCell_26 : decode cX2_priceOfCell 26 = .ok (.iload_n 1, 1) := by decide +kernel
theorem dX2_priceOfCell_27 : decode cX2_priceOfCell 27 = .ok (.bipush 21, 2) := by decide +kernel
theorem dX2_priceOfCell_29 : decode cX2_priceOfCell 29 = .ok (.if_icmp .gt 12, 3) := by decide +kernel
theorem dX2_priceOfCell_32 : decode cX2_priceOfCell 32 = .ok (.iconst 4, 1) := by decide +kernel
theorem dX2_priceOfCell_33 : decode cX2_priceOfCell 33 = .ok (.iconst 4, 1) := by decide +kernel
theorem dX2_priceOfCell_34 : decode cX2_priceOfCell 34 = .ok (.aload_n 0, 1) := by decide +kernel
theorem dX2_priceOfCell_35 : decode cX2_priceOfCell 35 = .ok (.getfield 26, 3) := by decide +kernel
theorem dX2_priceOfCell_38 : decode cX2_priceOfCell 38 = .ok (.imul, 1) := by decide +kernel
theorem dX2_priceOfCell_39 : decode cX2_priceOfCell 39 = .ok (.iadd, 1) := by decide +kernel
theorem dX2_priceOfCell_40 : decode cX2_priceOfCell 40 = .ok (.ireturn, 1) := by decide +kernel
theorem dX2_priceOfCell_41 : decode cX2_priceOfCell 41 = .ok (.iload_n 1, 1) := by decide +kernel
theorem dX2_priceOfCell_42 : decode cX2_priceOfCell 42 = .ok (.bipush 30, 2) := by decide +kernel
theorem dX2_priceOfCell_44 : decode cX2_priceOfCell 44 = .ok (.if_icmp .gt 8, 3) := by decide +kernel
theorem dX2_priceOfCell_47 : decode cX2_priceOfCell 47 = .ok (.bipush 16, 2) := by decide +kernel
theorem dX2_priceOfCell_49 : decode cX2_priceOfCell 49 = .ok (.goto 8, 3) := by decide +kernel
theorem dX2_priceOfCell_52 : decode cX2_priceOfCell 52 = .ok (.aload_n 0, 1) := by decide +kernel
theorem dX2_priceOfCell_53 : decode cX2_priceOfCell 53 = .ok (.iload_n 2, 1) := by decide +kernel
theorem dX2_priceOfCell_54 : decode cX2_priceOfCell 54 = .ok (.invokevirtual 121, 3) := by decide +kernel
theorem dX2_priceOfCell_57 : decode cX2_priceOfCell 57 = .ok (.ireturn, 1) := by decide +kernel
theorem dX2_priceOfCode_0 : decode cX2_priceOfCode 0 = .ok (.iconst 0, 1) := by decide +kernel
theorem dX2_priceOfCode_1 : decode cX2_priceOfCode 1 = .ok (.istore_n 2, 1) := by decide +kernel
theorem dX2_priceOfCode_2 : decode cX2_priceOfCode 2 = .ok (.iconst 0, 1) := by decide +kernel
theorem dX2_priceOfCode_3 : decode cX2_priceOfCode 3 = .ok (.istore_n 3, 1) := by decide +kernel
theorem dX2_priceOfCode_4 : decode cX2_priceOfCode 4 = .ok (.iload_n 3, 1) := by decide +kernel
theorem dX2_priceOfCode_5 : decode cX2_priceOfCode 5 = .ok (.aload_n 0, 1) := by decide +kernel
theorem dX2_priceOfCode_6 : decode cX2_priceOfCode 6 = .ok (.getfield 9, 3) := by decide +kernel
theorem dX2_priceOfCode_9 : decode cX2_priceOfCode 9 = .ok (.iload_n 1, 1) := by decide +kernel
theorem dX2_priceOfCode_10 : decode cX2_priceOfCode 10 = .ok (.invokevirtual 84, 3) := by decide +kernel
theorem dX2_priceOfCode_13 : decode cX2_priceOfCode 13 = .ok (.if_icmp .ge 59, 3) := by decide +kernel
theorem dX2_priceOfCode_16 : decode cX2_priceOfCode 16 = .ok (.aload_n 0, 1) := by decide +kernel
theorem dX2_priceOfCode_17 : decode cX2_priceOfCode 17 = .ok (.getfield 9, 3) := by decide +kernel
theorem dX2_priceOfCode_20 : decode cX2_priceOfCode 20 = .ok (.iload_n 1, 1) := by decide +kernel
theorem dX2_priceOfCode_21 : decode cX2_priceOfCode 21 = .ok (.iload_n 3, 1) := by decide +kernel
theorem dX2_priceOfCode_22 : decode cX2_priceOfCode 22 = .ok (.invokevirtual 87, 3) := by decide +kernel
theorem dX2_priceOfCode_25 : decode cX2_priceOfCode 25 = .ok (.invokestatic 118, 3) := by decide +kernel
theorem dX2_priceOfCode_28 : decode cX2_priceOfCode 28 = .ok (.istore 4, 2) := by decide +kernel
theorem dX2_priceOfCode_30 : decode cX2_priceOfCode 30 = .ok (.iload_n 2, 1) := by decide +kernel
theorem dX2_priceOfCode_31 : decode cX2_priceOfCode 31 = .ok (.iload 4, 2) := by decide +kernel
theorem dX2_priceOfCode_33 : decode cX2_priceOfCode 33 = .ok (.sipush 256, 3) := by decide +kernel
theorem dX2_priceOfCode_36 : decode cX2_priceOfCode 36 = .ok (.if_icmp .ne 7, 3) := by decide +kernel
theorem dX2_priceOfCode_39 : decode cX2_priceOfCode 39 = .ok (.iconst 4, 1) := by decide +kernel
theorem dX2_priceOfCode_40 : decode cX2_priceOfCode 40 = .ok (.goto 24, 3) := by decide +kernel
theorem dX2_priceOfCode_43 : decode cX2_priceOfCode 43 = .ok (.iload 4, 2) := by decide +kernel
theorem dX2_priceOfCode_45 : decode cX2_priceOfCode 45 = .ok (.sipush 257, 3) := by decide +kernel
theorem dX2_priceOfCode_48 : decode cX2_priceOfCode 48 = .ok (.if_icmp .eq 11, 3) := by decide +kernel
theorem dX2_priceOfCode_51 : decode cX2_priceOfCode 51 = .ok (.iload 4, 2) := by decide +kernel
theorem dX2_priceOfCode_53 : decode cX2_priceOfCode 53 = .ok (.sipush 258, 3) := by decide +kernel
theorem dX2_priceOfCode_56 : decode cX2_priceOfCode 56 = .ok (.if_icmp .ne 7, 3) := by decide +kernel
theorem dX2_priceOfCode_59 : decode cX2_priceOfCode 59 = .ok (.iconst 5, 1) := by decide +kernel
theorem dX2_priceOfCode_60 : decode cX2_priceOfCode 60 = .ok (.goto 4, 3) := by decide +kernel
theorem dX2_priceOfCode_63 : decode cX2_priceOfCode 63 = .ok (.iconst 0, 1) := by decide +kernel
theorem dX2_priceOfCode_64 : decode cX2_priceOfCode 64 = .ok (.iadd, 1) := by decide +kernel
theorem dX2_priceOfCode_65 : decode cX2_priceOfCode 65 = .ok (.istore_n 2, 1) := by decide +kernel
theorem dX2_priceOfCode_66 : decode cX2_priceOfCode 66 = .ok (.iinc 3 1, 3) := by decide +kernel
theorem dX2_priceOfCode_69 : decode cX2_priceOfCode 69 = .ok (.goto (-65), 3) := by decide +kernel
theorem dX2_priceOfCode_72 : decode cX2_priceOfCode 72 = .ok (.iload_n 2, 1) := by decide +kernel
theorem dX2_priceOfCode_73 : decode cX2_priceOfCode 73 = .ok (.ireturn, 1) := by decide +kernel
theorem dX3_init_0 : decode cX3_init 0 = .ok (.aload_n 0, 1) := by decide +kernel
theorem dX3_init_1 : decode cX3_init 1 = .ok (.invokespecial 1, 3) := by decide +kernel
theorem dX3_init_4 : decode cX3_init 4 = .ok (.aload_n 0, 1) := by decide +kernel
theorem dX3_init_5 : decode cX3_init 5 = .ok (.sipush 1200, 3) := by decide +kernel
theorem dX3_init_8 : decode cX3_init 8 = .ok (.newarray .int, 2) := by decide +kernel
theorem dX3_init_10 : decode cX3_init 10 = .ok (.putfield 9, 3) := by decide +kernel
theorem dX3_init_13 : decode cX3_init 13 = .ok (.aload_n 0, 1) := by decide +kernel
theorem dX3_init_14 : decode cX3_init 14 = .ok (.sipush 400, 3) := by decide +kernel
theorem dX3_init_17 : decode cX3_init 17 = .ok (.newarray .int, 2) := by decide +kernel
theorem dX3_init_19 : decode cX3_init 19 = .ok (.putfield 13, 3) := by decide +kernel
theorem dX3_init_22 : decode cX3_init 22 = .ok (.aload_n 0, 1) := by decide +kernel
theorem dX3_init_23 : decode cX3_init 23 = .ok (.new 16, 3) := by decide +kernel
theorem dX3_init_26 : decode cX3_init 26 = .ok (.dup, 1) := by decide +kernel
theorem dX3_init_27 : decode cX3_init 27 = .ok (.invokespecial 18, 3) := by decide +kernel
theorem dX3_init_30 : decode cX3_init 30 = .ok (.putfield 19, 3) := by decide +kernel
theorem dX3_init_33 : decode cX3_init 33 = .ok (.aload_n 0, 1) := by decide +kernel
theorem dX3_init_34 : decode cX3_init 34 = .ok (.new 23, 3) := by decide +kernel
theorem dX3_init_37 : decode cX3_init 37 = .ok (.dup, 1) := by decide +kernel
theorem dX3_init_38 : decode cX3_init 38 = .ok (.aload_n 0, 1) := by decide +kernel
theorem dX3_init_39 : decode cX3_init 39 = .ok (.getfield 19, 3) := by decide +kernel
theorem dX3_init_42 : decode cX3_init 42 = .ok (.invokespecial 25, 3) := by decide +kernel
theorem dX3_init_45 : decode cX3_init 45 = .ok (.putfield 28, 3) := by decide +kernel
theorem dX3_init_48 : decode cX3_init 48 = .ok (.aload_n 0, 1) := by decide +kernel
theorem dX3_init_49 : decode cX3_init 49 = .ok (.bipush 24, 2) := by decide +kernel
theorem dX3_init_51 : decode cX3_init 51 = .ok (.newarray .int, 2) := by decide +kernel
theorem dX3_init_53 : decode cX3_init 53 = .ok (.putfield 32, 3) := by decide +kernel
theorem dX3_init_56 : decode cX3_init 56 = .ok (.aload_n 0, 1) := by decide +kernel
theorem dX3_init_57 : decode cX3_init 57 = .ok (.iconst (-1), 1) := by decide +kernel
theorem dX3_init_58 : decode cX3_init 58 = .ok (.putfield 35, 3) := by decide +kernel
theorem dX3_init_61 : decode cX3_init 61 = .ok (.aload_n 0, 1) := by decide +kernel
theorem dX3_init_62 : decode cX3_init 62 = .ok (.getfield 32, 3) := by decide +kernel
theorem dX3_init_65 : decode cX3_init 65 = .ok (.bipush (-2), 2) := by decide +kernel
theorem dX3_init_67 : decode cX3_init 67 = .ok (.invokestatic 39, 3) := by decide +kernel
theorem dX3_init_70 : decode cX3_init 70 = .ok (.return_, 1) := by decide +kernel
theorem dX3_feed_0 : decode cX3_feed 0 = .ok (.aload_n 0, 1) := by decide +kernel
theorem dX3_feed_1 : decode cX3_feed 1 = .ok (.getfield 45, 3) := by decide +kernel
theorem dX3_feed_4 : decode cX3_feed 4 = .ok (.sipush 380, 3) := by decide +kernel
theorem dX3_feed_7 : decode cX3_feed 7 = .ok (.if_icmp .le 5, 3) := by decide +kernel
theorem dX3_feed_10 : decode cX3_feed 10 = .ok (.iconst (-1), 1) := by decide +kernel
theorem dX3_feed_11 : decode cX3_feed 11 = .ok (.ireturn, 1) := by decide +kernel
theorem dX3_feed_12 : decode cX3_feed 12 = .ok (.aload_n 0, 1) := by decide +kernel
theorem dX3_feed_13 : decode cX3_feed 13 = .ok (.iload_n 1, 1) := by decide +kernel
theorem dX3_feed_14 : decode cX3_feed 14 = .ok (.invokevirtual 48, 3) := by decide +kernel
theorem dX3_feed_17 : decode cX3_feed 17 = .ok (.aload_n 0, 1) := by decide +kernel
theorem dX3_feed_18 : decode cX3_feed 18 = .ok (.iload_n 2, 1) := by decide +kernel
theorem dX3_feed_19 : decode cX3_feed 19 = .ok (.invokevirtual 48, 3) := by decide +kernel
theorem dX3_feed_22 : decode cX3_feed 22 = .ok (.aload_n 0, 1) := by decide +kernel
theorem dX3_feed_23 : decode cX3_feed 23 = .ok (.iload_n 3, 1) := by decide +kernel
theorem dX3_feed_24 : decode cX3_feed 24 = .ok (.invokevirtual 48, 3) := by decide +kernel
theorem dX3_feed_27 : decode cX3_feed 27 = .ok (.aload_n 0, 1) := by decide +kernel
theorem dX3_feed_28 : decode cX3_feed 28 = .ok (.iload 4, 2) := by decide +kernel
theorem dX3_feed_30 : decode cX3_feed 30 = .ok (.invokevirtual 48, 3) := by decide +kernel
theorem dX3_feed_33 : decode cX3_feed 33 = .ok (.aload_n 0, 1) := by decide +kernel
theorem dX3_feed_34 : decode cX3_feed 34 = .ok (.iload 5, 2) := by decide +kernel
theorem dX3_feed_36 : decode cX3_feed 36 = .ok (.invokevirtual 48, 3) := by decide +kernel
theorem dX3_feed_39 : decode cX3_feed 39 = .ok (.aload_n 0, 1) := by decide +kernel
theorem dX3_feed_40 : decode cX3_feed 40 = .ok (.getfield 45, 3) := by decide +kernel
theorem dX3_feed_43 : decode cX3_feed 43 = .ok (.ireturn, 1) := by decide +kernel
theorem dX3_add_0 : decode cX3_add 0 = .ok (.iload_n 1, 1) := by decide +kernel
theorem dX3_add_1 : decode cX3_add 1 = .ok (.ifCond .lt 11, 3) := by decide +kernel
theorem dX3_add_4 : decode cX3_add 4 = .ok (.iload_n 1, 1) := by decide +kernel
theorem dX3_add_5 : decode cX3_add 5 = .ok (.aload_n 0, 1) := by decide +kernel
theorem dX3_add_6 : decode cX3_add 6 = .ok (.getfield 45, 3) := by decide +kernel
theorem dX3_add_9 : decode cX3_add 9 = .ok (.if_icmp .le 6, 3) := by decide +kernel
theorem dX3_add_12 : decode cX3_add 12 = .ok (.bipush (-2), 2) := by decide +kernel
theorem dX3_add_14 : decode cX3_add 14 = .ok (.ireturn, 1) := by decide +kernel
theorem dX3_add_15 : decode cX3_add 15 = .ok (.iload_n 1, 1) := by decide +kernel
theorem dX3_add_16 : decode cX3_add 16 = .ok (.sipush 1200, 3) := by decide +kernel
theorem dX3_add_19 : decode cX3_add 19 = .ok (.aload_n 0, 1) := by decide +kernel
theorem dX3_add_20 : decode cX3_add 20 = .ok (.getfield 52, 3) := by decide +kernel
theorem dX3_add_23 : decode cX3_add 23 = .ok (.isub, 1) := by decide +kernel
theorem dX3_add_24 : decode cX3_add 24 = .ok (.if_icmp .le 5, 3) := by decide +kernel
theorem dX3_add_27 : decode cX3_add 27 = .ok (.iconst (-1), 1) := by decide +kernel
theorem dX3_add_28 : decode cX3_add 28 = .ok (.ireturn, 1) := by decide +kernel
theorem dX3_add_29 : decode cX3_add 29 = .ok (.aload_n 0, 1) := by decide +kernel
theorem dX3_add_30 : decode cX3_add 30 = .ok (.getfield 13, 3) := by decide +kernel
theorem dX3_add_33 : decode cX3_add 33 = .ok (.iconst 0, 1) := by decide +kernel
theorem dX3_add_34 : decode cX3_add 34 = .ok (.aload_n 0, 1) := by decide +kernel
theorem dX3_add_35 : decode cX3_add 35 = .ok (.getfield 9, 3) := by decide +kernel
theorem dX3_add_38 : decode cX3_add 38 = .ok (.aload_n 0, 1) := by decide +kernel
theorem dX3_add_39 : decode cX3_add 39 = .ok (.getfield 52, 3) := by decide +kernel
theorem dX3_add_42 : decode cX3_add 42 = .ok (.iload_n 1, 1) := by decide +kernel
theorem dX3_add_43 : decode cX3_add 43 = .ok (.invokestatic 55, 3) := by decide +kernel
theorem dX3_add_46 : decode cX3_add 46 = .ok (.aload_n 0, 1) := by decide +kernel
theorem dX3_add_47 : decode cX3_add 47 = .ok (.dup, 1) := by decide +kernel
theorem dX3_add_48 : decode cX3_add 48 = .ok (.getfield 52, 3) := by decide +kernel
theorem dX3_add_51 : decode cX3_add 51 = .ok (.iload_n 1, 1) := by decide +kernel
theorem dX3_add_52 : decode cX3_add 52 = .ok (.iadd, 1) := by decide +kernel
theorem dX3_add_53 : decode cX3_add 53 = .ok (.putfield 52, 3) := by decide +kernel
theorem dX3_add_56 : decode cX3_add 56 = .ok (.aload_n 0, 1) := by decide +kernel
theorem dX3_add_57 : decode cX3_add 57 = .ok (.iconst 0, 1) := by decide +kernel
theorem dX3_add_58 : decode cX3_add 58 = .ok (.putfield 45, 3) := by decide +kernel
theorem dX3_add_61 : decode cX3_add 61 = .ok (.aload_n 0, 1) := by decide +kernel
theorem dX3_add_62 : decode cX3_add 62 = .ok (.invokevirtual 61, 3) := by decide +kernel
theorem dX3_add_65 : decode cX3_add 65 = .ok (.aload_n 0, 1) := by decide +kernel
theorem dX3_add_66 : decode cX3_add 66 = .ok (.getfield 52, 3) := by decide +kernel
theorem dX3_add_69 : decode cX3_add 69 = .ok (.ireturn, 1) := by decide +kernel
theorem dX3_clear_0 : decode cX3_clear 0 = .ok (.aload_n 0, 1) := by decide +kernel
theorem dX3_clear_1 : decode cX3_clear 1 = .ok (.iconst 0, 1) := by decide +kernel
theorem dX3_clear_2 : decode cX3_clear 2 = .ok (.putfield 52, 3) := by decide +kernel
theorem dX3_clear_5 : decode cX3_clear 5 = .ok (.aload_n 0, 1) := by decide +kernel
theorem dX3_clear_6 : decode cX3_clear 6 = .ok (.iconst 0, 1) := by decide +kernel
theorem dX3_clear_7 : decode cX3_clear 7 = .ok (.putfield 64, 3) := by decide +kernel
theorem dX3_clear_10 : decode cX3_clear 10 = .ok (.aload_n 0, 1) := by decide +kernel
theorem dX3_clear_11 : decode cX3_clear 11 = .ok (.invokevirtual 61, 3) := by decide +kernel
theorem dX3_clear_14 : decode cX3_clear 14 = .ok (.return_, 1) := by decide +kernel
theorem dX3_reads_0 : decode cX3_reads 0 = .ok (.iload_n 1, 1) := by decide +kernel
theorem dX3_reads_1 : decode cX3_reads 1 = .ok (.invokestatic 67, 3) := by decide +kernel
theorem dX3_reads_4 : decode cX3_reads 4 = .ok (.ifCond .ne 5, 3) := by decide +kernel
theorem dX3_reads_7 : decode cX3_reads 7 = .ok (.iconst (-1), 1) := by decide +kernel
theorem dX3_reads_8 : decode cX3_reads 8 = .ok (.ireturn, 1) := by decide +kernel
theorem dX3_reads_9 : decode cX3_reads 9 = .ok (.aload_n 0, 1) := by decide +kernel
theorem dX3_reads_10 : decode cX3_reads 10 = .ok (.iload_n 1, 1) := by decide +kernel
theorem dX3_reads_11 : decode cX3_reads 11 = .ok (.invokevirtual 71, 3) := by decide +kernel
theorem dX3_reads_14 : decode cX3_reads 14 = .ok (.aload_n 0, 1) := by decide +kernel
theorem dX3_reads_15 : decode cX3_reads 15 = .ok (.getfield 19, 3) := by decide +kernel
theorem dX3_reads_18 : decode cX3_reads 18 = .ok (.getfield 74, 3) := by decide +kernel
theorem dX3_reads_21 : decode cX3_reads 21 = .ok (.ireturn, 1) := by decide +kernel
theorem dX3_faultAt_0 : decode cX3_faultAt 0 = .ok (.iload_n 1, 1) := by decide +kernel
theorem dX3_faultAt_1 : decode cX3_faultAt 1 = .ok (.invokestatic 67, 3) := by decide +kernel
theorem dX3_faultAt_4 : decode cX3_faultAt 4 = .ok (.ifCond .ne 5, 3) := by decide +kernel
theorem dX3_faultAt_7 : decode cX3_faultAt 7 = .ok (.iconst (-1), 1) := by decide +kernel
theorem dX3_faultAt_8 : decode cX3_faultAt 8 = .ok (.ireturn, 1) := by decide +kernel
theorem dX3_faultAt_9 : decode cX3_faultAt 9 = .ok (.aload_n 0, 1) := by decide +kernel
theorem dX3_faultAt_10 : decode cX3_faultAt 10 = .ok (.iload_n 1, 1) := by decide +kernel
theorem dX3_faultAt_11 : decode cX3_faultAt 11 = .ok (.invokevirtual 71, 3) := by decide +kernel
theorem dX3_faultAt_14 : decode cX3_faultAt 14 = .ok (.aload_n 0, 1) := by decide +kernel
theorem dX3_faultAt_15 : decode cX3_faultAt 15 = .ok (.getfield 19, 3) := by decide +kernel
theorem dX3_faultAt_18 : decode cX3_faultAt 18 = .ok (.getfield 77, 3) := by decide +kernel
theorem dX3_faultAt_21 : decode cX3_faultAt 21 = .ok (.ireturn, 1) := by decide +kernel
theorem dX3_cost_0 : decode cX3_cost 0 = .ok (.iload_n 1, 1) := by decide +kernel
theorem dX3_cost_1 : decode cX3_cost 1 = .ok (.invokestatic 67, 3) := by decide +kernel
theorem dX3_cost_4 : decode cX3_cost 4 = .ok (.ifCond .eq 11, 3) := by decide +kernel
theorem dX3_cost_7 : decode cX3_cost 7 = .ok (.aload_n 0, 1) := by decide +kernel
theorem dX3_cost_8 : decode cX3_cost 8 = .ok (.iload_n 1, 1) := by decide +kernel
theorem dX3_cost_9 : decode cX3_cost 9 = .ok (.invokevirtual 80, 3) := by decide +kernel
theorem dX3_cost_12 : decode cX3_cost 12 = .ok (.goto 4, 3) := by decide +kernel
theorem dX3_cost_15 : decode cX3_cost 15 = .ok (.iconst (-1), 1) := by decide +kernel
theorem dX3_cost_16 : decode cX3_cost 16 = .ok (.ireturn, 1) := by decide +kernel
theorem dX3_best_0 : decode cX3_best 0 = .ok (.iconst (-1), 1) := by decide +kernel
theorem dX3_best_1 : decode cX3_best 1 = .ok (.istore_n 1, 1) := by decide +kernel
theorem dX3_best_2 : decode cX3_best 2 = .ok (.iconst 0, 1) := by decide +kernel
theorem dX3_best_3 : decode cX3_best 3 = .ok (.istore_n 2, 1) := by decide +kernel
theorem dX3_best_4 : decode cX3_best 4 = .ok (.iconst 0, 1) := by decide +kernel
theorem dX3_best_5 : decode cX3_best 5 = .ok (.istore_n 3, 1) := by decide +kernel
theorem dX3_best_6 : decode cX3_best 6 = .ok (.iload_n 3, 1) := by decide +kernel
theorem dX3_best_7 : decode cX3_best 7 = .ok (.bipush 24, 2) := by decide +kernel
theorem dX3_best_9 : decode cX3_best 9 = .ok (.if_icmp .ge 38, 3) := by decide +kernel
theorem dX3_best_12 : decode cX3_best 12 = .ok (.aload_n 0, 1) := by decide +kernel
theorem dX3_best_13 : decode cX3_best 13 = .ok (.iload_n 3, 1) := by decide +kernel
theorem dX3_best_14 : decode cX3_best 14 = .ok (.invokevirtual 80, 3) := by decide +kernel
theorem dX3_best_17 : decode cX3_best 17 = .ok (.istore 4, 2) := by decide +kernel
theorem dX3_best_19 : decode cX3_best 19 = .ok (.iload 4, 2) := by decide +kernel
theorem dX3_best_21 : decode cX3_best 21 = .ok (.iconst (-1), 1) := by decide +kernel
theorem dX3_best_22 : decode cX3_best 22 = .ok (.if_icmp .eq 19, 3) := by decide +kernel
theorem dX3_best_25 : decode cX3_best 25 = .ok (.iload_n 1, 1) := by decide +kernel
theorem dX3_best_26 : decode cX3_best 26 = .ok (.iconst (-1), 1) := by decide +kernel
theorem dX3_best_27 : decode cX3_best 27 = .ok (.if_icmp .eq 9, 3) := by decide +kernel
theorem dX3_best_30 : decode cX3_best 30 = .ok (.iload 4, 2) := by decide +kernel
theorem dX3_best_32 : decode cX3_best 32 = .ok (.iload_n 2, 1) := by decide +kernel
theorem dX3_best_33 : decode cX3_best 33 = .ok (.if_icmp .ge 8, 3) := by decide +kernel
theorem dX3_best_36 : decode cX3_best 36 = .ok (.iload_n 3, 1) := by decide +kernel
theorem dX3_best_37 : decode cX3_best 37 = .ok (.istore_n 1, 1) := by decide +kernel
theorem dX3_best_38 : decode cX3_best 38 = .ok (.iload 4, 2) := by decide +kernel
theorem dX3_best_40 : decode cX3_best 40 = .ok (.istore_n 2, 1) := by decide +kernel
theorem dX3_best_41 : decode cX3_best 41 = .ok (.iinc 3 1, 3) := by decide +kernel
theorem dX3_best_44 : decode cX3_best 44 = .ok (.goto (-38), 3) := by decide +kernel
theorem dX3_best_47 : decode cX3_best 47 = .ok (.iload_n 1, 1) := by decide +kernel
theorem dX3_best_48 : decode cX3_best 48 = .ok (.ireturn, 1) := by decide +kernel
theorem dX3_use_0 : decode cX3_use 0 = .ok (.iload_n 1, 1) := by decide +kernel
theorem dX3_use_1 : decode cX3_use 1 = .ok (.invokestatic 67, 3) := by decide +kernel
theorem dX3_use_4 : decode cX3_use 4 = .ok (.ifCond .ne 5, 3) := by decide +kernel
theorem dX3_use_7 : decode cX3_use 7 = .ok (.iconst 0, 1) := by decide +kernel
theorem dX3_use_8 : decode cX3_use 8 = .ok (.ireturn, 1) := by decide +kernel
theorem dX3_use_9 : decode cX3_use 9 = .ok (.aload_n 0, 1) := by decide +kernel
theorem dX3_use_10 : decode cX3_use 10 = .ok (.iload_n 1, 1) := by decide +kernel
theorem dX3_use_11 : decode cX3_use 11 = .ok (.putfield 64, 3) := by decide +kernel
theorem dX3_use_14 : decode cX3_use 14 = .ok (.iconst 1, 1) := by decide +kernel
theorem dX3_use_15 : decode cX3_use 15 = .ok (.ireturn, 1) := by decide +kernel
theorem dX3_about_0 : decode cX3_about 0 = .ok (.aload_n 0, 1) := by decide +kernel
theorem dX3_about_1 : decode cX3_about 1 = .ok (.aload_n 0, 1) := by decide +kernel
theorem dX3_about_2 : decode cX3_about 2 = .ok (.getfield 64, 3) := by decide +kernel
theorem dX3_about_5 : decode cX3_about 5 = .ok (.invokevirtual 71, 3) := by decide +kernel
theorem dX3_about_8 : decode cX3_about 8 = .ok (.iload_n 1, 1) := by decide +kernel
theorem dX3_about_9 : decode cX3_about 9 = .ok (.tableswitch 78 0 5 #[39, 47, 55, 63, 68, 73], 39) := by decide +kernel
theorem dX3_about_48 : decode cX3_about 48 = .ok (.aload_n 0, 1) := by decide +kernel
theorem dX3_about_49 : decode cX3_about 49 = .ok (.getfield 19, 3) := by decide +kernel
theorem dX3_about_52 : decode cX3_about 52 = .ok (.getfield 84, 3) := by decide +kernel
theorem dX3_about_55 : decode cX3_about 55 = .ok (.ireturn, 1) := by decide +kernel
theorem dX3_about_56 : decode cX3_about 56 = .ok (.aload_n 0, 1) := by decide +kernel
theorem dX3_about_57 : decode cX3_about 57 = .ok (.getfield 19, 3) := by decide +kernel
theorem dX3_about_60 : decode cX3_about 60 = .ok (.invokevirtual 87, 3) := by decide +kernel
theorem dX3_about_63 : decode cX3_about 63 = .ok (.ireturn, 1) := by decide +kernel
theorem dX3_about_64 : decode cX3_about 64 = .ok (.aload_n 0, 1) := by decide +kernel
theorem dX3_about_65 : decode cX3_about 65 = .ok (.getfield 19, 3) := by decide +kernel
theorem dX3_about_68 : decode cX3_about 68 = .ok (.invokevirtual 91, 3) := by decide +kernel
theorem dX3_about_71 : decode cX3_about 71 = .ok (.ireturn, 1) := by decide +kernel
theorem dX3_about_72 : decode cX3_about 72 = .ok (.aload_n 0, 1) := by decide +kernel
theorem dX3_about_73 : decode cX3_about 73 = .ok (.getfield 64, 3) := by decide +kernel
theorem dX3_about_76 : decode cX3_about 76 = .ok (.ireturn, 1) := by decide +kernel
theorem dX3_about_77 : decode cX3_about 77 = .ok (.aload_n 0, 1) := by decide +kernel
theorem dX3_about_78 : decode cX3_about 78 = .ok (.getfield 52, 3) := by decide +kernel
theorem dX3_about_81 : decode cX3_about 81 = .ok (.ireturn, 1) := by decide +kernel
theorem dX3_about_82 : decode cX3_about 82 = .ok (.aload_n 0, 1) := by decide +kernel
theorem dX3_about_83 : decode cX3_about 83 = .ok (.getfield 45, 3) := by decide +kernel
theorem dX3_about_86 : decode cX3_about 86 = .ok (.ireturn, 1) := by decide +kernel
theorem dX3_about_87 : decode cX3_about 87 = .ok (.iconst (-1), 1) := by decide +kernel
theorem dX3_about_88 : decode cX3_about 88 = .ok (.ireturn, 1) := by decide +kernel
theorem dX3_odd_0 : decode cX3_odd 0 = .ok (.aload_n 0, 1) := by decide +kernel
theorem dX3_odd_1 : decode cX3_odd 1 = .ok (.aload_n 0, 1) := by decide +kernel
theorem dX3_odd_2 : decode cX3_odd 2 = .ok (.getfield 64, 3) := by decide +kernel
theorem dX3_odd_5 : decode cX3_odd 5 = .ok (.invokevirtual 71, 3) := by decide +kernel
theorem dX3_odd_8 : decode cX3_odd 8 = .ok (.iload_n 1, 1) := by decide +kernel
theorem dX3_odd_9 : decode cX3_odd 9 = .ok (.istore_n 2, 1) := by decide +kernel
theorem dX3_odd_10 : decode cX3_odd 10 = .ok (.iconst 0, 1) := by decide +kernel
theorem dX3_odd_11 : decode cX3_odd 11 = .ok (.istore_n 3, 1) := by decide +kernel
theorem dX3_odd_12 : decode cX3_odd 12 = .ok (.iload_n 3, 1) := by decide +kernel
theorem dX3_odd_13 : decode cX3_odd 13 = .ok (.aload_n 0, 1) := by decide +kernel
theorem dX3_odd_14 : decode cX3_odd 14 = .ok (.getfield 19, 3) := by decide +kernel
theorem dX3_odd_17 : decode cX3_odd 17 = .ok (.getfield 84, 3) := by decide +kernel
theorem dX3_odd_20 : decode cX3_odd 20 = .ok (.if_icmp .ge 29, 3) := by decide +kernel
theorem dX3_odd_23 : decode cX3_odd 23 = .ok (.aload_n 0, 1) := by decide +kernel
theorem dX3_odd_24 : decode cX3_odd 24 = .ok (.getfield 19, 3) := by decide +kernel
theorem dX3_odd_27 : decode cX3_odd 27 = .ok (.iload_n 3, 1) := by decide +kernel
theorem dX3_odd_28 : decode cX3_odd 28 = .ok (.invokevirtual 94, 3) := by decide +kernel
theorem dX3_odd_31 : decode cX3_odd 31 = .ok (.ifCond .eq 12, 3) := by decide +kernel
theorem dX3_odd_34 : decode cX3_odd 34 = .ok (.iload_n 2, 1) := by decide +kernel
theorem dX3_odd_35 : decode cX3_odd 35 = .ok (.ifCond .ne 5, 3) := by decide +kernel
theorem dX3_odd_38 : decode cX3_odd 38 = .ok (.iload_n 3, 1) := by decide +kernel
theorem dX3_odd_39 : decode cX3_odd 39 = .ok (.ireturn, 1) := by decide +kernel
theorem dX3_odd_40 : decode cX3_odd 40 = .ok (.iinc 2 (-1), 3) := by decide +kernel
theorem dX3_odd_43 : decode cX3_odd 43 = .ok (.iinc 3 1, 3) := by decide +kernel
theorem dX3_odd_46 : decode cX3_odd 46 = .ok (.goto (-34), 3) := by decide +kernel
theorem dX3_odd_49 : decode cX3_odd 49 = .ok (.iconst (-1), 1) := by decide +kernel
theorem dX3_odd_50 : decode cX3_odd 50 = .ok (.ireturn, 1) := by decide +kernel
theorem dX3_breadth_0 : decode cX3_breadth 0 = .ok (.aload_n 0, 1) := by decide +kernel
theorem dX3_breadth_1 : decode cX3_breadth 1 = .ok (.aload_n 0, 1) := by decide +kernel
theorem dX3_breadth_2 : decode cX3_breadth 2 = .ok (.getfield 64, 3) := by decide +kernel
theorem dX3_breadth_5 : decode cX3_breadth 5 = .ok (.invokevirtual 71, 3) := by decide +kernel
theorem dX3_breadth_8 : decode cX3_breadth 8 = .ok (.aload_n 0, 1) := by decide +kernel
theorem dX3_breadth_9 : decode cX3_breadth 9 = .ok (.getfield 19, 3) := by decide +kernel
theorem dX3_breadth_12 : decode cX3_breadth 12 = .ok (.iload_n 1, 1) := by decide +kernel
theorem dX3_breadth_13 : decode cX3_breadth 13 = .ok (.invokevirtual 97, 3) := by decide +kernel
theorem dX3_breadth_16 : decode cX3_breadth 16 = .ok (.ireturn, 1) := by decide +kernel
theorem dX3_size_0 : decode cX3_size 0 = .ok (.aload_n 0, 1) := by decide +kernel
theorem dX3_size_1 : decode cX3_size 1 = .ok (.aload_n 0, 1) := by decide +kernel
theorem dX3_size_2 : decode cX3_size 2 = .ok (.getfield 64, 3) := by decide +kernel
theorem dX3_size_5 : decode cX3_size 5 = .ok (.invokevirtual 71, 3) := by decide +kernel
theorem dX3_size_8 : decode cX3_size 8 = .ok (.aload_n 0, 1) := by decide +kernel
theorem dX3_size_9 : decode cX3_size 9 = .ok (.getfield 19, 3) := by decide +kernel
theorem dX3_size_12 : decode cX3_size 12 = .ok (.aload_n 0, 1) := by decide +kernel
theorem dX3_size_13 : decode cX3_size 13 = .ok (.getfield 19, 3) := by decide +kernel
theorem dX3_size_16 : decode cX3_size 16 = .ok (.iload_n 1, 1) := by decide +kernel
theorem dX3_size_17 : decode cX3_size 17 = .ok (.iload_n 2, 1) := by decide +kernel
theorem dX3_size_18 : decode cX3_size 18 = .ok (.invokevirtual 100, 3) := by decide +kernel
theorem dX3_size_21 : decode cX3_size 21 = .ok (.invokevirtual 104, 3) := by decide +kernel
theorem dX3_size_24 : decode cX3_size 24 = .ok (.ireturn, 1) := by decide +kernel
theorem dX3_at_0 : decode cX3_at 0 = .ok (.aload_n 0, 1) := by decide +kernel
theorem dX3_at_1 : decode cX3_at 1 = .ok (.aload_n 0, 1) := by decide +kernel
theorem dX3_at_2 : decode cX3_at 2 = .ok (.getfield 64, 3) := by decide +kernel
theorem dX3_at_5 : decode cX3_at 5 = .ok (.invokevirtual 71, 3) := by decide +kernel
theorem dX3_at_8 : decode cX3_at 8 = .ok (.aload_n 0, 1) := by decide +kernel
theorem dX3_at_9 : decode cX3_at 9 = .ok (.getfield 19, 3) := by decide +kernel
theorem dX3_at_12 : decode cX3_at 12 = .ok (.aload_n 0, 1) := by decide +kernel
theorem dX3_at_13 : decode cX3_at 13 = .ok (.getfield 19, 3) := by decide +kernel
theorem dX3_at_16 : decode cX3_at 16 = .ok (.iload_n 1, 1) := by decide +kernel
theorem dX3_at_17 : decode cX3_at 17 = .ok (.iload_n 2, 1) := by decide +kernel
theorem dX3_at_18 : decode cX3_at 18 = .ok (.invokevirtual 100, 3) := by decide +kernel
theorem dX3_at_21 : decode cX3_at 21 = .ok (.iload_n 3, 1) := by decide +kernel
theorem dX3_at_22 : decode cX3_at 22 = .ok (.invokevirtual 107, 3) := by decide +kernel
theorem dX3_at_25 : decode cX3_at 25 = .ok (.ireturn, 1) := by decide +kernel
theorem dX3_form_0 : decode cX3_form 0 = .ok (.aload_n 0, 1) := by decide +kernel
theorem dX3_form_1 : decode cX3_form 1 = .ok (.iload_n 1, 1) := by decide +kernel
theorem dX3_form_2 : decode cX3_form 2 = .ok (.invokevirtual 110, 3) := by decide +kernel
theorem dX3_form_5 : decode cX3_form 5 = .ok (.ifCond .eq 15, 3) := by decide +kernel
theorem dX3_form_8 : decode cX3_form 8 = .ok (.aload_n 0, 1) := by decide +kernel
theorem dX3_form_9 : decode cX3_form 9 = .ok (.getfield 28, 3) := by decide +kernel
theorem dX3_form_12 : decode cX3_form 12 = .ok (.getfield 113, 3) := by decide +kernel
theorem dX3_form_15 : decode cX3_form 15 = .ok (.iload_n 1, 1) := by decide +kernel
theorem dX3_form_16 : decode cX3_form 16 = .ok (.iaload, 1) := by decide +kernel
theorem dX3_form_17 : decode cX3_form 17 = .ok (.goto 4, 3) := by decide +kernel
theorem dX3_form_20 : decode cX3_form 20 = .ok (.iconst (-1), 1) := by decide +kernel
theorem dX3_form_21 : decode cX3_form 21 = .ok (.ireturn, 1) := by decide +kernel
theorem dX3_missing_0 : decode cX3_missing 0 = .ok (.aload_n 0, 1) := by decide +kernel
theorem dX3_missing_1 : decode cX3_missing 1 = .ok (.iload_n 1, 1) := by decide +kernel
theorem dX3_missing_2 : decode cX3_missing 2 = .ok (.invokevirtual 110, 3) := by decide +kernel
theorem dX3_missing_5 : decode cX3_missing 5 = .ok (.ifCond .eq 15, 3) := by decide +kernel
theorem dX3_missing_8 : decode cX3_missing 8 = .ok (.aload_n 0, 1) := by decide +kernel
theorem dX3_missing_9 : decode cX3_missing 9 = .ok (.getfield 28, 3) := by decide +kernel
theorem dX3_missing_12 : decode cX3_missing 12 = .ok (.getfield 116, 3) := by decide +kernel
theorem dX3_missing_15 : decode cX3_missing 15 = .ok (.iload_n 1, 1) := by decide +kernel
theorem dX3_missing_16 : decode cX3_missing 16 = .ok (.iaload, 1) := by decide +kernel
theorem dX3_missing_17 : decode cX3_missing 17 = .ok (.goto 4, 3) := by decide +kernel
theorem dX3_missing_20 : decode cX3_missing 20 = .ok (.iconst (-1), 1) := by decide +kernel
theorem dX3_missing_21 : decode cX3_missing 21 = .ok (.ireturn, 1) := by decide +kernel
theorem dX3_lacks_0 : decode cX3_lacks 0 = .ok (.aload_n 0, 1) := by decide +kernel
theorem dX3_lacks_1 : decode cX3_lacks 1 = .ok (.iload_n 1, 1) := by decide +kernel
theorem dX3_lacks_2 : decode cX3_lacks 2 = .ok (.invokevirtual 110, 3) := by decide +kernel
theorem dX3_lacks_5 : decode cX3_lacks 5 = .ok (.ifCond .eq 23, 3) := by decide +kernel
theorem dX3_lacks_8 : decode cX3_lacks 8 = .ok (.aload_n 0, 1) := by decide +kernel
theorem dX3_lacks_9 : decode cX3_lacks 9 = .ok (.getfield 28, 3) := by decide +kernel
theorem dX3_lacks_12 : decode cX3_lacks 12 = .ok (.iload_n 1, 1) := by decide +kernel
theorem dX3_lacks_13 : decode cX3_lacks 13 = .ok (.aload_n 0, 1) := by decide +kernel
theorem dX3_lacks_14 : decode cX3_lacks 14 = .ok (.getfield 28, 3) := by decide +kernel
theorem dX3_lacks_17 : decode cX3_lacks 17 = .ok (.getfield 116, 3) := by decide +kernel
theorem dX3_lacks_20 : decode cX3_lacks 20 = .ok (.iload_n 1, 1) := by decide +kernel
theorem dX3_lacks_21 : decode cX3_lacks 21 = .ok (.iaload, 1) := by decide +kernel
theorem dX3_lacks_22 : decode cX3_lacks 22 = .ok (.invokevirtual 119, 3) := by decide +kernel
theorem dX3_lacks_25 : decode cX3_lacks 25 = .ok (.goto 4, 3) := by decide +kernel
theorem dX3_lacks_28 : decode cX3_lacks 28 = .ok (.iconst (-1), 1) := by decide +kernel
theorem dX3_lacks_29 : decode cX3_lacks 29 = .ok (.ireturn, 1) := by decide +kernel
theorem dX3_costOf_0 : decode cX3_costOf 0 = .ok (.aload_n 0, 1) := by decide +kernel
theorem dX3_costOf_1 : decode cX3_costOf 1 = .ok (.iload_n 1, 1) := by decide +kernel
theorem dX3_costOf_2 : decode cX3_costOf 2 = .ok (.invokevirtual 110, 3) := by decide +kernel
theorem dX3_costOf_5 : decode cX3_costOf 5 = .ok (.ifCond .eq 17, 3) := by decide +kernel
theorem dX3_costOf_8 : decode cX3_costOf 8 = .ok (.iload_n 2, 1) := by decide +kernel
theorem dX3_costOf_9 : decode cX3_costOf 9 = .ok (.invokestatic 122, 3) := by decide +kernel
theorem dX3_costOf_12 : decode cX3_costOf 12 = .ok (.ifCond .eq 10, 3) := by decide +kernel
theorem dX3_costOf_15 : decode cX3_costOf 15 = .ok (.iload_n 3, 1) := by decide +kernel
theorem dX3_costOf_16 : decode cX3_costOf 16 = .ok (.invokestatic 125, 3) := by decide +kernel
theorem dX3_costOf_19 : decode cX3_costOf 19 = .ok (.ifCond .ne 5, 3) := by decide +kernel
theorem dX3_costOf_22 : decode cX3_costOf 22 = .ok (.iconst (-1), 1) := by decide +kernel
theorem dX3_costOf_23 : decode cX3_costOf 23 = .ok (.ireturn, 1) := by decide +kernel
theorem dX3_costOf_24 : decode cX3_costOf 24 = .ok (.aload_n 0, 1) := by decide +kernel
theorem dX3_costOf_25 : decode cX3_costOf 25 = .ok (.getfield 28, 3) := by decide +kernel
theorem dX3_costOf_28 : decode cX3_costOf 28 = .ok (.iload_n 1, 1) := by decide +kernel
theorem dX3_costOf_29 : decode cX3_costOf 29 = .ok (.iload_n 3, 1) := by decide +kernel
theorem dX3_costOf_30 : decode cX3_costOf 30 = .ok (.invokevirtual 128, 3) := by decide +kernel
theorem dX3_costOf_33 : decode cX3_costOf 33 = .ok (.aload_n 0, 1) := by decide +kernel
theorem dX3_costOf_34 : decode cX3_costOf 34 = .ok (.getfield 28, 3) := by decide +kernel
theorem dX3_costOf_37 : decode cX3_costOf 37 = .ok (.iload_n 1, 1) := by decide +kernel
theorem dX3_costOf_38 : decode cX3_costOf 38 = .ok (.iload_n 2, 1) := by decide +kernel
theorem dX3_costOf_39 : decode cX3_costOf 39 = .ok (.iload_n 3, 1) := by decide +kernel
theorem dX3_costOf_40 : decode cX3_costOf 40 = .ok (.invokevirtual 132, 3) := by decide +kernel
theorem dX3_costOf_43 : decode cX3_costOf 43 = .ok (.ireturn, 1) := by decide +kernel
theorem dX3_fits_0 : decode cX3_fits 0 = .ok (.aload_n 0, 1) := by decide +kernel
theorem dX3_fits_1 : decode cX3_fits 1 = .ok (.iload_n 1, 1) := by decide +kernel
theorem dX3_fits_2 : decode cX3_fits 2 = .ok (.invokevirtual 110, 3) := by decide +kernel
theorem dX3_fits_5 : decode cX3_fits 5 = .ok (.ifCond .eq 18, 3) := by decide +kernel
theorem dX3_fits_8 : decode cX3_fits 8 = .ok (.aload_n 0, 1) := by decide +kernel
theorem dX3_fits_9 : decode cX3_fits 9 = .ok (.getfield 28, 3) := by decide +kernel
theorem dX3_fits_12 : decode cX3_fits 12 = .ok (.getfield 136, 3) := by decide +kernel
theorem dX3_fits_15 : decode cX3_fits 15 = .ok (.iload_n 1, 1) := by decide +kernel
theorem dX3_fits_16 : decode cX3_fits 16 = .ok (.iaload, 1) := by decide +kernel
theorem dX3_fits_17 : decode cX3_fits 17 = .ok (.invokestatic 139, 3) := by decide +kernel
theorem dX3_fits_20 : decode cX3_fits 20 = .ok (.goto 4, 3) := by decide +kernel
theorem dX3_fits_23 : decode cX3_fits 23 = .ok (.iconst (-1), 1) := by decide +kernel
theorem dX3_fits_24 : decode cX3_fits 24 = .ok (.ireturn, 1) := by decide +kernel
theorem dX3_doubt_0 : decode cX3_doubt 0 = .ok (.aload_n 0, 1) := by decide +kernel
theorem dX3_doubt_1 : decode cX3_doubt 1 = .ok (.iload_n 1, 1) := by decide +kernel
theorem dX3_doubt_2 : decode cX3_doubt 2 = .ok (.invokevirtual 110, 3) := by decide +kernel
theorem dX3_doubt_5 : decode cX3_doubt 5 = .ok (.ifCond .eq 14, 3) := by decide +kernel
theorem dX3_doubt_8 : decode cX3_doubt 8 = .ok (.aload_n 0, 1) := by decide +kernel
theorem dX3_doubt_9 : decode cX3_doubt 9 = .ok (.getfield 28, 3) := by decide +kernel
theorem dX3_doubt_12 : decode cX3_doubt 12 = .ok (.iload_n 1, 1) := by decide +kernel
theorem dX3_doubt_13 : decode cX3_doubt 13 = .ok (.invokevirtual 144, 3) := by decide +kernel
theorem dX3_doubt_16 : decode cX3_doubt 16 = .ok (.goto 4, 3) := by decide +kernel
theorem dX3_doubt_19 : decode cX3_doubt 19 = .ok (.iconst (-1), 1) := by decide +kernel
theorem dX3_doubt_20 : decode cX3_doubt 20 = .ok (.ireturn, 1) := by decide +kernel
theorem dX3_parts_0 : decode cX3_parts 0 = .ok (.aload_n 0, 1) := by decide +kernel
theorem dX3_parts_1 : decode cX3_parts 1 = .ok (.iload_n 1, 1) := by decide +kernel
theorem dX3_parts_2 : decode cX3_parts 2 = .ok (.invokevirtual 110, 3) := by decide +kernel
theorem dX3_parts_5 : decode cX3_parts 5 = .ok (.ifCond .eq 25, 3) := by decide +kernel
theorem dX3_parts_8 : decode cX3_parts 8 = .ok (.iload_n 2, 1) := by decide +kernel
theorem dX3_parts_9 : decode cX3_parts 9 = .ok (.invokestatic 122, 3) := by decide +kernel
theorem dX3_parts_12 : decode cX3_parts 12 = .ok (.ifCond .eq 18, 3) := by decide +kernel
theorem dX3_parts_15 : decode cX3_parts 15 = .ok (.iload_n 3, 1) := by decide +kernel
theorem dX3_parts_16 : decode cX3_parts 16 = .ok (.invokestatic 122, 3) := by decide +kernel
theorem dX3_parts_19 : decode cX3_parts 19 = .ok (.ifCond .eq 11, 3) := by decide +kernel
theorem dX3_parts_22 : decode cX3_parts 22 = .ok (.iload 4, 2) := by decide +kernel
theorem dX3_parts_24 : decode cX3_parts 24 = .ok (.invokestatic 125, 3) := by decide +kernel
theorem dX3_parts_27 : decode cX3_parts 27 = .ok (.ifCond .ne 5, 3) := by decide +kernel
theorem dX3_parts_30 : decode cX3_parts 30 = .ok (.iconst (-1), 1) := by decide +kernel
theorem dX3_parts_31 : decode cX3_parts 31 = .ok (.ireturn, 1) := by decide +kernel
theorem dX3_parts_32 : decode cX3_parts 32 = .ok (.aload_n 0, 1) := by decide +kernel
theorem dX3_parts_33 : decode cX3_parts 33 = .ok (.getfield 28, 3) := by decide +kernel
theorem dX3_parts_36 : decode cX3_parts 36 = .ok (.iload_n 1, 1) := by decide +kernel
theorem dX3_parts_37 : decode cX3_parts 37 = .ok (.iload 4, 2) := by decide +kernel
theorem dX3_parts_39 : decode cX3_parts 39 = .ok (.invokevirtual 128, 3) := by decide +kernel
theorem dX3_parts_42 : decode cX3_parts 42 = .ok (.aload_n 0, 1) := by decide +kernel
theorem dX3_parts_43 : decode cX3_parts 43 = .ok (.getfield 28, 3) := by decide +kernel
theorem dX3_parts_46 : decode cX3_parts 46 = .ok (.iload_n 1, 1) := by decide +kernel
theorem dX3_parts_47 : decode cX3_parts 47 = .ok (.iload_n 2, 1) := by decide +kernel
theorem dX3_parts_48 : decode cX3_parts 48 = .ok (.iload_n 3, 1) := by decide +kernel
theorem dX3_parts_49 : decode cX3_parts 49 = .ok (.iload 4, 2) := by decide +kernel
theorem dX3_parts_51 : decode cX3_parts 51 = .ok (.invokevirtual 147, 3) := by decide +kernel
theorem dX3_parts_54 : decode cX3_parts 54 = .ok (.ireturn, 1) := by decide +kernel
theorem dX3_value_0 : decode cX3_value 0 = .ok (.aload_n 0, 1) := by decide +kernel
theorem dX3_value_1 : decode cX3_value 1 = .ok (.iload_n 2, 1) := by decide +kernel
theorem dX3_value_2 : decode cX3_value 2 = .ok (.invokevirtual 110, 3) := by decide +kernel
theorem dX3_value_5 : decode cX3_value 5 = .ok (.ifCond .eq 16, 3) := by decide +kernel
theorem dX3_value_8 : decode cX3_value 8 = .ok (.aload_n 0, 1) := by decide +kernel
theorem dX3_value_9 : decode cX3_value 9 = .ok (.getfield 28, 3) := by decide +kernel
theorem dX3_value_12 : decode cX3_value 12 = .ok (.iload_n 1, 1) := by decide +kernel
theorem dX3_value_13 : decode cX3_value 13 = .ok (.iload_n 2, 1) := by decide +kernel
theorem dX3_value_14 : decode cX3_value 14 = .ok (.invokevirtual 151, 3) := by decide +kernel
theorem dX3_value_17 : decode cX3_value 17 = .ok (.i2l, 1) := by decide +kernel
theorem dX3_value_18 : decode cX3_value 18 = .ok (.goto 4, 3) := by decide +kernel
theorem dX3_value_21 : decode cX3_value 21 = .ok (.lconst 0, 1) := by decide +kernel
theorem dX3_value_22 : decode cX3_value 22 = .ok (.lreturn, 1) := by decide +kernel
theorem dX3_back_0 : decode cX3_back 0 = .ok (.aload_n 0, 1) := by decide +kernel
theorem dX3_back_1 : decode cX3_back 1 = .ok (.iload_n 2, 1) := by decide +kernel
theorem dX3_back_2 : decode cX3_back 2 = .ok (.invokevirtual 110, 3) := by decide +kernel
theorem dX3_back_5 : decode cX3_back 5 = .ok (.ifCond .eq 34, 3) := by decide +kernel
theorem dX3_back_8 : decode cX3_back 8 = .ok (.aload_n 0, 1) := by decide +kernel
theorem dX3_back_9 : decode cX3_back 9 = .ok (.getfield 19, 3) := by decide +kernel
theorem dX3_back_12 : decode cX3_back 12 = .ok (.iload_n 1, 1) := by decide +kernel
theorem dX3_back_13 : decode cX3_back 13 = .ok (.invokevirtual 154, 3) := by decide +kernel
theorem dX3_back_16 : decode cX3_back 16 = .ok (.ifCond .eq 23, 3) := by decide +kernel
theorem dX3_back_19 : decode cX3_back 19 = .ok (.aload_n 0, 1) := by decide +kernel
theorem dX3_back_20 : decode cX3_back 20 = .ok (.getfield 19, 3) := by decide +kernel
theorem dX3_back_23 : decode cX3_back 23 = .ok (.aload_n 0, 1) := by decide +kernel
theorem dX3_back_24 : decode cX3_back 24 = .ok (.getfield 19, 3) := by decide +kernel
theorem dX3_back_27 : decode cX3_back 27 = .ok (.iload_n 1, 1) := by decide +kernel
theorem dX3_back_28 : decode cX3_back 28 = .ok (.iload_n 2, 1) := by decide +kernel
theorem dX3_back_29 : decode cX3_back 29 = .ok (.invokevirtual 100, 3) := by decide +kernel
theorem dX3_back_32 : decode cX3_back 32 = .ok (.iload_n 3, 1) := by decide +kernel
theorem dX3_back_33 : decode cX3_back 33 = .ok (.invokevirtual 107, 3) := by decide +kernel
theorem dX3_back_36 : decode cX3_back 36 = .ok (.goto 4, 3) := by decide +kernel
theorem dX3_back_39 : decode cX3_back 39 = .ok (.iconst (-1), 1) := by decide +kernel
theorem dX3_back_40 : decode cX3_back 40 = .ok (.ireturn, 1) := by decide +kernel
theorem dX3_key_0 : decode cX3_key 0 = .ok (.aload_n 0, 1) := by decide +kernel
theorem dX3_key_1 : decode cX3_key 1 = .ok (.iload_n 1, 1) := by decide +kernel
theorem dX3_key_2 : decode cX3_key 2 = .ok (.invokevirtual 110, 3) := by decide +kernel
theorem dX3_key_5 : decode cX3_key 5 = .ok (.ifCond .ne 5, 3) := by decide +kernel
theorem dX3_key_8 : decode cX3_key 8 = .ok (.iconst (-1), 1) := by decide +kernel
theorem dX3_key_9 : decode cX3_key 9 = .ok (.ireturn, 1) := by decide +kernel
theorem dX3_key_10 : decode cX3_key 10 = .ok (.aload_n 0, 1) := by decide +kernel
theorem dX3_key_11 : decode cX3_key 11 = .ok (.getfield 28, 3) := by decide +kernel
theorem dX3_key_14 : decode cX3_key 14 = .ok (.iload_n 1, 1) := by decide +kernel
theorem dX3_key_15 : decode cX3_key 15 = .ok (.aload_n 0, 1) := by decide +kernel
theorem dX3_key_16 : decode cX3_key 16 = .ok (.getfield 28, 3) := by decide +kernel
theorem dX3_key_19 : decode cX3_key 19 = .ok (.getfield 116, 3) := by decide +kernel
theorem dX3_key_22 : decode cX3_key 22 = .ok (.iload_n 1, 1) := by decide +kernel
theorem dX3_key_23 : decode cX3_key 23 = .ok (.iaload, 1) := by decide +kernel
theorem dX3_key_24 : decode cX3_key 24 = .ok (.invokevirtual 119, 3) := by decide +kernel
theorem dX3_key_27 : decode cX3_key 27 = .ok (.ifCond .ne 18, 3) := by decide +kernel
theorem dX3_key_30 : decode cX3_key 30 = .ok (.aload_n 0, 1) := by decide +kernel
theorem dX3_key_31 : decode cX3_key 31 = .ok (.getfield 28, 3) := by decide +kernel
theorem dX3_key_34 : decode cX3_key 34 = .ok (.iload_n 1, 1) := by decide +kernel
theorem dX3_key_35 : decode cX3_key 35 = .ok (.invokevirtual 157, 3) := by decide +kernel
theorem dX3_key_38 : decode cX3_key 38 = .ok (.ifCond .eq 7, 3) := by decide +kernel
theorem dX3_key_41 : decode cX3_key 41 = .ok (.iconst 1, 1) := by decide +kernel
theorem dX3_key_42 : decode cX3_key 42 = .ok (.goto 4, 3) := by decide +kernel
theorem dX3_key_45 : decode cX3_key 45 = .ok (.iconst 0, 1) := by decide +kernel
theorem dX3_key_46 : decode cX3_key 46 = .ok (.ireturn, 1) := by decide +kernel
theorem dX3_isMake_0 : decode cX3_isMake 0 = .ok (.iload_n 0, 1) := by decide +kernel
theorem dX3_isMake_1 : decode cX3_isMake 1 = .ok (.ifCond .lt 13, 3) := by decide +kernel
theorem dX3_isMake_4 : decode cX3_isMake 4 = .ok (.iload_n 0, 1) := by decide +kernel
theorem dX3_isMake_5 : decode cX3_isMake 5 = .ok (.bipush 24, 2) := by decide +kernel
theorem dX3_isMake_7 : decode cX3_isMake 7 = .ok (.if_icmp .ge 7, 3) := by decide +kernel
theorem dX3_isMake_10 : decode cX3_isMake 10 = .ok (.iconst 1, 1) := by decide +kernel
theorem dX3_isMake_11 : decode cX3_isMake 11 = .ok (.goto 4, 3) := by decide +kernel
theorem dX3_isMake_14 : decode cX3_isMake 14 = .ok (.iconst 0, 1) := by decide +kernel
theorem dX3_isMake_15 : decode cX3_isMake 15 = .ok (.ireturn, 1) := by decide +kernel
theorem dX3_tapeNumber_0 : decode cX3_tapeNumber 0 = .ok (.bipush 24, 2) := by decide +kernel
theorem dX3_tapeNumber_2 : decode cX3_tapeNumber 2 = .ok (.istore_n 2, 1) := by decide +kernel
theorem dX3_tapeNumber_3 : decode cX3_tapeNumber 3 = .ok (.iload_n 2, 1) := by decide +kernel
theorem dX3_tapeNumber_4 : decode cX3_tapeNumber 4 = .ok (.ifCond .lt 45, 3) := by decide +kernel
theorem dX3_tapeNumber_7 : decode cX3_tapeNumber 7 = .ok (.aload_n 0, 1) := by decide +kernel
theorem dX3_tapeNumber_8 : decode cX3_tapeNumber 8 = .ok (.getfield 45, 3) := by decide +kernel
theorem dX3_tapeNumber_11 : decode cX3_tapeNumber 11 = .ok (.sipush 400, 3) := by decide +kernel
theorem dX3_tapeNumber_14 : decode cX3_tapeNumber 14 = .ok (.if_icmp .ge 35, 3) := by decide +kernel
theorem dX3_tapeNumber_17 : decode cX3_tapeNumber 17 = .ok (.aload_n 0, 1) := by decide +kernel
theorem dX3_tapeNumber_18 : decode cX3_tapeNumber 18 = .ok (.getfield 13, 3) := by decide +kernel
theorem dX3_tapeNumber_21 : decode cX3_tapeNumber 21 = .ok (.aload_n 0, 1) := by decide +kernel
theorem dX3_tapeNumber_22 : decode cX3_tapeNumber 22 = .ok (.getfield 45, 3) := by decide +kernel
theorem dX3_tapeNumber_25 : decode cX3_tapeNumber 25 = .ok (.iload_n 1, 1) := by decide +kernel
theorem dX3_tapeNumber_26 : decode cX3_tapeNumber 26 = .ok (.iload_n 2, 1) := by decide +kernel
theorem dX3_tapeNumber_27 : decode cX3_tapeNumber 27 = .ok (.iushr, 1) := by decide +kernel
theorem dX3_tapeNumber_28 : decode cX3_tapeNumber 28 = .ok (.sipush 255, 3) := by decide +kernel
theorem dX3_tapeNumber_31 : decode cX3_tapeNumber 31 = .ok (.iand, 1) := by decide +kernel
theorem dX3_tapeNumber_32 : decode cX3_tapeNumber 32 = .ok (.iastore, 1) := by decide +kernel
theorem dX3_tapeNumber_33 : decode cX3_tapeNumber 33 = .ok (.aload_n 0, 1) := by decide +kernel
theorem dX3_tapeNumber_34 : decode cX3_tapeNumber 34 = .ok (.dup, 1) := by decide +kernel
theorem dX3_tapeNumber_35 : decode cX3_tapeNumber 35 = .ok (.getfield 45, 3) := by decide +kernel
theorem dX3_tapeNumber_38 : decode cX3_tapeNumber 38 = .ok (.iconst 1, 1) := by decide +kernel
theorem dX3_tapeNumber_39 : decode cX3_tapeNumber 39 = .ok (.iadd, 1) := by decide +kernel
theorem dX3_tapeNumber_40 : decode cX3_tapeNumber 40 = .ok (.putfield 45, 3) := by decide +kernel
theorem dX3_tapeNumber_43 : decode cX3_tapeNumber 43 = .ok (.iinc 2 (-8), 3) := by decide +kernel
theorem dX3_tapeNumber_46 : decode cX3_tapeNumber 46 = .ok (.goto (-43), 3) := by decide +kernel
theorem dX3_tapeNumber_49 : decode cX3_tapeNumber 49 = .ok (.return_, 1) := by decide +kernel
theorem dX3_forgetReadings_0 : decode cX3_forgetReadings 0 = .ok (.aload_n 0, 1) := by decide +kernel
theorem dX3_forgetReadings_1 : decode cX3_forgetReadings 1 = .ok (.iconst (-1), 1) := by decide +kernel
theorem dX3_forgetReadings_2 : decode cX3_forgetReadings 2 = .ok (.putfield 35, 3) := by decide +kernel
theorem dX3_forgetReadings_5 : decode cX3_forgetReadings 5 = .ok (.aload_n 0, 1) := by decide +kernel
theorem dX3_forgetReadings_6 : decode cX3_forgetReadings 6 = .ok (.getfield 32, 3) := by decide +kernel
theorem dX3_forgetReadings_9 : decode cX3_forgetReadings 9 = .ok (.bipush (-2), 2) := by decide +kernel
theorem dX3_forgetReadings_11 : decode cX3_forgetReadings 11 = .ok (.invokestatic 39, 3) := by decide +kernel
theorem dX3_forgetReadings_14 : decode cX3_forgetReadings 14 = .ok (.return_, 1) := by decide +kernel
theorem dX3_cutTextBy_0 : decode cX3_cutTextBy 0 = .ok (.aload_n 0, 1) := by decide +kernel
theorem dX3_cutTextBy_1 : decode cX3_cutTextBy 1 = .ok (.getfield 35, 3) := by decide +kernel
theorem dX3_cutTextBy_4 : decode cX3_cutTextBy 4 = .ok (.iload_n 1, 1) := by decide +kernel
theorem dX3_cutTextBy_5 : decode cX3_cutTextBy 5 = .ok (.if_icmp .eq 31, 3) := by decide +kernel
theorem dX3_cutTextBy_8 : decode cX3_cutTextBy 8 = .ok (.aload_n 0, 1) := by decide +kernel
theorem dX3_cutTextBy_9 : decode cX3_cutTextBy 9 = .ok (.getfield 19, 3) := by decide +kernel
theorem dX3_cutTextBy_12 : decode cX3_cutTextBy 12 = .ok (.aload_n 0, 1) := by decide +kernel
theorem dX3_cutTextBy_13 : decode cX3_cutTextBy 13 = .ok (.getfield 9, 3) := by decide +kernel
theorem dX3_cutTextBy_16 : decode cX3_cutTextBy 16 = .ok (.aload_n 0, 1) := by decide +kernel
theorem dX3_cutTextBy_17 : decode cX3_cutTextBy 17 = .ok (.getfield 52, 3) := by decide +kernel
theorem dX3_cutTextBy_20 : decode cX3_cutTextBy 20 = .ok (.iload_n 1, 1) := by decide +kernel
theorem dX3_cutTextBy_21 : decode cX3_cutTextBy 21 = .ok (.invokevirtual 160, 3) := by decide +kernel
theorem dX3_cutTextBy_24 : decode cX3_cutTextBy 24 = .ok (.aload_n 0, 1) := by decide +kernel
theorem dX3_cutTextBy_25 : decode cX3_cutTextBy 25 = .ok (.getfield 28, 3) := by decide +kernel
theorem dX3_cutTextBy_28 : decode cX3_cutTextBy 28 = .ok (.invokevirtual 164, 3) := by decide +kernel
theorem dX3_cutTextBy_31 : decode cX3_cutTextBy 31 = .ok (.aload_n 0, 1) := by decide +kernel
theorem dX3_cutTextBy_32 : decode cX3_cutTextBy 32 = .ok (.iload_n 1, 1) := by decide +kernel
theorem dX3_cutTextBy_33 : decode cX3_cutTextBy 33 = .ok (.putfield 35, 3) := by decide +kernel
theorem dX3_cutTextBy_36 : decode cX3_cutTextBy 36 = .ok (.return_, 1) := by decide +kernel
theorem dX3_hasChosen_0 : decode cX3_hasChosen 0 = .ok (.aload_n 0, 1) := by decide +kernel
theorem dX3_hasChosen_1 : decode cX3_hasChosen 1 = .ok (.aload_n 0, 1) := by decide +kernel
theorem dX3_hasChosen_2 : decode cX3_hasChosen 2 = .ok (.getfield 64, 3) := by decide +kernel
theorem dX3_hasChosen_5 : decode cX3_hasChosen 5 = .ok (.invokevirtual 71, 3) := by decide +kernel
theorem dX3_hasChosen_8 : decode cX3_hasChosen 8 = .ok (.iload_n 1, 1) := by decide +kernel
theorem dX3_hasChosen_9 : decode cX3_hasChosen 9 = .ok (.ifCond .lt 14, 3) := by decide +kernel
theorem dX3_hasChosen_12 : decode cX3_hasChosen 12 = .ok (.iload_n 1, 1) := by decide +kernel
theorem dX3_hasChosen_13 : decode cX3_hasChosen 13 = .ok (.aload_n 0, 1) := by decide +kernel
theorem dX3_hasChosen_14 : decode cX3_hasChosen 14 = .ok (.getfield 19, 3) := by decide +kernel
theorem dX3_hasChosen_17 : decode cX3_hasChosen 17 = .ok (.invokevirtual 87, 3) := by decide +kernel
theorem dX3_hasChosen_20 : decode cX3_hasChosen 20 = .ok (.if_icmp .lt 5, 3) := by decide +kernel
theorem dX3_hasChosen_23 : decode cX3_hasChosen 23 = .ok (.iconst 0, 1) := by decide +kernel
theorem dX3_hasChosen_24 : decode cX3_hasChosen 24 = .ok (.ireturn, 1) := by decide +kernel
theorem dX3_hasChosen_25 : decode cX3_hasChosen 25 = .ok (.aload_n 0, 1) := by decide +kernel
theorem dX3_hasChosen_26 : decode cX3_hasChosen 26 = .ok (.getfield 28, 3) := by decide +kernel
theorem dX3_hasChosen_29 : decode cX3_hasChosen 29 = .ok (.iload_n 1, 1) := by decide +kernel
theorem dX3_hasChosen_30 : decode cX3_hasChosen 30 = .ok (.invokevirtual 167, 3) := by decide +kernel
theorem dX3_hasChosen_33 : decode cX3_hasChosen 33 = .ok (.aload_n 0, 1) := by decide +kernel
theorem dX3_hasChosen_34 : decode cX3_hasChosen 34 = .ok (.getfield 28, 3) := by decide +kernel
theorem dX3_hasChosen_37 : decode cX3_hasChosen 37 = .ok (.getfield 113, 3) := by decide +kernel
theorem dX3_hasChosen_40 : decode cX3_hasChosen 40 = .ok (.iload_n 1, 1) := by decide +kernel
theorem dX3_hasChosen_41 : decode cX3_hasChosen 41 = .ok (.iaload, 1) := by decide +kernel
theorem dX3_hasChosen_42 : decode cX3_hasChosen 42 = .ok (.iconst (-1), 1) := by decide +kernel
theorem dX3_hasChosen_43 : decode cX3_hasChosen 43 = .ok (.if_icmp .eq 7, 3) := by decide +kernel
theorem dX3_hasChosen_46 : decode cX3_hasChosen 46 = .ok (.iconst 1, 1) := by decide +kernel
theorem dX3_hasChosen_47 : decode cX3_hasChosen 47 = .ok (.goto 4, 3) := by decide +kernel
theorem dX3_hasChosen_50 : decode cX3_hasChosen 50 = .ok (.iconst 0, 1) := by decide +kernel
theorem dX3_hasChosen_51 : decode cX3_hasChosen 51 = .ok (.ireturn, 1) := by decide +kernel
theorem dX3_priceOfMake_0 : decode cX3_priceOfMake 0 = .ok (.aload_n 0, 1) := by decide +kernel
theorem dX3_priceOfMake_1 : decode cX3_priceOfMake 1 = .ok (.getfield 32, 3) := by decide +kernel
theorem dX3_priceOfMake_4 : decode cX3_priceOfMake 4 = .ok (.iload_n 1, 1) := by decide +kernel
theorem dX3_priceOfMake_5 : decode cX3_priceOfMake 5 = .ok (.iaload, 1) := by decide +kernel
theorem dX3_priceOfMake_6 : decode cX3_priceOfMake 6 = .ok (.bipush (-2), 2) := by decide +kernel
theorem dX3_priceOfMake_8 : decode cX3_priceOfMake 8 = .ok (.if_icmp .ne 76, 3) := by decide +kernel
theorem dX3_priceOfMake_11 : decode cX3_priceOfMake 11 = .ok (.aload_n 0, 1) := by decide +kernel
theorem dX3_priceOfMake_12 : decode cX3_priceOfMake 12 = .ok (.iload_n 1, 1) := by decide +kernel
theorem dX3_priceOfMake_13 : decode cX3_priceOfMake 13 = .ok (.invokevirtual 71, 3) := by decide +kernel
theorem dX3_priceOfMake_16 : decode cX3_priceOfMake 16 = .ok (.aload_n 0, 1) := by decide +kernel
theorem dX3_priceOfMake_17 : decode cX3_priceOfMake 17 = .ok (.getfield 19, 3) := by decide +kernel
theorem dX3_priceOfMake_20 : decode cX3_priceOfMake 20 = .ok (.invokevirtual 170, 3) := by decide +kernel
theorem dX3_priceOfMake_23 : decode cX3_priceOfMake 23 = .ok (.istore_n 2, 1) := by decide +kernel
theorem dX3_priceOfMake_24 : decode cX3_priceOfMake 24 = .ok (.iconst 0, 1) := by decide +kernel
theorem dX3_priceOfMake_25 : decode cX3_priceOfMake 25 = .ok (.istore_n 3, 1) := by decide +kernel
theorem dX3_priceOfMake_26 : decode cX3_priceOfMake 26 = .ok (.iload_n 3, 1) := by decide +kernel
theorem dX3_priceOfMake_27 : decode cX3_priceOfMake 27 = .ok (.aload_n 0, 1) := by decide +kernel
theorem dX3_priceOfMake_28 : decode cX3_priceOfMake 28 = .ok (.getfield 19, 3) := by decide +kernel
theorem dX3_priceOfMake_31 : decode cX3_priceOfMake 31 = .ok (.invokevirtual 87, 3) := by decide +kernel
theorem dX3_priceOfMake_34 : decode cX3_priceOfMake 34 = .ok (.if_icmp .ge 29, 3) := by decide +kernel
theorem dX3_priceOfMake_37 : decode cX3_priceOfMake 37 = .ok (.aload_n 0, 1) := by decide +kernel
theorem dX3_priceOfMake_38 : decode cX3_priceOfMake 38 = .ok (.getfield 28, 3) := by decide +kernel
theorem dX3_priceOfMake_41 : decode cX3_priceOfMake 41 = .ok (.iload_n 3, 1) := by decide +kernel
theorem dX3_priceOfMake_42 : decode cX3_priceOfMake 42 = .ok (.invokevirtual 167, 3) := by decide +kernel
theorem dX3_priceOfMake_45 : decode cX3_priceOfMake 45 = .ok (.iload_n 2, 1) := by decide +kernel
theorem dX3_priceOfMake_46 : decode cX3_priceOfMake 46 = .ok (.aload_n 0, 1) := by decide +kernel
theorem dX3_priceOfMake_47 : decode cX3_priceOfMake 47 = .ok (.getfield 28, 3) := by decide +kernel
theorem dX3_priceOfMake_50 : decode cX3_priceOfMake 50 = .ok (.getfield 173, 3) := by decide +kernel
theorem dX3_priceOfMake_53 : decode cX3_priceOfMake 53 = .ok (.iload_n 3, 1) := by decide +kernel
theorem dX3_priceOfMake_54 : decode cX3_priceOfMake 54 = .ok (.iaload, 1) := by decide +kernel
theorem dX3_priceOfMake_55 : decode cX3_priceOfMake 55 = .ok (.iadd, 1) := by decide +kernel
theorem dX3_priceOfMake_56 : decode cX3_priceOfMake 56 = .ok (.istore_n 2, 1) := by decide +kernel
theorem dX3_priceOfMake_57 : decode cX3_priceOfMake 57 = .ok (.iinc 3 1, 3) := by decide +kernel
theorem dX3_priceOfMake_60 : decode cX3_priceOfMake 60 = .ok (.goto (-34), 3) := by decide +kernel
theorem dX3_priceOfMake_63 : decode cX3_priceOfMake 63 = .ok (.aload_n 0, 1) := by decide +kernel
theorem dX3_priceOfMake_64 : decode cX3_priceOfMake 64 = .ok (.getfield 32, 3) := by decide +kernel
theorem dX3_priceOfMake_67 : decode cX3_priceOfMake 67 = .ok (.iload_n 1, 1) := by decide +kernel
theorem dX3_priceOfMake_68 : decode cX3_priceOfMake 68 = .ok (.aload_n 0, 1) := by decide +kernel
theorem dX3_priceOfMake_69 : decode cX3_priceOfMake 69 = .ok (.getfield 19, 3) := by decide +kernel
theorem dX3_priceOfMake_72 : decode cX3_priceOfMake 72 = .ok (.getfield 74, 3) := by decide +kernel
theorem dX3_priceOfMake_75 : decode cX3_priceOfMake 75 = .ok (.ifCond .ne 7, 3) := by decide +kernel
theorem dX3_priceOfMake_78 : decode cX3_priceOfMake 78 = .ok (.iload_n 2, 1) := by decide +kernel
theorem dX3_priceOfMake_79 : decode cX3_priceOfMake 79 = .ok (.goto 4, 3) := by decide +kernel
theorem dX3_priceOfMake_82 : decode cX3_priceOfMake 82 = .ok (.iconst (-1), 1) := by decide +kernel
theorem dX3_priceOfMake_83 : decode cX3_priceOfMake 83 = .ok (.iastore, 1) := by decide +kernel
theorem dX3_priceOfMake_84 : decode cX3_priceOfMake 84 = .ok (.aload_n 0, 1) := by decide +kernel
theorem dX3_priceOfMake_85 : decode cX3_priceOfMake 85 = .ok (.getfield 32, 3) := by decide +kernel
theorem dX3_priceOfMake_88 : decode cX3_priceOfMake 88 = .ok (.iload_n 1, 1) := by decide +kernel
theorem dX3_priceOfMake_89 : decode cX3_priceOfMake 89 = .ok (.iaload, 1) := by decide +kernel
theorem dX3_priceOfMake_90 : decode cX3_priceOfMake 90 = .ok (.ireturn, 1) := by decide +kernel
theorem dJ6_bitCount_0f7a4_0 : decode cJ6_bitCount_0f7a4 0 = .ok (.iload_n 0, 1) := by decide +kernel
theorem dJ6_bitCount_0f7a4_1 : decode cJ6_bitCount_0f7a4 1 = .ok (.iload_n 0, 1) := by decide +kernel
theorem dJ6_bitCount_0f7a4_2 : decode cJ6_bitCount_0f7a4 2 = .ok (.iconst 1, 1) := by decide +kernel
theorem dJ6_bitCount_0f7a4_3 : decode cJ6_bitCount_0f7a4 3 = .ok (.iushr, 1) := by decide +kernel
theorem dJ6_bitCount_0f7a4_4 : decode cJ6_bitCount_0f7a4 4 = .ok (.ldc_w 265, 3) := by decide +kernel
theorem dJ6_bitCount_0f7a4_7 : decode cJ6_bitCount_0f7a4 7 = .ok (.iand, 1) := by decide +kernel
theorem dJ6_bitCount_0f7a4_8 : decode cJ6_bitCount_0f7a4 8 = .ok (.isub, 1) := by decide +kernel
theorem dJ6_bitCount_0f7a4_9 : decode cJ6_bitCount_0f7a4 9 = .ok (.istore_n 0, 1) := by decide +kernel
theorem dJ6_bitCount_0f7a4_10 : decode cJ6_bitCount_0f7a4 10 = .ok (.iload_n 0, 1) := by decide +kernel
theorem dJ6_bitCount_0f7a4_11 : decode cJ6_bitCount_0f7a4 11 = .ok (.ldc_w 266, 3) := by decide +kernel
theorem dJ6_bitCount_0f7a4_14 : decode cJ6_bitCount_0f7a4 14 = .ok (.iand, 1) := by decide +kernel
theorem dJ6_bitCount_0f7a4_15 : decode cJ6_bitCount_0f7a4 15 = .ok (.iload_n 0, 1) := by decide +kernel
theorem dJ6_bitCount_0f7a4_16 : decode cJ6_bitCount_0f7a4 16 = .ok (.iconst 2, 1) := by decide +kernel
theorem dJ6_bitCount_0f7a4_17 : decode cJ6_bitCount_0f7a4 17 = .ok (.iushr, 1) := by decide +kernel
theorem dJ6_bitCount_0f7a4_18 : decode cJ6_bitCount_0f7a4 18 = .ok (.ldc_w 266, 3) := by decide +kernel
theorem dJ6_bitCount_0f7a4_21 : decode cJ6_bitCount_0f7a4 21 = .ok (.iand, 1) := by decide +kernel
theorem dJ6_bitCount_0f7a4_22 : decode cJ6_bitCount_0f7a4 22 = .ok (.iadd, 1) := by decide +kernel
theorem dJ6_bitCount_0f7a4_23 : decode cJ6_bitCount_0f7a4 23 = .ok (.istore_n 0, 1) := by decide +kernel
theorem dJ6_bitCount_0f7a4_24 : decode cJ6_bitCount_0f7a4 24 = .ok (.iload_n 0, 1) := by decide +kernel
theorem dJ6_bitCount_0f7a4_25 : decode cJ6_bitCount_0f7a4 25 = .ok (.iload_n 0, 1) := by decide +kernel
theorem dJ6_bitCount_0f7a4_26 : decode cJ6_bitCount_0f7a4 26 = .ok (.iconst 4, 1) := by decide +kernel
theorem dJ6_bitCount_0f7a4_27 : decode cJ6_bitCount_0f7a4 27 = .ok (.iushr, 1) := by decide +kernel
theorem dJ6_bitCount_0f7a4_28 : decode cJ6_bitCount_0f7a4 28 = .ok (.iadd, 1) := by decide +kernel
theorem dJ6_bitCount_0f7a4_29 : decode cJ6_bitCount_0f7a4 29 = .ok (.ldc_w 267, 3) := by decide +kernel
theorem dJ6_bitCount_0f7a4_32 : decode cJ6_bitCount_0f7a4 32 = .ok (.iand, 1) := by decide +kernel
theorem dJ6_bitCount_0f7a4_33 : decode cJ6_bitCount_0f7a4 33 = .ok (.istore_n 0, 1) := by decide +kernel
theorem dJ6_bitCount_0f7a4_34 : decode cJ6_bitCount_0f7a4 34 = .ok (.iload_n 0, 1) := by decide +kernel
theorem dJ6_bitCount_0f7a4_35 : decode cJ6_bitCount_0f7a4 35 = .ok (.iload_n 0, 1) := by decide +kernel
theorem dJ6_bitCount_0f7a4_36 : decode cJ6_bitCount_0f7a4 36 = .ok (.bipush 8, 2) := by decide +kernel
theorem dJ6_bitCount_0f7a4_38 : decode cJ6_bitCount_0f7a4 38 = .ok (.iushr, 1) := by decide +kernel
theorem dJ6_bitCount_0f7a4_39 : decode cJ6_bitCount_0f7a4 39 = .ok (.iadd, 1) := by decide +kernel
theorem dJ6_bitCount_0f7a4_40 : decode cJ6_bitCount_0f7a4 40 = .ok (.istore_n 0, 1) := by decide +kernel
theorem dJ6_bitCount_0f7a4_41 : decode cJ6_bitCount_0f7a4 41 = .ok (.iload_n 0, 1) := by decide +kernel
theorem dJ6_bitCount_0f7a4_42 : decode cJ6_bitCount_0f7a4 42 = .ok (.iload_n 0, 1) := by decide +kernel
theorem dJ6_bitCount_0f7a4_43 : decode cJ6_bitCount_0f7a4 43 = .ok (.bipush 16, 2) := by decide +kernel
theorem dJ6_bitCount_0f7a4_45 : decode cJ6_bitCount_0f7a4 45 = .ok (.iushr, 1) := by decide +kernel
theorem dJ6_bitCount_0f7a4_46 : decode cJ6_bitCount_0f7a4 46 = .ok (.iadd, 1) := by decide +kernel
theorem dJ6_bitCount_0f7a4_47 : decode cJ6_bitCount_0f7a4 47 = .ok (.istore_n 0, 1) := by decide +kernel
theorem dJ6_bitCount_0f7a4_48 : decode cJ6_bitCount_0f7a4 48 = .ok (.iload_n 0, 1) := by decide +kernel
theorem dJ6_bitCount_0f7a4_49 : decode cJ6_bitCount_0f7a4 49 = .ok (.bipush 63, 2) := by decide +kernel
theorem dJ6_bitCount_0f7a4_51 : decode cJ6_bitCount_0f7a4 51 = .ok (.iand, 1) := by decide +kernel
theorem dJ6_bitCount_0f7a4_52 : decode cJ6_bitCount_0f7a4 52 = .ok (.ireturn, 1) := by decide +kernel
theorem dJ9_min_7cf53_0 : decode cJ9_min_7cf53 0 = .ok (.iload_n 0, 1) := by decide +kernel
theorem dJ9_min_7cf53_1 : decode cJ9_min_7cf53 1 = .ok (.iload_n 1, 1) := by decide +kernel
theorem dJ9_min_7cf53_2 : decode cJ9_min_7cf53 2 = .ok (.if_icmp .gt 7, 3) := by decide +kernel
theorem dJ9_min_7cf53_5 : decode cJ9_min_7cf53 5 = .ok (.iload_n 0, 1) := by decide +kernel
theorem dJ9_min_7cf53_6 : decode cJ9_min_7cf53 6 = .ok (.goto 4, 3) := by decide +kernel
theorem dJ9_min_7cf53_9 : decode cJ9_min_7cf53 9 = .ok (.iload_n 1, 1) := by decide +kernel
theorem dJ9_min_7cf53_10 : decode cJ9_min_7cf53 10 = .ok (.ireturn, 1) := by decide +kernel
theorem dJ0_length_8abf5_0 : decode cJ0_length_8abf5 0 = .ok (.aload_n 0, 1) := by decide +kernel
theorem dJ0_length_8abf5_1 : decode cJ0_length_8abf5 1 = .ok (.getfield 9, 3) := by decide +kernel
theorem dJ0_length_8abf5_4 : decode cJ0_length_8abf5 4 = .ok (.arraylength, 1) := by decide +kernel
theorem dJ0_length_8abf5_5 : decode cJ0_length_8abf5 5 = .ok (.aload_n 0, 1) := by decide +kernel
theorem dJ0_length_8abf5_6 : decode cJ0_length_8abf5 6 = .ok (.invokevirtual 335, 3) := by decide +kernel
theorem dJ0_length_8abf5_9 : decode cJ0_length_8abf5 9 = .ok (.ishr, 1) := by decide +kernel
theorem dJ0_length_8abf5_10 : decode cJ0_length_8abf5 10 = .ok (.ireturn, 1) := by decide +kernel
theorem dJ0_charAt_5068e_0 : decode cJ0_charAt_5068e 0 = .ok (.aload_n 0, 1) := by decide +kernel
theorem dJ0_charAt_5068e_1 : decode cJ0_charAt_5068e 1 = .ok (.invokevirtual 492, 3) := by decide +kernel
theorem dJ0_charAt_5068e_4 : decode cJ0_charAt_5068e 4 = .ok (.ifCond .eq 12, 3) := by decide +kernel
theorem dJ0_charAt_5068e_7 : decode cJ0_charAt_5068e 7 = .ok (.aload_n 0, 1) := by decide +kernel
theorem dJ0_charAt_5068e_8 : decode cJ0_charAt_5068e 8 = .ok (.getfield 9, 3) := by decide +kernel
theorem dJ0_charAt_5068e_11 : decode cJ0_charAt_5068e 11 = .ok (.iload_n 1, 1) := by decide +kernel
theorem dJ0_charAt_5068e_12 : decode cJ0_charAt_5068e 12 = .ok (.invokestatic 495, 3) := by decide +kernel
theorem dJ0_charAt_5068e_15 : decode cJ0_charAt_5068e 15 = .ok (.ireturn, 1) := by decide +kernel
theorem dJ0_charAt_5068e_16 : decode cJ0_charAt_5068e 16 = .ok (.aload_n 0, 1) := by decide +kernel
theorem dJ0_charAt_5068e_17 : decode cJ0_charAt_5068e 17 = .ok (.getfield 9, 3) := by decide +kernel
theorem dJ0_charAt_5068e_20 : decode cJ0_charAt_5068e 20 = .ok (.iload_n 1, 1) := by decide +kernel
theorem dJ0_charAt_5068e_21 : decode cJ0_charAt_5068e 21 = .ok (.invokestatic 498, 3) := by decide +kernel
theorem dJ0_charAt_5068e_24 : decode cJ0_charAt_5068e 24 = .ok (.ireturn, 1) := by decide +kernel
theorem dJ0_coder_7d493_0 : decode cJ0_coder_7d493 0 = .ok (.getstatic 38, 3) := by decide +kernel
theorem dJ0_coder_7d493_3 : decode cJ0_coder_7d493 3 = .ok (.ifCond .eq 10, 3) := by decide +kernel
theorem dJ0_coder_7d493_6 : decode cJ0_coder_7d493 6 = .ok (.aload_n 0, 1) := by decide +kernel
theorem dJ0_coder_7d493_7 : decode cJ0_coder_7d493 7 = .ok (.getfield 15, 3) := by decide +kernel
theorem dJ0_coder_7d493_10 : decode cJ0_coder_7d493 10 = .ok (.goto 4, 3) := by decide +kernel
theorem dJ0_coder_7d493_13 : decode cJ0_coder_7d493 13 = .ok (.iconst 1, 1) := by decide +kernel
theorem dJ0_coder_7d493_14 : decode cJ0_coder_7d493 14 = .ok (.ireturn, 1) := by decide +kernel
theorem dJ0_isLatin1_aae02_0 : decode cJ0_isLatin1_aae02 0 = .ok (.getstatic 38, 3) := by decide +kernel
theorem dJ0_isLatin1_aae02_3 : decode cJ0_isLatin1_aae02 3 = .ok (.ifCond .eq 14, 3) := by decide +kernel
theorem dJ0_isLatin1_aae02_6 : decode cJ0_isLatin1_aae02 6 = .ok (.aload_n 0, 1) := by decide +kernel
theorem dJ0_isLatin1_aae02_7 : decode cJ0_isLatin1_aae02 7 = .ok (.getfield 15, 3) := by decide +kernel
theorem dJ0_isLatin1_aae02_10 : decode cJ0_isLatin1_aae02 10 = .ok (.ifCond .ne 7, 3) := by decide +kernel
theorem dJ0_isLatin1_aae02_13 : decode cJ0_isLatin1_aae02 13 = .ok (.iconst 1, 1) := by decide +kernel
theorem dJ0_isLatin1_aae02_14 : decode cJ0_isLatin1_aae02 14 = .ok (.goto 4, 3) := by decide +kernel
theorem dJ0_isLatin1_aae02_17 : decode cJ0_isLatin1_aae02 17 = .ok (.iconst 0, 1) := by decide +kernel
theorem dJ0_isLatin1_aae02_18 : decode cJ0_isLatin1_aae02 18 = .ok (.ireturn, 1) := by decide +kernel
theorem dJ0_checkIndex_df160_0 : decode cJ0_checkIndex_df160 0 = .ok (.iload_n 0, 1) := by decide +kernel
theorem dJ0_checkIndex_df160_1 : decode cJ0_checkIndex_df160 1 = .ok (.iload_n 1, 1) := by decide +kernel
theorem dJ0_checkIndex_df160_2 : decode cJ0_checkIndex_df160 2 = .ok (.getstatic 1053, 3) := by decide +kernel
theorem dJ0_checkIndex_df160_5 : decode cJ0_checkIndex_df160 5 = .ok (.invokestatic 1059, 3) := by decide +kernel
theorem dJ0_checkIndex_df160_8 : decode cJ0_checkIndex_df160 8 = .ok (.pop, 1) := by decide +kernel
theorem dJ0_checkIndex_df160_9 : decode cJ0_checkIndex_df160 9 = .ok (.return_, 1) := by decide +kernel
theorem dJ1_charAt_3b067_0 : decode cJ1_charAt_3b067 0 = .ok (.iload_n 1, 1) := by decide +kernel
theorem dJ1_charAt_3b067_1 : decode cJ1_charAt_3b067 1 = .ok (.aload_n 0, 1) := by decide +kernel
theorem dJ1_charAt_3b067_2 : decode cJ1_charAt_3b067 2 = .ok (.arraylength, 1) := by decide +kernel
theorem dJ1_charAt_3b067_3 : decode cJ1_charAt_3b067 3 = .ok (.invokestatic 9, 3) := by decide +kernel
theorem dJ1_charAt_3b067_6 : decode cJ1_charAt_3b067 6 = .ok (.aload_n 0, 1) := by decide +kernel
theorem dJ1_charAt_3b067_7 : decode cJ1_charAt_3b067 7 = .ok (.iload_n 1, 1) := by decide +kernel
theorem dJ1_charAt_3b067_8 : decode cJ1_charAt_3b067 8 = .ok (.baload, 1) := by decide +kernel
theorem dJ1_charAt_3b067_9 : decode cJ1_charAt_3b067 9 = .ok (.sipush 255, 3) := by decide +kernel
theorem dJ1_charAt_3b067_12 : decode cJ1_charAt_3b067 12 = .ok (.iand, 1) := by decide +kernel
theorem dJ1_charAt_3b067_13 : decode cJ1_charAt_3b067 13 = .ok (.i2c, 1) := by decide +kernel
theorem dJ1_charAt_3b067_14 : decode cJ1_charAt_3b067 14 = .ok (.ireturn, 1) := by decide +kernel
theorem dJ2_getChar_3b067_0 : decode cJ2_getChar_3b067 0 = .ok (.getstatic 44, 3) := by decide +kernel
theorem dJ2_getChar_3b067_3 : decode cJ2_getChar_3b067 3 = .ok (.ifCond .ne 25, 3) := by decide +kernel
theorem dJ2_getChar_3b067_6 : decode cJ2_getChar_3b067 6 = .ok (.iload_n 1, 1) := by decide +kernel
theorem dJ2_getChar_3b067_7 : decode cJ2_getChar_3b067 7 = .ok (.ifCond .lt 11, 3) := by decide +kernel
theorem dJ2_getChar_3b067_10 : decode cJ2_getChar_3b067 10 = .ok (.iload_n 1, 1) := by decide +kernel
theorem dJ2_getChar_3b067_11 : decode cJ2_getChar_3b067 11 = .ok (.aload_n 0, 1) := by decide +kernel
theorem dJ2_getChar_3b067_12 : decode cJ2_getChar_3b067 12 = .ok (.invokestatic 48, 3) := by decide +kernel
theorem dJ2_getChar_3b067_15 : decode cJ2_getChar_3b067 15 = .ok (.if_icmp .lt 13, 3) := by decide +kernel
theorem dJ2_getChar_3b067_18 : decode cJ2_getChar_3b067 18 = .ok (.new 52, 3) := by decide +kernel
theorem dJ2_getChar_3b067_21 : decode cJ2_getChar_3b067 21 = .ok (.dup, 1) := by decide +kernel
theorem dJ2_getChar_3b067_22 : decode cJ2_getChar_3b067 22 = .ok (.ldc 54, 2) := by decide +kernel
theorem dJ2_getChar_3b067_24 : decode cJ2_getChar_3b067 24 = .ok (.invokespecial 56, 3) := by decide +kernel
theorem dJ2_getChar_3b067_27 : decode cJ2_getChar_3b067 27 = .ok (.athrow, 1) := by decide +kernel
theorem dJ2_getChar_3b067_28 : decode cJ2_getChar_3b067 28 = .ok (.iload_n 1, 1) := by decide +kernel
theorem dJ2_getChar_3b067_29 : decode cJ2_getChar_3b067 29 = .ok (.iconst 1, 1) := by decide +kernel
theorem dJ2_getChar_3b067_30 : decode cJ2_getChar_3b067 30 = .ok (.ishl, 1) := by decide +kernel
theorem dJ2_getChar_3b067_31 : decode cJ2_getChar_3b067 31 = .ok (.istore_n 1, 1) := by decide +kernel
theorem dJ2_getChar_3b067_32 : decode cJ2_getChar_3b067 32 = .ok (.aload_n 0, 1) := by decide +kernel
theorem dJ2_getChar_3b067_33 : decode cJ2_getChar_3b067 33 = .ok (.iload_n 1, 1) := by decide +kernel
theorem dJ2_getChar_3b067_34 : decode cJ2_getChar_3b067 34 = .ok (.iinc 1 1, 3) := by decide +kernel
theorem dJ2_getChar_3b067_37 : decode cJ2_getChar_3b067 37 = .ok (.baload, 1) := by decide +kernel
theorem dJ2_getChar_3b067_38 : decode cJ2_getChar_3b067 38 = .ok (.sipush 255, 3) := by decide +kernel
theorem dJ2_getChar_3b067_41 : decode cJ2_getChar_3b067 41 = .ok (.iand, 1) := by decide +kernel
theorem dJ2_getChar_3b067_42 : decode cJ2_getChar_3b067 42 = .ok (.getstatic 59, 3) := by decide +kernel
theorem dJ2_getChar_3b067_45 : decode cJ2_getChar_3b067 45 = .ok (.ishl, 1) := by decide +kernel
theorem dJ2_getChar_3b067_46 : decode cJ2_getChar_3b067 46 = .ok (.aload_n 0, 1) := by decide +kernel
theorem dJ2_getChar_3b067_47 : decode cJ2_getChar_3b067 47 = .ok (.iload_n 1, 1) := by decide +kernel
theorem dJ2_getChar_3b067_48 : decode cJ2_getChar_3b067 48 = .ok (.baload, 1) := by decide +kernel
theorem dJ2_getChar_3b067_49 : decode cJ2_getChar_3b067 49 = .ok (.sipush 255, 3) := by decide +kernel
theorem dJ2_getChar_3b067_52 : decode cJ2_getChar_3b067 52 = .ok (.iand, 1) := by decide +kernel
theorem dJ2_getChar_3b067_53 : decode cJ2_getChar_3b067 53 = .ok (.getstatic 63, 3) := by decide +kernel
theorem dJ2_getChar_3b067_56 : decode cJ2_getChar_3b067 56 = .ok (.ishl, 1) := by decide +kernel
theorem dJ2_getChar_3b067_57 : decode cJ2_getChar_3b067 57 = .ok (.ior, 1) := by decide +kernel
theorem dJ2_getChar_3b067_58 : decode cJ2_getChar_3b067 58 = .ok (.i2c, 1) := by decide +kernel
theorem dJ2_getChar_3b067_59 : decode cJ2_getChar_3b067 59 = .ok (.ireturn, 1) := by decide +kernel
theorem dJ2_length_9d52b_0 : decode cJ2_length_9d52b 0 = .ok (.aload_n 0, 1) := by decide +kernel
theorem dJ2_length_9d52b_1 : decode cJ2_length_9d52b 1 = .ok (.arraylength, 1) := by decide +kernel
theorem dJ2_length_9d52b_2 : decode cJ2_length_9d52b 2 = .ok (.iconst 1, 1) := by decide +kernel
theorem dJ2_length_9d52b_3 : decode cJ2_length_9d52b 3 = .ok (.ishr, 1) := by decide +kernel
theorem dJ2_length_9d52b_4 : decode cJ2_length_9d52b 4 = .ok (.ireturn, 1) := by decide +kernel
theorem dJ2_charAt_3b067_0 : decode cJ2_charAt_3b067 0 = .ok (.iload_n 1, 1) := by decide +kernel
theorem dJ2_charAt_3b067_1 : decode cJ2_charAt_3b067 1 = .ok (.aload_n 0, 1) := by decide +kernel
theorem dJ2_charAt_3b067_2 : decode cJ2_charAt_3b067 2 = .ok (.invokestatic 67, 3) := by decide +kernel
theorem dJ2_charAt_3b067_5 : decode cJ2_charAt_3b067 5 = .ok (.aload_n 0, 1) := by decide +kernel
theorem dJ2_charAt_3b067_6 : decode cJ2_charAt_3b067 6 = .ok (.iload_n 1, 1) := by decide +kernel
theorem dJ2_charAt_3b067_7 : decode cJ2_charAt_3b067 7 = .ok (.invokestatic 71, 3) := by decide +kernel
theorem dJ2_charAt_3b067_10 : decode cJ2_charAt_3b067 10 = .ok (.ireturn, 1) := by decide +kernel
theorem dJ2_checkIndex_2214a_0 : decode cJ2_checkIndex_2214a 0 = .ok (.iload_n 0, 1) := by decide +kernel
theorem dJ2_checkIndex_2214a_1 : decode cJ2_checkIndex_2214a 1 = .ok (.aload_n 1, 1) := by decide +kernel
theorem dJ2_checkIndex_2214a_2 : decode cJ2_checkIndex_2214a 2 = .ok (.invokestatic 48, 3) := by decide +kernel
theorem dJ2_checkIndex_2214a_5 : decode cJ2_checkIndex_2214a 5 = .ok (.invokestatic 414, 3) := by decide +kernel
theorem dJ2_checkIndex_2214a_8 : decode cJ2_checkIndex_2214a 8 = .ok (.return_, 1) := by decide +kernel
theorem dJ7_fill_53178_0 : decode cJ7_fill_53178 0 = .ok (.iconst 0, 1) := by decide +kernel
theorem dJ7_fill_53178_1 : decode cJ7_fill_53178 1 = .ok (.istore_n 2, 1) := by decide +kernel
theorem dJ7_fill_53178_2 : decode cJ7_fill_53178 2 = .ok (.aload_n 0, 1) := by decide +kernel
theorem dJ7_fill_53178_3 : decode cJ7_fill_53178 3 = .ok (.arraylength, 1) := by decide +kernel
theorem dJ7_fill_53178_4 : decode cJ7_fill_53178 4 = .ok (.istore_n 3, 1) := by decide +kernel
theorem dJ7_fill_53178_5 : decode cJ7_fill_53178 5 = .ok (.iload_n 2, 1) := by decide +kernel
theorem dJ7_fill_53178_6 : decode cJ7_fill_53178 6 = .ok (.iload_n 3, 1) := by decide +kernel
theorem dJ7_fill_53178_7 : decode cJ7_fill_53178 7 = .ok (.if_icmp .ge 13, 3) := by decide +kernel
theorem dJ7_fill_53178_10 : decode cJ7_fill_53178 10 = .ok (.aload_n 0, 1) := by decide +kernel
theorem dJ7_fill_53178_11 : decode cJ7_fill_53178 11 = .ok (.iload_n 2, 1) := by decide +kernel
theorem dJ7_fill_53178_12 : decode cJ7_fill_53178 12 = .ok (.iload_n 1, 1) := by decide +kernel
theorem dJ7_fill_53178_13 : decode cJ7_fill_53178 13 = .ok (.iastore, 1) := by decide +kernel
theorem dJ7_fill_53178_14 : decode cJ7_fill_53178 14 = .ok (.iinc 2 1, 3) := by decide +kernel
theorem dJ7_fill_53178_17 : decode cJ7_fill_53178 17 = .ok (.goto (-12), 3) := by decide +kernel
theorem dJ7_fill_53178_20 : decode cJ7_fill_53178 20 = .ok (.return_, 1) := by decide +kernel
theorem dJ3_checkIndex_8e157_0 : decode cJ3_checkIndex_8e157 0 = .ok (.iload_n 0, 1) := by decide +kernel
theorem dJ3_checkIndex_8e157_1 : decode cJ3_checkIndex_8e157 1 = .ok (.ifCond .lt 8, 3) := by decide +kernel
theorem dJ3_checkIndex_8e157_4 : decode cJ3_checkIndex_8e157 4 = .ok (.iload_n 0, 1) := by decide +kernel
theorem dJ3_checkIndex_8e157_5 : decode cJ3_checkIndex_8e157 5 = .ok (.iload_n 1, 1) := by decide +kernel
theorem dJ3_checkIndex_8e157_6 : decode cJ3_checkIndex_8e157 6 = .ok (.if_icmp .lt 10, 3) := by decide +kernel
theorem dJ3_checkIndex_8e157_9 : decode cJ3_checkIndex_8e157 9 = .ok (.aload_n 2, 1) := by decide +kernel
theorem dJ3_checkIndex_8e157_10 : decode cJ3_checkIndex_8e157 10 = .ok (.iload_n 0, 1) := by decide +kernel
theorem dJ3_checkIndex_8e157_11 : decode cJ3_checkIndex_8e157 11 = .ok (.iload_n 1, 1) := by decide +kernel
theorem dJ3_checkIndex_8e157_12 : decode cJ3_checkIndex_8e157 12 = .ok (.invokestatic 95, 3) := by decide +kernel
theorem dJ3_checkIndex_8e157_15 : decode cJ3_checkIndex_8e157 15 = .ok (.athrow, 1) := by decide +kernel
theorem dJ3_checkIndex_8e157_16 : decode cJ3_checkIndex_8e157 16 = .ok (.iload_n 0, 1) := by decide +kernel
theorem dJ3_checkIndex_8e157_17 : decode cJ3_checkIndex_8e157 17 = .ok (.ireturn, 1) := by decide +kernel
