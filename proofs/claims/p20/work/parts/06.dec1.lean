theorem dX0_init_0 : decode cX0_init 0 = .ok (.aload_n 0, 1) := by decide +kernel
theorem dX0_init_1 : decode cX0_init 1 = .ok (.invokespecial 3, 3) := by decide +kernel
theorem dX0_init_4 : decode cX0_init 4 = .ok (.aload_n 0, 1) := by decide +kernel
theorem dX0_init_5 : decode cX0_init 5 = .ok (.bipush 12, 2) := by decide +kernel
theorem dX0_init_7 : decode cX0_init 7 = .ok (.newarray .int, 2) := by decide +kernel
theorem dX0_init_9 : decode cX0_init 9 = .ok (.putfield 11, 3) := by decide +kernel
theorem dX0_init_12 : decode cX0_init 12 = .ok (.aload_n 0, 1) := by decide +kernel
theorem dX0_init_13 : decode cX0_init 13 = .ok (.bipush 12, 2) := by decide +kernel
theorem dX0_init_15 : decode cX0_init 15 = .ok (.newarray .int, 2) := by decide +kernel
theorem dX0_init_17 : decode cX0_init 17 = .ok (.putfield 17, 3) := by decide +kernel
theorem dX0_init_20 : decode cX0_init 20 = .ok (.aload_n 0, 1) := by decide +kernel
theorem dX0_init_21 : decode cX0_init 21 = .ok (.bipush 12, 2) := by decide +kernel
theorem dX0_init_23 : decode cX0_init 23 = .ok (.newarray .int, 2) := by decide +kernel
theorem dX0_init_25 : decode cX0_init 25 = .ok (.putfield 20, 3) := by decide +kernel
theorem dX0_init_28 : decode cX0_init 28 = .ok (.aload_n 0, 1) := by decide +kernel
theorem dX0_init_29 : decode cX0_init 29 = .ok (.bipush 12, 2) := by decide +kernel
theorem dX0_init_31 : decode cX0_init 31 = .ok (.newarray .int, 2) := by decide +kernel
theorem dX0_init_33 : decode cX0_init 33 = .ok (.putfield 23, 3) := by decide +kernel
theorem dX0_init_36 : decode cX0_init 36 = .ok (.aload_n 0, 1) := by decide +kernel
theorem dX0_init_37 : decode cX0_init 37 = .ok (.bipush 12, 2) := by decide +kernel
theorem dX0_init_39 : decode cX0_init 39 = .ok (.newarray .int, 2) := by decide +kernel
theorem dX0_init_41 : decode cX0_init 41 = .ok (.putfield 26, 3) := by decide +kernel
theorem dX0_init_44 : decode cX0_init 44 = .ok (.aload_n 0, 1) := by decide +kernel
theorem dX0_init_45 : decode cX0_init 45 = .ok (.aload_n 1, 1) := by decide +kernel
theorem dX0_init_46 : decode cX0_init 46 = .ok (.putfield 29, 3) := by decide +kernel
theorem dX0_init_49 : decode cX0_init 49 = .ok (.aload_n 0, 1) := by decide +kernel
theorem dX0_init_50 : decode cX0_init 50 = .ok (.new 33, 3) := by decide +kernel
theorem dX0_init_53 : decode cX0_init 53 = .ok (.dup, 1) := by decide +kernel
theorem dX0_init_54 : decode cX0_init 54 = .ok (.aload_n 1, 1) := by decide +kernel
theorem dX0_init_55 : decode cX0_init 55 = .ok (.invokespecial 35, 3) := by decide +kernel
theorem dX0_init_58 : decode cX0_init 58 = .ok (.putfield 38, 3) := by decide +kernel
theorem dX0_init_61 : decode cX0_init 61 = .ok (.return_, 1) := by decide +kernel
theorem dX0_isForm_0 : decode cX0_isForm 0 = .ok (.iload_n 0, 1) := by decide +kernel
theorem dX0_isForm_1 : decode cX0_isForm 1 = .ok (.ifCond .lt 13, 3) := by decide +kernel
theorem dX0_isForm_4 : decode cX0_isForm 4 = .ok (.iload_n 0, 1) := by decide +kernel
theorem dX0_isForm_5 : decode cX0_isForm 5 = .ok (.bipush 31, 2) := by decide +kernel
theorem dX0_isForm_7 : decode cX0_isForm 7 = .ok (.if_icmp .gt 7, 3) := by decide +kernel
theorem dX0_isForm_10 : decode cX0_isForm 10 = .ok (.iconst 1, 1) := by decide +kernel
theorem dX0_isForm_11 : decode cX0_isForm 11 = .ok (.goto 4, 3) := by decide +kernel
theorem dX0_isForm_14 : decode cX0_isForm 14 = .ok (.iconst 0, 1) := by decide +kernel
theorem dX0_isForm_15 : decode cX0_isForm 15 = .ok (.ireturn, 1) := by decide +kernel
theorem dX0_isCode_0 : decode cX0_isCode 0 = .ok (.iload_n 0, 1) := by decide +kernel
theorem dX0_isCode_1 : decode cX0_isCode 1 = .ok (.ifCond .lt 12, 3) := by decide +kernel
theorem dX0_isCode_4 : decode cX0_isCode 4 = .ok (.iload_n 0, 1) := by decide +kernel
theorem dX0_isCode_5 : decode cX0_isCode 5 = .ok (.iconst 5, 1) := by decide +kernel
theorem dX0_isCode_6 : decode cX0_isCode 6 = .ok (.if_icmp .ge 7, 3) := by decide +kernel
theorem dX0_isCode_9 : decode cX0_isCode 9 = .ok (.iconst 1, 1) := by decide +kernel
theorem dX0_isCode_10 : decode cX0_isCode 10 = .ok (.goto 4, 3) := by decide +kernel
theorem dX0_isCode_13 : decode cX0_isCode 13 = .ok (.iconst 0, 1) := by decide +kernel
theorem dX0_isCode_14 : decode cX0_isCode 14 = .ok (.ireturn, 1) := by decide +kernel
theorem dX0_forget_0 : decode cX0_forget 0 = .ok (.aload_n 0, 1) := by decide +kernel
theorem dX0_forget_1 : decode cX0_forget 1 = .ok (.getfield 11, 3) := by decide +kernel
theorem dX0_forget_4 : decode cX0_forget 4 = .ok (.bipush (-2), 2) := by decide +kernel
theorem dX0_forget_6 : decode cX0_forget 6 = .ok (.invokestatic 42, 3) := by decide +kernel
theorem dX0_forget_9 : decode cX0_forget 9 = .ok (.return_, 1) := by decide +kernel
theorem dX0_choose_0 : decode cX0_choose 0 = .ok (.iload_n 1, 1) := by decide +kernel
theorem dX0_choose_1 : decode cX0_choose 1 = .ok (.ifCond .lt 23, 3) := by decide +kernel
theorem dX0_choose_4 : decode cX0_choose 4 = .ok (.iload_n 1, 1) := by decide +kernel
theorem dX0_choose_5 : decode cX0_choose 5 = .ok (.aload_n 0, 1) := by decide +kernel
theorem dX0_choose_6 : decode cX0_choose 6 = .ok (.getfield 11, 3) := by decide +kernel
theorem dX0_choose_9 : decode cX0_choose 9 = .ok (.arraylength, 1) := by decide +kernel
theorem dX0_choose_10 : decode cX0_choose 10 = .ok (.if_icmp .ge 14, 3) := by decide +kernel
theorem dX0_choose_13 : decode cX0_choose 13 = .ok (.aload_n 0, 1) := by decide +kernel
theorem dX0_choose_14 : decode cX0_choose 14 = .ok (.getfield 11, 3) := by decide +kernel
theorem dX0_choose_17 : decode cX0_choose 17 = .ok (.iload_n 1, 1) := by decide +kernel
theorem dX0_choose_18 : decode cX0_choose 18 = .ok (.iaload, 1) := by decide +kernel
theorem dX0_choose_19 : decode cX0_choose 19 = .ok (.bipush (-2), 2) := by decide +kernel
theorem dX0_choose_21 : decode cX0_choose 21 = .ok (.if_icmp .eq 4, 3) := by decide +kernel
theorem dX0_choose_24 : decode cX0_choose 24 = .ok (.return_, 1) := by decide +kernel
theorem dX0_choose_25 : decode cX0_choose 25 = .ok (.aload_n 0, 1) := by decide +kernel
theorem dX0_choose_26 : decode cX0_choose 26 = .ok (.getfield 11, 3) := by decide +kernel
theorem dX0_choose_29 : decode cX0_choose 29 = .ok (.iload_n 1, 1) := by decide +kernel
theorem dX0_choose_30 : decode cX0_choose 30 = .ok (.iconst (-1), 1) := by decide +kernel
theorem dX0_choose_31 : decode cX0_choose 31 = .ok (.iastore, 1) := by decide +kernel
theorem dX0_choose_32 : decode cX0_choose 32 = .ok (.aload_n 0, 1) := by decide +kernel
theorem dX0_choose_33 : decode cX0_choose 33 = .ok (.getfield 17, 3) := by decide +kernel
theorem dX0_choose_36 : decode cX0_choose 36 = .ok (.iload_n 1, 1) := by decide +kernel
theorem dX0_choose_37 : decode cX0_choose 37 = .ok (.iconst (-1), 1) := by decide +kernel
theorem dX0_choose_38 : decode cX0_choose 38 = .ok (.iastore, 1) := by decide +kernel
theorem dX0_choose_39 : decode cX0_choose 39 = .ok (.aload_n 0, 1) := by decide +kernel
theorem dX0_choose_40 : decode cX0_choose 40 = .ok (.getfield 20, 3) := by decide +kernel
theorem dX0_choose_43 : decode cX0_choose 43 = .ok (.iload_n 1, 1) := by decide +kernel
theorem dX0_choose_44 : decode cX0_choose 44 = .ok (.iconst 0, 1) := by decide +kernel
theorem dX0_choose_45 : decode cX0_choose 45 = .ok (.iastore, 1) := by decide +kernel
theorem dX0_choose_46 : decode cX0_choose 46 = .ok (.aload_n 0, 1) := by decide +kernel
theorem dX0_choose_47 : decode cX0_choose 47 = .ok (.getfield 23, 3) := by decide +kernel
theorem dX0_choose_50 : decode cX0_choose 50 = .ok (.iload_n 1, 1) := by decide +kernel
theorem dX0_choose_51 : decode cX0_choose 51 = .ok (.iconst 0, 1) := by decide +kernel
theorem dX0_choose_52 : decode cX0_choose 52 = .ok (.iastore, 1) := by decide +kernel
theorem dX0_choose_53 : decode cX0_choose 53 = .ok (.aload_n 0, 1) := by decide +kernel
theorem dX0_choose_54 : decode cX0_choose 54 = .ok (.getfield 26, 3) := by decide +kernel
theorem dX0_choose_57 : decode cX0_choose 57 = .ok (.iload_n 1, 1) := by decide +kernel
theorem dX0_choose_58 : decode cX0_choose 58 = .ok (.iconst 0, 1) := by decide +kernel
theorem dX0_choose_59 : decode cX0_choose 59 = .ok (.iastore, 1) := by decide +kernel
theorem dX0_choose_60 : decode cX0_choose 60 = .ok (.iconst 0, 1) := by decide +kernel
theorem dX0_choose_61 : decode cX0_choose 61 = .ok (.istore_n 2, 1) := by decide +kernel
theorem dX0_choose_62 : decode cX0_choose 62 = .ok (.iload_n 2, 1) := by decide +kernel
theorem dX0_choose_63 : decode cX0_choose 63 = .ok (.iconst 5, 1) := by decide +kernel
theorem dX0_choose_64 : decode cX0_choose 64 = .ok (.if_icmp .ge 53, 3) := by decide +kernel
theorem dX0_choose_67 : decode cX0_choose 67 = .ok (.aload_n 0, 1) := by decide +kernel
theorem dX0_choose_68 : decode cX0_choose 68 = .ok (.iload_n 1, 1) := by decide +kernel
theorem dX0_choose_69 : decode cX0_choose 69 = .ok (.iload_n 2, 1) := by decide +kernel
theorem dX0_choose_70 : decode cX0_choose 70 = .ok (.invokevirtual 48, 3) := by decide +kernel
theorem dX0_choose_73 : decode cX0_choose 73 = .ok (.iconst 0, 1) := by decide +kernel
theorem dX0_choose_74 : decode cX0_choose 74 = .ok (.istore_n 3, 1) := by decide +kernel
theorem dX0_choose_75 : decode cX0_choose 75 = .ok (.iload_n 3, 1) := by decide +kernel
theorem dX0_choose_76 : decode cX0_choose 76 = .ok (.bipush 31, 2) := by decide +kernel
theorem dX0_choose_78 : decode cX0_choose 78 = .ok (.if_icmp .gt 33, 3) := by decide +kernel
theorem dX0_choose_81 : decode cX0_choose 81 = .ok (.aload_n 0, 1) := by decide +kernel
theorem dX0_choose_82 : decode cX0_choose 82 = .ok (.iload_n 1, 1) := by decide +kernel
theorem dX0_choose_83 : decode cX0_choose 83 = .ok (.iload_n 3, 1) := by decide +kernel
theorem dX0_choose_84 : decode cX0_choose 84 = .ok (.iload_n 2, 1) := by decide +kernel
theorem dX0_choose_85 : decode cX0_choose 85 = .ok (.invokevirtual 52, 3) := by decide +kernel
theorem dX0_choose_88 : decode cX0_choose 88 = .ok (.istore 4, 2) := by decide +kernel
theorem dX0_choose_90 : decode cX0_choose 90 = .ok (.iload 4, 2) := by decide +kernel
theorem dX0_choose_92 : decode cX0_choose 92 = .ok (.iconst (-1), 1) := by decide +kernel
theorem dX0_choose_93 : decode cX0_choose 93 = .ok (.if_icmp .eq 12, 3) := by decide +kernel
theorem dX0_choose_96 : decode cX0_choose 96 = .ok (.aload_n 0, 1) := by decide +kernel
theorem dX0_choose_97 : decode cX0_choose 97 = .ok (.iload_n 1, 1) := by decide +kernel
theorem dX0_choose_98 : decode cX0_choose 98 = .ok (.iload_n 3, 1) := by decide +kernel
theorem dX0_choose_99 : decode cX0_choose 99 = .ok (.iload_n 2, 1) := by decide +kernel
theorem dX0_choose_100 : decode cX0_choose 100 = .ok (.iload 4, 2) := by decide +kernel
theorem dX0_choose_102 : decode cX0_choose 102 = .ok (.invokevirtual 56, 3) := by decide +kernel
theorem dX0_choose_105 : decode cX0_choose 105 = .ok (.iinc 3 1, 3) := by decide +kernel
theorem dX0_choose_108 : decode cX0_choose 108 = .ok (.goto (-33), 3) := by decide +kernel
theorem dX0_choose_111 : decode cX0_choose 111 = .ok (.iinc 2 1, 3) := by decide +kernel
theorem dX0_choose_114 : decode cX0_choose 114 = .ok (.goto (-52), 3) := by decide +kernel
theorem dX0_choose_117 : decode cX0_choose 117 = .ok (.return_, 1) := by decide +kernel
theorem dX0_weigh_0 : decode cX0_weigh 0 = .ok (.aload_n 0, 1) := by decide +kernel
theorem dX0_weigh_1 : decode cX0_weigh 1 = .ok (.getfield 23, 3) := by decide +kernel
theorem dX0_weigh_4 : decode cX0_weigh 4 = .ok (.iload_n 1, 1) := by decide +kernel
theorem dX0_weigh_5 : decode cX0_weigh 5 = .ok (.dup2, 1) := by decide +kernel
theorem dX0_weigh_6 : decode cX0_weigh 6 = .ok (.iaload, 1) := by decide +kernel
theorem dX0_weigh_7 : decode cX0_weigh 7 = .ok (.iconst 1, 1) := by decide +kernel
theorem dX0_weigh_8 : decode cX0_weigh 8 = .ok (.iload_n 2, 1) := by decide +kernel
theorem dX0_weigh_9 : decode cX0_weigh 9 = .ok (.ishl, 1) := by decide +kernel
theorem dX0_weigh_10 : decode cX0_weigh 10 = .ok (.ior, 1) := by decide +kernel
theorem dX0_weigh_11 : decode cX0_weigh 11 = .ok (.iastore, 1) := by decide +kernel
theorem dX0_weigh_12 : decode cX0_weigh 12 = .ok (.aload_n 0, 1) := by decide +kernel
theorem dX0_weigh_13 : decode cX0_weigh 13 = .ok (.getfield 11, 3) := by decide +kernel
theorem dX0_weigh_16 : decode cX0_weigh 16 = .ok (.iload_n 1, 1) := by decide +kernel
theorem dX0_weigh_17 : decode cX0_weigh 17 = .ok (.iaload, 1) := by decide +kernel
theorem dX0_weigh_18 : decode cX0_weigh 18 = .ok (.iconst (-1), 1) := by decide +kernel
theorem dX0_weigh_19 : decode cX0_weigh 19 = .ok (.if_icmp .ne 7, 3) := by decide +kernel
theorem dX0_weigh_22 : decode cX0_weigh 22 = .ok (.iconst 1, 1) := by decide +kernel
theorem dX0_weigh_23 : decode cX0_weigh 23 = .ok (.goto 4, 3) := by decide +kernel
theorem dX0_weigh_26 : decode cX0_weigh 26 = .ok (.iconst 0, 1) := by decide +kernel
theorem dX0_weigh_27 : decode cX0_weigh 27 = .ok (.istore 5, 2) := by decide +kernel
theorem dX0_weigh_29 : decode cX0_weigh 29 = .ok (.iload 5, 2) := by decide +kernel
theorem dX0_weigh_31 : decode cX0_weigh 31 = .ok (.ifCond .ne 15, 3) := by decide +kernel
theorem dX0_weigh_34 : decode cX0_weigh 34 = .ok (.iload 4, 2) := by decide +kernel
theorem dX0_weigh_36 : decode cX0_weigh 36 = .ok (.aload_n 0, 1) := by decide +kernel
theorem dX0_weigh_37 : decode cX0_weigh 37 = .ok (.getfield 20, 3) := by decide +kernel
theorem dX0_weigh_40 : decode cX0_weigh 40 = .ok (.iload_n 1, 1) := by decide +kernel
theorem dX0_weigh_41 : decode cX0_weigh 41 = .ok (.iaload, 1) := by decide +kernel
theorem dX0_weigh_42 : decode cX0_weigh 42 = .ok (.if_icmp .le 4, 3) := by decide +kernel
theorem dX0_weigh_45 : decode cX0_weigh 45 = .ok (.return_, 1) := by decide +kernel
theorem dX0_weigh_46 : decode cX0_weigh 46 = .ok (.iload 5, 2) := by decide +kernel
theorem dX0_weigh_48 : decode cX0_weigh 48 = .ok (.ifCond .ne 14, 3) := by decide +kernel
theorem dX0_weigh_51 : decode cX0_weigh 51 = .ok (.iload 4, 2) := by decide +kernel
theorem dX0_weigh_53 : decode cX0_weigh 53 = .ok (.aload_n 0, 1) := by decide +kernel
theorem dX0_weigh_54 : decode cX0_weigh 54 = .ok (.getfield 20, 3) := by decide +kernel
theorem dX0_weigh_57 : decode cX0_weigh 57 = .ok (.iload_n 1, 1) := by decide +kernel
theorem dX0_weigh_58 : decode cX0_weigh 58 = .ok (.iaload, 1) := by decide +kernel
theorem dX0_weigh_59 : decode cX0_weigh 59 = .ok (.if_icmp .ge 7, 3) := by decide +kernel
theorem dX0_weigh_62 : decode cX0_weigh 62 = .ok (.iconst 1, 1) := by decide +kernel
theorem dX0_weigh_63 : decode cX0_weigh 63 = .ok (.goto 4, 3) := by decide +kernel
theorem dX0_weigh_66 : decode cX0_weigh 66 = .ok (.iconst 0, 1) := by decide +kernel
theorem dX0_weigh_67 : decode cX0_weigh 67 = .ok (.istore 6, 2) := by decide +kernel
theorem dX0_weigh_69 : decode cX0_weigh 69 = .ok (.aload_n 0, 1) := by decide +kernel
theorem dX0_weigh_70 : decode cX0_weigh 70 = .ok (.getfield 26, 3) := by decide +kernel
theorem dX0_weigh_73 : decode cX0_weigh 73 = .ok (.iload_n 1, 1) := by decide +kernel
theorem dX0_weigh_74 : decode cX0_weigh 74 = .ok (.iload 6, 2) := by decide +kernel
theorem dX0_weigh_76 : decode cX0_weigh 76 = .ok (.ifCond .eq 7, 3) := by decide +kernel
theorem dX0_weigh_79 : decode cX0_weigh 79 = .ok (.iconst 0, 1) := by decide +kernel
theorem dX0_weigh_80 : decode cX0_weigh 80 = .ok (.goto 9, 3) := by decide +kernel
theorem dX0_weigh_83 : decode cX0_weigh 83 = .ok (.aload_n 0, 1) := by decide +kernel
theorem dX0_weigh_84 : decode cX0_weigh 84 = .ok (.getfield 26, 3) := by decide +kernel
theorem dX0_weigh_87 : decode cX0_weigh 87 = .ok (.iload_n 1, 1) := by decide +kernel
theorem dX0_weigh_88 : decode cX0_weigh 88 = .ok (.iaload, 1) := by decide +kernel
theorem dX0_weigh_89 : decode cX0_weigh 89 = .ok (.iconst 1, 1) := by decide +kernel
theorem dX0_weigh_90 : decode cX0_weigh 90 = .ok (.iload_n 2, 1) := by decide +kernel
theorem dX0_weigh_91 : decode cX0_weigh 91 = .ok (.ishl, 1) := by decide +kernel
theorem dX0_weigh_92 : decode cX0_weigh 92 = .ok (.ior, 1) := by decide +kernel
theorem dX0_weigh_93 : decode cX0_weigh 93 = .ok (.iastore, 1) := by decide +kernel
theorem dX0_weigh_94 : decode cX0_weigh 94 = .ok (.iload 6, 2) := by decide +kernel
theorem dX0_weigh_96 : decode cX0_weigh 96 = .ok (.ifCond .ne 13, 3) := by decide +kernel
theorem dX0_weigh_99 : decode cX0_weigh 99 = .ok (.iload_n 2, 1) := by decide +kernel
theorem dX0_weigh_100 : decode cX0_weigh 100 = .ok (.aload_n 0, 1) := by decide +kernel
theorem dX0_weigh_101 : decode cX0_weigh 101 = .ok (.getfield 11, 3) := by decide +kernel
theorem dX0_weigh_104 : decode cX0_weigh 104 = .ok (.iload_n 1, 1) := by decide +kernel
theorem dX0_weigh_105 : decode cX0_weigh 105 = .ok (.iaload, 1) := by decide +kernel
theorem dX0_weigh_106 : decode cX0_weigh 106 = .ok (.if_icmp .ge 25, 3) := by decide +kernel
theorem dX0_weigh_109 : decode cX0_weigh 109 = .ok (.aload_n 0, 1) := by decide +kernel
theorem dX0_weigh_110 : decode cX0_weigh 110 = .ok (.getfield 11, 3) := by decide +kernel
theorem dX0_weigh_113 : decode cX0_weigh 113 = .ok (.iload_n 1, 1) := by decide +kernel
theorem dX0_weigh_114 : decode cX0_weigh 114 = .ok (.iload_n 2, 1) := by decide +kernel
theorem dX0_weigh_115 : decode cX0_weigh 115 = .ok (.iastore, 1) := by decide +kernel
theorem dX0_weigh_116 : decode cX0_weigh 116 = .ok (.aload_n 0, 1) := by decide +kernel
theorem dX0_weigh_117 : decode cX0_weigh 117 = .ok (.getfield 17, 3) := by decide +kernel
theorem dX0_weigh_120 : decode cX0_weigh 120 = .ok (.iload_n 1, 1) := by decide +kernel
theorem dX0_weigh_121 : decode cX0_weigh 121 = .ok (.iload_n 3, 1) := by decide +kernel
theorem dX0_weigh_122 : decode cX0_weigh 122 = .ok (.iastore, 1) := by decide +kernel
theorem dX0_weigh_123 : decode cX0_weigh 123 = .ok (.aload_n 0, 1) := by decide +kernel
theorem dX0_weigh_124 : decode cX0_weigh 124 = .ok (.getfield 20, 3) := by decide +kernel
theorem dX0_weigh_127 : decode cX0_weigh 127 = .ok (.iload_n 1, 1) := by decide +kernel
theorem dX0_weigh_128 : decode cX0_weigh 128 = .ok (.iload 4, 2) := by decide +kernel
theorem dX0_weigh_130 : decode cX0_weigh 130 = .ok (.iastore, 1) := by decide +kernel
theorem dX0_weigh_131 : decode cX0_weigh 131 = .ok (.return_, 1) := by decide +kernel
theorem dX0_survey_0 : decode cX0_survey 0 = .ok (.aload_n 0, 1) := by decide +kernel
theorem dX0_survey_1 : decode cX0_survey 1 = .ok (.iconst 0, 1) := by decide +kernel
theorem dX0_survey_2 : decode cX0_survey 2 = .ok (.putfield 60, 3) := by decide +kernel
theorem dX0_survey_5 : decode cX0_survey 5 = .ok (.aload_n 0, 1) := by decide +kernel
theorem dX0_survey_6 : decode cX0_survey 6 = .ok (.iconst (-1), 1) := by decide +kernel
theorem dX0_survey_7 : decode cX0_survey 7 = .ok (.putfield 64, 3) := by decide +kernel
theorem dX0_survey_10 : decode cX0_survey 10 = .ok (.iconst 0, 1) := by decide +kernel
theorem dX0_survey_11 : decode cX0_survey 11 = .ok (.istore_n 3, 1) := by decide +kernel
theorem dX0_survey_12 : decode cX0_survey 12 = .ok (.iload_n 3, 1) := by decide +kernel
theorem dX0_survey_13 : decode cX0_survey 13 = .ok (.aload_n 0, 1) := by decide +kernel
theorem dX0_survey_14 : decode cX0_survey 14 = .ok (.getfield 29, 3) := by decide +kernel
theorem dX0_survey_17 : decode cX0_survey 17 = .ok (.getfield 67, 3) := by decide +kernel
theorem dX0_survey_20 : decode cX0_survey 20 = .ok (.if_icmp .ge 68, 3) := by decide +kernel
theorem dX0_survey_23 : decode cX0_survey 23 = .ok (.aload_n 0, 1) := by decide +kernel
theorem dX0_survey_24 : decode cX0_survey 24 = .ok (.getfield 29, 3) := by decide +kernel
theorem dX0_survey_27 : decode cX0_survey 27 = .ok (.iload_n 3, 1) := by decide +kernel
theorem dX0_survey_28 : decode cX0_survey 28 = .ok (.invokevirtual 70, 3) := by decide +kernel
theorem dX0_survey_31 : decode cX0_survey 31 = .ok (.ifCond .eq 51, 3) := by decide +kernel
theorem dX0_survey_34 : decode cX0_survey 34 = .ok (.aload_n 0, 1) := by decide +kernel
theorem dX0_survey_35 : decode cX0_survey 35 = .ok (.getfield 29, 3) := by decide +kernel
theorem dX0_survey_38 : decode cX0_survey 38 = .ok (.iload_n 3, 1) := by decide +kernel
theorem dX0_survey_39 : decode cX0_survey 39 = .ok (.iload_n 1, 1) := by decide +kernel
theorem dX0_survey_40 : decode cX0_survey 40 = .ok (.invokevirtual 74, 3) := by decide +kernel
theorem dX0_survey_43 : decode cX0_survey 43 = .ok (.istore 4, 2) := by decide +kernel
theorem dX0_survey_45 : decode cX0_survey 45 = .ok (.aload_n 0, 1) := by decide +kernel
theorem dX0_survey_46 : decode cX0_survey 46 = .ok (.iload 4, 2) := by decide +kernel
theorem dX0_survey_48 : decode cX0_survey 48 = .ok (.iload_n 2, 1) := by decide +kernel
theorem dX0_survey_49 : decode cX0_survey 49 = .ok (.invokevirtual 78, 3) := by decide +kernel
theorem dX0_survey_52 : decode cX0_survey 52 = .ok (.ifCond .eq 16, 3) := by decide +kernel
theorem dX0_survey_55 : decode cX0_survey 55 = .ok (.aload_n 0, 1) := by decide +kernel
theorem dX0_survey_56 : decode cX0_survey 56 = .ok (.dup, 1) := by decide +kernel
theorem dX0_survey_57 : decode cX0_survey 57 = .ok (.getfield 60, 3) := by decide +kernel
theorem dX0_survey_60 : decode cX0_survey 60 = .ok (.iconst 1, 1) := by decide +kernel
theorem dX0_survey_61 : decode cX0_survey 61 = .ok (.iadd, 1) := by decide +kernel
theorem dX0_survey_62 : decode cX0_survey 62 = .ok (.putfield 60, 3) := by decide +kernel
theorem dX0_survey_65 : decode cX0_survey 65 = .ok (.goto 17, 3) := by decide +kernel
theorem dX0_survey_68 : decode cX0_survey 68 = .ok (.aload_n 0, 1) := by decide +kernel
theorem dX0_survey_69 : decode cX0_survey 69 = .ok (.getfield 64, 3) := by decide +kernel
theorem dX0_survey_72 : decode cX0_survey 72 = .ok (.iconst (-1), 1) := by decide +kernel
theorem dX0_survey_73 : decode cX0_survey 73 = .ok (.if_icmp .ne 9, 3) := by decide +kernel
theorem dX0_survey_76 : decode cX0_survey 76 = .ok (.aload_n 0, 1) := by decide +kernel
theorem dX0_survey_77 : decode cX0_survey 77 = .ok (.iload 4, 2) := by decide +kernel
theorem dX0_survey_79 : decode cX0_survey 79 = .ok (.putfield 64, 3) := by decide +kernel
theorem dX0_survey_82 : decode cX0_survey 82 = .ok (.iinc 3 1, 3) := by decide +kernel
theorem dX0_survey_85 : decode cX0_survey 85 = .ok (.goto (-73), 3) := by decide +kernel
theorem dX0_survey_88 : decode cX0_survey 88 = .ok (.aload_n 0, 1) := by decide +kernel
theorem dX0_survey_89 : decode cX0_survey 89 = .ok (.getfield 38, 3) := by decide +kernel
theorem dX0_survey_92 : decode cX0_survey 92 = .ok (.aload_n 0, 1) := by decide +kernel
theorem dX0_survey_93 : decode cX0_survey 93 = .ok (.getfield 64, 3) := by decide +kernel
theorem dX0_survey_96 : decode cX0_survey 96 = .ok (.iload_n 2, 1) := by decide +kernel
theorem dX0_survey_97 : decode cX0_survey 97 = .ok (.iconst 4, 1) := by decide +kernel
theorem dX0_survey_98 : decode cX0_survey 98 = .ok (.if_icmp .ne 7, 3) := by decide +kernel
theorem dX0_survey_101 : decode cX0_survey 101 = .ok (.iconst 1, 1) := by decide +kernel
theorem dX0_survey_102 : decode cX0_survey 102 = .ok (.goto 4, 3) := by decide +kernel
theorem dX0_survey_105 : decode cX0_survey 105 = .ok (.iconst 0, 1) := by decide +kernel
theorem dX0_survey_106 : decode cX0_survey 106 = .ok (.invokevirtual 82, 3) := by decide +kernel
theorem dX0_survey_109 : decode cX0_survey 109 = .ok (.return_, 1) := by decide +kernel
theorem dX0_countMissing_0 : decode cX0_countMissing 0 = .ok (.aload_n 0, 1) := by decide +kernel
theorem dX0_countMissing_1 : decode cX0_countMissing 1 = .ok (.iload_n 1, 1) := by decide +kernel
theorem dX0_countMissing_2 : decode cX0_countMissing 2 = .ok (.iload_n 2, 1) := by decide +kernel
theorem dX0_countMissing_3 : decode cX0_countMissing 3 = .ok (.invokevirtual 48, 3) := by decide +kernel
theorem dX0_countMissing_6 : decode cX0_countMissing 6 = .ok (.aload_n 0, 1) := by decide +kernel
theorem dX0_countMissing_7 : decode cX0_countMissing 7 = .ok (.getfield 60, 3) := by decide +kernel
theorem dX0_countMissing_10 : decode cX0_countMissing 10 = .ok (.ireturn, 1) := by decide +kernel
theorem dX0_isMissing_0 : decode cX0_isMissing 0 = .ok (.iload_n 2, 1) := by decide +kernel
theorem dX0_isMissing_1 : decode cX0_isMissing 1 = .ok (.tableswitch 75 1 4 #[31, 42, 53, 64], 31) := by decide +kernel
theorem dX0_isMissing_32 : decode cX0_isMissing 32 = .ok (.aload_n 0, 1) := by decide +kernel
theorem dX0_isMissing_33 : decode cX0_isMissing 33 = .ok (.getfield 29, 3) := by decide +kernel
theorem dX0_isMissing_36 : decode cX0_isMissing 36 = .ok (.iload_n 1, 1) := by decide +kernel
theorem dX0_isMissing_37 : decode cX0_isMissing 37 = .ok (.ldc 86, 2) := by decide +kernel
theorem dX0_isMissing_39 : decode cX0_isMissing 39 = .ok (.invokevirtual 88, 3) := by decide +kernel
theorem dX0_isMissing_42 : decode cX0_isMissing 42 = .ok (.ireturn, 1) := by decide +kernel
theorem dX0_isMissing_43 : decode cX0_isMissing 43 = .ok (.aload_n 0, 1) := by decide +kernel
theorem dX0_isMissing_44 : decode cX0_isMissing 44 = .ok (.getfield 29, 3) := by decide +kernel
theorem dX0_isMissing_47 : decode cX0_isMissing 47 = .ok (.iload_n 1, 1) := by decide +kernel
theorem dX0_isMissing_48 : decode cX0_isMissing 48 = .ok (.ldc 92, 2) := by decide +kernel
theorem dX0_isMissing_50 : decode cX0_isMissing 50 = .ok (.invokevirtual 88, 3) := by decide +kernel
theorem dX0_isMissing_53 : decode cX0_isMissing 53 = .ok (.ireturn, 1) := by decide +kernel
theorem dX0_isMissing_54 : decode cX0_isMissing 54 = .ok (.aload_n 0, 1) := by decide +kernel
theorem dX0_isMissing_55 : decode cX0_isMissing 55 = .ok (.getfield 29, 3) := by decide +kernel
theorem dX0_isMissing_58 : decode cX0_isMissing 58 = .ok (.iload_n 1, 1) := by decide +kernel
theorem dX0_isMissing_59 : decode cX0_isMissing 59 = .ok (.ldc 94, 2) := by decide +kernel
theorem dX0_isMissing_61 : decode cX0_isMissing 61 = .ok (.invokevirtual 88, 3) := by decide +kernel
theorem dX0_isMissing_64 : decode cX0_isMissing 64 = .ok (.ireturn, 1) := by decide +kernel
theorem dX0_isMissing_65 : decode cX0_isMissing 65 = .ok (.aload_n 0, 1) := by decide +kernel
theorem dX0_isMissing_66 : decode cX0_isMissing 66 = .ok (.getfield 29, 3) := by decide +kernel
theorem dX0_isMissing_69 : decode cX0_isMissing 69 = .ok (.iload_n 1, 1) := by decide +kernel
theorem dX0_isMissing_70 : decode cX0_isMissing 70 = .ok (.ldc 96, 2) := by decide +kernel
theorem dX0_isMissing_72 : decode cX0_isMissing 72 = .ok (.invokevirtual 88, 3) := by decide +kernel
theorem dX0_isMissing_75 : decode cX0_isMissing 75 = .ok (.ireturn, 1) := by decide +kernel
theorem dX0_isMissing_76 : decode cX0_isMissing 76 = .ok (.iconst 0, 1) := by decide +kernel
theorem dX0_isMissing_77 : decode cX0_isMissing 77 = .ok (.ireturn, 1) := by decide +kernel
theorem dX0_price_0 : decode cX0_price 0 = .ok (.aload_n 0, 1) := by decide +kernel
theorem dX0_price_1 : decode cX0_price 1 = .ok (.getfield 64, 3) := by decide +kernel
theorem dX0_price_4 : decode cX0_price 4 = .ok (.iconst (-1), 1) := by decide +kernel
theorem dX0_price_5 : decode cX0_price 5 = .ok (.if_icmp .eq 18, 3) := by decide +kernel
theorem dX0_price_8 : decode cX0_price 8 = .ok (.iload_n 3, 1) := by decide +kernel
theorem dX0_price_9 : decode cX0_price 9 = .ok (.ifCond .le 16, 3) := by decide +kernel
theorem dX0_price_12 : decode cX0_price 12 = .ok (.aload_n 0, 1) := by decide +kernel
theorem dX0_price_13 : decode cX0_price 13 = .ok (.getfield 60, 3) := by decide +kernel
theorem dX0_price_16 : decode cX0_price 16 = .ok (.ifCond .eq 7, 3) := by decide +kernel
theorem dX0_price_19 : decode cX0_price 19 = .ok (.iload_n 2, 1) := by decide +kernel
theorem dX0_price_20 : decode cX0_price 20 = .ok (.ifCond .ne 5, 3) := by decide +kernel
theorem dX0_price_23 : decode cX0_price 23 = .ok (.iconst (-1), 1) := by decide +kernel
theorem dX0_price_24 : decode cX0_price 24 = .ok (.ireturn, 1) := by decide +kernel
theorem dX0_price_25 : decode cX0_price 25 = .ok (.iload_n 3, 1) := by decide +kernel
theorem dX0_price_26 : decode cX0_price 26 = .ok (.iconst 4, 1) := by decide +kernel
theorem dX0_price_27 : decode cX0_price 27 = .ok (.if_icmp .ne 12, 3) := by decide +kernel
theorem dX0_price_30 : decode cX0_price 30 = .ok (.iload_n 2, 1) := by decide +kernel
theorem dX0_price_31 : decode cX0_price 31 = .ok (.invokestatic 98, 3) := by decide +kernel
theorem dX0_price_34 : decode cX0_price 34 = .ok (.ifCond .ne 5, 3) := by decide +kernel
theorem dX0_price_37 : decode cX0_price 37 = .ok (.iconst (-1), 1) := by decide +kernel
theorem dX0_price_38 : decode cX0_price 38 = .ok (.ireturn, 1) := by decide +kernel
theorem dX0_price_39 : decode cX0_price 39 = .ok (.aload_n 0, 1) := by decide +kernel
theorem dX0_price_40 : decode cX0_price 40 = .ok (.getfield 38, 3) := by decide +kernel
theorem dX0_price_43 : decode cX0_price 43 = .ok (.iload_n 2, 1) := by decide +kernel
theorem dX0_price_44 : decode cX0_price 44 = .ok (.invokevirtual 101, 3) := by decide +kernel
theorem dX0_price_47 : decode cX0_price 47 = .ok (.iload_n 3, 1) := by decide +kernel
theorem dX0_price_48 : decode cX0_price 48 = .ok (.ifCond .le 8, 3) := by decide +kernel
theorem dX0_price_51 : decode cX0_price 51 = .ok (.bipush 6, 2) := by decide +kernel
theorem dX0_price_53 : decode cX0_price 53 = .ok (.goto 4, 3) := by decide +kernel
theorem dX0_price_56 : decode cX0_price 56 = .ok (.iconst 0, 1) := by decide +kernel
theorem dX0_price_57 : decode cX0_price 57 = .ok (.iadd, 1) := by decide +kernel
theorem dX0_price_58 : decode cX0_price 58 = .ok (.istore 4, 2) := by decide +kernel
theorem dX0_price_60 : decode cX0_price 60 = .ok (.iconst 0, 1) := by decide +kernel
theorem dX0_price_61 : decode cX0_price 61 = .ok (.istore 5, 2) := by decide +kernel
theorem dX0_price_63 : decode cX0_price 63 = .ok (.iload 5, 2) := by decide +kernel
theorem dX0_price_65 : decode cX0_price 65 = .ok (.aload_n 0, 1) := by decide +kernel
theorem dX0_price_66 : decode cX0_price 66 = .ok (.getfield 29, 3) := by decide +kernel
theorem dX0_price_69 : decode cX0_price 69 = .ok (.getfield 67, 3) := by decide +kernel
theorem dX0_price_72 : decode cX0_price 72 = .ok (.if_icmp .ge 82, 3) := by decide +kernel
theorem dX0_price_75 : decode cX0_price 75 = .ok (.aload_n 0, 1) := by decide +kernel
theorem dX0_price_76 : decode cX0_price 76 = .ok (.getfield 29, 3) := by decide +kernel
theorem dX0_price_79 : decode cX0_price 79 = .ok (.iload 5, 2) := by decide +kernel
theorem dX0_price_81 : decode cX0_price 81 = .ok (.invokevirtual 70, 3) := by decide +kernel
theorem dX0_price_84 : decode cX0_price 84 = .ok (.ifCond .eq 64, 3) := by decide +kernel
theorem dX0_price_87 : decode cX0_price 87 = .ok (.aload_n 0, 1) := by decide +kernel
theorem dX0_price_88 : decode cX0_price 88 = .ok (.getfield 29, 3) := by decide +kernel
theorem dX0_price_91 : decode cX0_price 91 = .ok (.iload 5, 2) := by decide +kernel
theorem dX0_price_93 : decode cX0_price 93 = .ok (.iload_n 1, 1) := by decide +kernel
theorem dX0_price_94 : decode cX0_price 94 = .ok (.invokevirtual 74, 3) := by decide +kernel
theorem dX0_price_97 : decode cX0_price 97 = .ok (.istore 6, 2) := by decide +kernel
theorem dX0_price_99 : decode cX0_price 99 = .ok (.aload_n 0, 1) := by decide +kernel
theorem dX0_price_100 : decode cX0_price 100 = .ok (.iload 6, 2) := by decide +kernel
theorem dX0_price_102 : decode cX0_price 102 = .ok (.iload_n 3, 1) := by decide +kernel
theorem dX0_price_103 : decode cX0_price 103 = .ok (.invokevirtual 78, 3) := by decide +kernel
theorem dX0_price_106 : decode cX0_price 106 = .ok (.ifCond .eq 9, 3) := by decide +kernel
theorem dX0_price_109 : decode cX0_price 109 = .ok (.iinc 4 2, 3) := by decide +kernel
theorem dX0_price_112 : decode cX0_price 112 = .ok (.goto 36, 3) := by decide +kernel
theorem dX0_price_115 : decode cX0_price 115 = .ok (.aload_n 0, 1) := by decide +kernel
theorem dX0_price_116 : decode cX0_price 116 = .ok (.getfield 38, 3) := by decide +kernel
theorem dX0_price_119 : decode cX0_price 119 = .ok (.iload_n 2, 1) := by decide +kernel
theorem dX0_price_120 : decode cX0_price 120 = .ok (.iload 6, 2) := by decide +kernel
theorem dX0_price_122 : decode cX0_price 122 = .ok (.invokevirtual 105, 3) := by decide +kernel
theorem dX0_price_125 : decode cX0_price 125 = .ok (.ifCond .eq 21, 3) := by decide +kernel
theorem dX0_price_128 : decode cX0_price 128 = .ok (.iload 4, 2) := by decide +kernel
theorem dX0_price_130 : decode cX0_price 130 = .ok (.aload_n 0, 1) := by decide +kernel
theorem dX0_price_131 : decode cX0_price 131 = .ok (.getfield 38, 3) := by decide +kernel
theorem dX0_price_134 : decode cX0_price 134 = .ok (.iload_n 2, 1) := by decide +kernel
theorem dX0_price_135 : decode cX0_price 135 = .ok (.iload 6, 2) := by decide +kernel
theorem dX0_price_137 : decode cX0_price 137 = .ok (.invokevirtual 108, 3) := by decide +kernel
theorem dX0_price_140 : decode cX0_price 140 = .ok (.iadd, 1) := by decide +kernel
theorem dX0_price_141 : decode cX0_price 141 = .ok (.istore 4, 2) := by decide +kernel
theorem dX0_price_143 : decode cX0_price 143 = .ok (.goto 5, 3) := by decide +kernel
theorem dX0_price_146 : decode cX0_price 146 = .ok (.iconst (-1), 1) := by decide +kernel
theorem dX0_price_147 : decode cX0_price 147 = .ok (.ireturn, 1) := by decide +kernel
theorem dX0_price_148 : decode cX0_price 148 = .ok (.iinc 5 1, 3) := by decide +kernel
theorem dX0_price_151 : decode cX0_price 151 = .ok (.goto (-88), 3) := by decide +kernel
theorem dX0_price_154 : decode cX0_price 154 = .ok (.iload 4, 2) := by decide +kernel
theorem dX0_price_156 : decode cX0_price 156 = .ok (.ireturn, 1) := by decide +kernel
theorem dX0_rivalOf_0 : decode cX0_rivalOf 0 = .ok (.iload_n 1, 1) := by decide +kernel
theorem dX0_rivalOf_1 : decode cX0_rivalOf 1 = .ok (.ifCond .lt 12, 3) := by decide +kernel
theorem dX0_rivalOf_4 : decode cX0_rivalOf 4 = .ok (.iload_n 1, 1) := by decide +kernel
theorem dX0_rivalOf_5 : decode cX0_rivalOf 5 = .ok (.aload_n 0, 1) := by decide +kernel
theorem dX0_rivalOf_6 : decode cX0_rivalOf 6 = .ok (.getfield 11, 3) := by decide +kernel
theorem dX0_rivalOf_9 : decode cX0_rivalOf 9 = .ok (.arraylength, 1) := by decide +kernel
theorem dX0_rivalOf_10 : decode cX0_rivalOf 10 = .ok (.if_icmp .lt 5, 3) := by decide +kernel
theorem dX0_rivalOf_13 : decode cX0_rivalOf 13 = .ok (.iconst (-1), 1) := by decide +kernel
theorem dX0_rivalOf_14 : decode cX0_rivalOf 14 = .ok (.ireturn, 1) := by decide +kernel
theorem dX0_rivalOf_15 : decode cX0_rivalOf 15 = .ok (.iconst 0, 1) := by decide +kernel
theorem dX0_rivalOf_16 : decode cX0_rivalOf 16 = .ok (.istore_n 2, 1) := by decide +kernel
theorem dX0_rivalOf_17 : decode cX0_rivalOf 17 = .ok (.iload_n 2, 1) := by decide +kernel
theorem dX0_rivalOf_18 : decode cX0_rivalOf 18 = .ok (.bipush 31, 2) := by decide +kernel
theorem dX0_rivalOf_20 : decode cX0_rivalOf 20 = .ok (.if_icmp .gt 35, 3) := by decide +kernel
theorem dX0_rivalOf_23 : decode cX0_rivalOf 23 = .ok (.iload_n 2, 1) := by decide +kernel
theorem dX0_rivalOf_24 : decode cX0_rivalOf 24 = .ok (.aload_n 0, 1) := by decide +kernel
theorem dX0_rivalOf_25 : decode cX0_rivalOf 25 = .ok (.getfield 11, 3) := by decide +kernel
theorem dX0_rivalOf_28 : decode cX0_rivalOf 28 = .ok (.iload_n 1, 1) := by decide +kernel
theorem dX0_rivalOf_29 : decode cX0_rivalOf 29 = .ok (.iaload, 1) := by decide +kernel
theorem dX0_rivalOf_30 : decode cX0_rivalOf 30 = .ok (.if_icmp .eq 19, 3) := by decide +kernel
theorem dX0_rivalOf_33 : decode cX0_rivalOf 33 = .ok (.aload_n 0, 1) := by decide +kernel
theorem dX0_rivalOf_34 : decode cX0_rivalOf 34 = .ok (.getfield 26, 3) := by decide +kernel
theorem dX0_rivalOf_37 : decode cX0_rivalOf 37 = .ok (.iload_n 1, 1) := by decide +kernel
theorem dX0_rivalOf_38 : decode cX0_rivalOf 38 = .ok (.iaload, 1) := by decide +kernel
theorem dX0_rivalOf_39 : decode cX0_rivalOf 39 = .ok (.iload_n 2, 1) := by decide +kernel
theorem dX0_rivalOf_40 : decode cX0_rivalOf 40 = .ok (.iushr, 1) := by decide +kernel
theorem dX0_rivalOf_41 : decode cX0_rivalOf 41 = .ok (.iconst 1, 1) := by decide +kernel
theorem dX0_rivalOf_42 : decode cX0_rivalOf 42 = .ok (.iand, 1) := by decide +kernel
theorem dX0_rivalOf_43 : decode cX0_rivalOf 43 = .ok (.iconst 1, 1) := by decide +kernel
theorem dX0_rivalOf_44 : decode cX0_rivalOf 44 = .ok (.if_icmp .ne 5, 3) := by decide +kernel
theorem dX0_rivalOf_47 : decode cX0_rivalOf 47 = .ok (.iload_n 2, 1) := by decide +kernel
theorem dX0_rivalOf_48 : decode cX0_rivalOf 48 = .ok (.ireturn, 1) := by decide +kernel
theorem dX0_rivalOf_49 : decode cX0_rivalOf 49 = .ok (.iinc 2 1, 3) := by decide +kernel
theorem dX0_rivalOf_52 : decode cX0_rivalOf 52 = .ok (.goto (-35), 3) := by decide +kernel
theorem dX0_rivalOf_55 : decode cX0_rivalOf 55 = .ok (.iconst (-1), 1) := by decide +kernel
theorem dX0_rivalOf_56 : decode cX0_rivalOf 56 = .ok (.ireturn, 1) := by decide +kernel
theorem dX0_partingRow_0 : decode cX0_partingRow 0 = .ok (.iconst 0, 1) := by decide +kernel
theorem dX0_partingRow_1 : decode cX0_partingRow 1 = .ok (.istore 5, 2) := by decide +kernel
theorem dX0_partingRow_3 : decode cX0_partingRow 3 = .ok (.iload 5, 2) := by decide +kernel
theorem dX0_partingRow_5 : decode cX0_partingRow 5 = .ok (.aload_n 0, 1) := by decide +kernel
theorem dX0_partingRow_6 : decode cX0_partingRow 6 = .ok (.getfield 29, 3) := by decide +kernel
theorem dX0_partingRow_9 : decode cX0_partingRow 9 = .ok (.getfield 67, 3) := by decide +kernel
theorem dX0_partingRow_12 : decode cX0_partingRow 12 = .ok (.if_icmp .ge 70, 3) := by decide +kernel
theorem dX0_partingRow_15 : decode cX0_partingRow 15 = .ok (.aload_n 0, 1) := by decide +kernel
theorem dX0_partingRow_16 : decode cX0_partingRow 16 = .ok (.getfield 29, 3) := by decide +kernel
theorem dX0_partingRow_19 : decode cX0_partingRow 19 = .ok (.iload 5, 2) := by decide +kernel
theorem dX0_partingRow_21 : decode cX0_partingRow 21 = .ok (.invokevirtual 70, 3) := by decide +kernel
theorem dX0_partingRow_24 : decode cX0_partingRow 24 = .ok (.ifCond .eq 52, 3) := by decide +kernel
theorem dX0_partingRow_27 : decode cX0_partingRow 27 = .ok (.aload_n 0, 1) := by decide +kernel
theorem dX0_partingRow_28 : decode cX0_partingRow 28 = .ok (.getfield 29, 3) := by decide +kernel
theorem dX0_partingRow_31 : decode cX0_partingRow 31 = .ok (.iload 5, 2) := by decide +kernel
theorem dX0_partingRow_33 : decode cX0_partingRow 33 = .ok (.iload_n 1, 1) := by decide +kernel
theorem dX0_partingRow_34 : decode cX0_partingRow 34 = .ok (.invokevirtual 74, 3) := by decide +kernel
theorem dX0_partingRow_37 : decode cX0_partingRow 37 = .ok (.istore 6, 2) := by decide +kernel
theorem dX0_partingRow_39 : decode cX0_partingRow 39 = .ok (.aload_n 0, 1) := by decide +kernel
theorem dX0_partingRow_40 : decode cX0_partingRow 40 = .ok (.iload 6, 2) := by decide +kernel
theorem dX0_partingRow_42 : decode cX0_partingRow 42 = .ok (.iload 4, 2) := by decide +kernel
theorem dX0_partingRow_44 : decode cX0_partingRow 44 = .ok (.invokevirtual 78, 3) := by decide +kernel
theorem dX0_partingRow_47 : decode cX0_partingRow 47 = .ok (.ifCond .ne 29, 3) := by decide +kernel
theorem dX0_partingRow_50 : decode cX0_partingRow 50 = .ok (.aload_n 0, 1) := by decide +kernel
theorem dX0_partingRow_51 : decode cX0_partingRow 51 = .ok (.getfield 38, 3) := by decide +kernel
theorem dX0_partingRow_54 : decode cX0_partingRow 54 = .ok (.iload_n 2, 1) := by decide +kernel
theorem dX0_partingRow_55 : decode cX0_partingRow 55 = .ok (.iload 6, 2) := by decide +kernel
theorem dX0_partingRow_57 : decode cX0_partingRow 57 = .ok (.invokevirtual 105, 3) := by decide +kernel
theorem dX0_partingRow_60 : decode cX0_partingRow 60 = .ok (.aload_n 0, 1) := by decide +kernel
theorem dX0_partingRow_61 : decode cX0_partingRow 61 = .ok (.getfield 38, 3) := by decide +kernel
theorem dX0_partingRow_64 : decode cX0_partingRow 64 = .ok (.iload_n 3, 1) := by decide +kernel
theorem dX0_partingRow_65 : decode cX0_partingRow 65 = .ok (.iload 6, 2) := by decide +kernel
theorem dX0_partingRow_67 : decode cX0_partingRow 67 = .ok (.invokevirtual 105, 3) := by decide +kernel
theorem dX0_partingRow_70 : decode cX0_partingRow 70 = .ok (.if_icmp .eq 6, 3) := by decide +kernel
theorem dX0_partingRow_73 : decode cX0_partingRow 73 = .ok (.iload 5, 2) := by decide +kernel
theorem dX0_partingRow_75 : decode cX0_partingRow 75 = .ok (.ireturn, 1) := by decide +kernel
theorem dX0_partingRow_76 : decode cX0_partingRow 76 = .ok (.iinc 5 1, 3) := by decide +kernel
theorem dX0_partingRow_79 : decode cX0_partingRow 79 = .ok (.goto (-76), 3) := by decide +kernel
theorem dX0_partingRow_82 : decode cX0_partingRow 82 = .ok (.iconst (-1), 1) := by decide +kernel
theorem dX0_partingRow_83 : decode cX0_partingRow 83 = .ok (.ireturn, 1) := by decide +kernel
theorem dX0_worthOf_0 : decode cX0_worthOf 0 = .ok (.aload_n 0, 1) := by decide +kernel
theorem dX0_worthOf_1 : decode cX0_worthOf 1 = .ok (.getfield 29, 3) := by decide +kernel
theorem dX0_worthOf_4 : decode cX0_worthOf 4 = .ok (.iload_n 1, 1) := by decide +kernel
theorem dX0_worthOf_5 : decode cX0_worthOf 5 = .ok (.invokevirtual 70, 3) := by decide +kernel
theorem dX0_worthOf_8 : decode cX0_worthOf 8 = .ok (.ifCond .eq 16, 3) := by decide +kernel
theorem dX0_worthOf_11 : decode cX0_worthOf 11 = .ok (.iload_n 2, 1) := by decide +kernel
theorem dX0_worthOf_12 : decode cX0_worthOf 12 = .ok (.ifCond .lt 12, 3) := by decide +kernel
theorem dX0_worthOf_15 : decode cX0_worthOf 15 = .ok (.iload_n 2, 1) := by decide +kernel
theorem dX0_worthOf_16 : decode cX0_worthOf 16 = .ok (.aload_n 0, 1) := by decide +kernel
theorem dX0_worthOf_17 : decode cX0_worthOf 17 = .ok (.getfield 11, 3) := by decide +kernel
theorem dX0_worthOf_20 : decode cX0_worthOf 20 = .ok (.arraylength, 1) := by decide +kernel
theorem dX0_worthOf_21 : decode cX0_worthOf 21 = .ok (.if_icmp .lt 5, 3) := by decide +kernel
theorem dX0_worthOf_24 : decode cX0_worthOf 24 = .ok (.iconst 0, 1) := by decide +kernel
theorem dX0_worthOf_25 : decode cX0_worthOf 25 = .ok (.ireturn, 1) := by decide +kernel
theorem dX0_worthOf_26 : decode cX0_worthOf 26 = .ok (.aload_n 0, 1) := by decide +kernel
theorem dX0_worthOf_27 : decode cX0_worthOf 27 = .ok (.iload_n 2, 1) := by decide +kernel
theorem dX0_worthOf_28 : decode cX0_worthOf 28 = .ok (.aload_n 0, 1) := by decide +kernel
theorem dX0_worthOf_29 : decode cX0_worthOf 29 = .ok (.getfield 17, 3) := by decide +kernel
theorem dX0_worthOf_32 : decode cX0_worthOf 32 = .ok (.iload_n 2, 1) := by decide +kernel
theorem dX0_worthOf_33 : decode cX0_worthOf 33 = .ok (.iaload, 1) := by decide +kernel
theorem dX0_worthOf_34 : decode cX0_worthOf 34 = .ok (.invokevirtual 48, 3) := by decide +kernel
theorem dX0_worthOf_37 : decode cX0_worthOf 37 = .ok (.aload_n 0, 1) := by decide +kernel
theorem dX0_worthOf_38 : decode cX0_worthOf 38 = .ok (.getfield 29, 3) := by decide +kernel
theorem dX0_worthOf_41 : decode cX0_worthOf 41 = .ok (.iload_n 1, 1) := by decide +kernel
theorem dX0_worthOf_42 : decode cX0_worthOf 42 = .ok (.iload_n 2, 1) := by decide +kernel
theorem dX0_worthOf_43 : decode cX0_worthOf 43 = .ok (.invokevirtual 74, 3) := by decide +kernel
theorem dX0_worthOf_46 : decode cX0_worthOf 46 = .ok (.istore_n 3, 1) := by decide +kernel
theorem dX0_worthOf_47 : decode cX0_worthOf 47 = .ok (.aload_n 0, 1) := by decide +kernel
theorem dX0_worthOf_48 : decode cX0_worthOf 48 = .ok (.iload_n 3, 1) := by decide +kernel
theorem dX0_worthOf_49 : decode cX0_worthOf 49 = .ok (.aload_n 0, 1) := by decide +kernel
theorem dX0_worthOf_50 : decode cX0_worthOf 50 = .ok (.getfield 17, 3) := by decide +kernel
theorem dX0_worthOf_53 : decode cX0_worthOf 53 = .ok (.iload_n 2, 1) := by decide +kernel
theorem dX0_worthOf_54 : decode cX0_worthOf 54 = .ok (.iaload, 1) := by decide +kernel
theorem dX0_worthOf_55 : decode cX0_worthOf 55 = .ok (.invokevirtual 78, 3) := by decide +kernel
theorem dX0_worthOf_58 : decode cX0_worthOf 58 = .ok (.ifCond .ne 30, 3) := by decide +kernel
theorem dX0_worthOf_61 : decode cX0_worthOf 61 = .ok (.aload_n 0, 1) := by decide +kernel
theorem dX0_worthOf_62 : decode cX0_worthOf 62 = .ok (.getfield 38, 3) := by decide +kernel
theorem dX0_worthOf_65 : decode cX0_worthOf 65 = .ok (.aload_n 0, 1) := by decide +kernel
theorem dX0_worthOf_66 : decode cX0_worthOf 66 = .ok (.getfield 11, 3) := by decide +kernel
theorem dX0_worthOf_69 : decode cX0_worthOf 69 = .ok (.iload_n 2, 1) := by decide +kernel
theorem dX0_worthOf_70 : decode cX0_worthOf 70 = .ok (.iaload, 1) := by decide +kernel
theorem dX0_worthOf_71 : decode cX0_worthOf 71 = .ok (.iload_n 3, 1) := by decide +kernel
theorem dX0_worthOf_72 : decode cX0_worthOf 72 = .ok (.invokevirtual 105, 3) := by decide +kernel
theorem dX0_worthOf_75 : decode cX0_worthOf 75 = .ok (.ifCond .eq 13, 3) := by decide +kernel
theorem dX0_worthOf_78 : decode cX0_worthOf 78 = .ok (.aload_n 0, 1) := by decide +kernel
theorem dX0_worthOf_79 : decode cX0_worthOf 79 = .ok (.getfield 38, 3) := by decide +kernel
theorem dX0_worthOf_82 : decode cX0_worthOf 82 = .ok (.getfield 111, 3) := by decide +kernel
theorem dX0_worthOf_85 : decode cX0_worthOf 85 = .ok (.goto 4, 3) := by decide +kernel
theorem dX0_worthOf_88 : decode cX0_worthOf 88 = .ok (.iconst 0, 1) := by decide +kernel
theorem dX0_worthOf_89 : decode cX0_worthOf 89 = .ok (.ireturn, 1) := by decide +kernel
theorem dX0_allUnlike_0 : decode cX0_allUnlike 0 = .ok (.iconst 0, 1) := by decide +kernel
theorem dX0_allUnlike_1 : decode cX0_allUnlike 1 = .ok (.istore_n 2, 1) := by decide +kernel
theorem dX0_allUnlike_2 : decode cX0_allUnlike 2 = .ok (.iload_n 2, 1) := by decide +kernel
theorem dX0_allUnlike_3 : decode cX0_allUnlike 3 = .ok (.aload_n 0, 1) := by decide +kernel
theorem dX0_allUnlike_4 : decode cX0_allUnlike 4 = .ok (.getfield 29, 3) := by decide +kernel
theorem dX0_allUnlike_7 : decode cX0_allUnlike 7 = .ok (.getfield 67, 3) := by decide +kernel
theorem dX0_allUnlike_10 : decode cX0_allUnlike 10 = .ok (.if_icmp .ge 31, 3) := by decide +kernel
theorem dX0_allUnlike_13 : decode cX0_allUnlike 13 = .ok (.aload_n 0, 1) := by decide +kernel
theorem dX0_allUnlike_14 : decode cX0_allUnlike 14 = .ok (.getfield 29, 3) := by decide +kernel
theorem dX0_allUnlike_17 : decode cX0_allUnlike 17 = .ok (.iload_n 2, 1) := by decide +kernel
theorem dX0_allUnlike_18 : decode cX0_allUnlike 18 = .ok (.invokevirtual 70, 3) := by decide +kernel
theorem dX0_allUnlike_21 : decode cX0_allUnlike 21 = .ok (.ifCond .eq 14, 3) := by decide +kernel
theorem dX0_allUnlike_24 : decode cX0_allUnlike 24 = .ok (.aload_n 0, 1) := by decide +kernel
theorem dX0_allUnlike_25 : decode cX0_allUnlike 25 = .ok (.iload_n 2, 1) := by decide +kernel
theorem dX0_allUnlike_26 : decode cX0_allUnlike 26 = .ok (.iload_n 1, 1) := by decide +kernel
theorem dX0_allUnlike_27 : decode cX0_allUnlike 27 = .ok (.invokevirtual 114, 3) := by decide +kernel
theorem dX0_allUnlike_30 : decode cX0_allUnlike 30 = .ok (.ifCond .eq 5, 3) := by decide +kernel
theorem dX0_allUnlike_33 : decode cX0_allUnlike 33 = .ok (.iconst 0, 1) := by decide +kernel
theorem dX0_allUnlike_34 : decode cX0_allUnlike 34 = .ok (.ireturn, 1) := by decide +kernel
theorem dX0_allUnlike_35 : decode cX0_allUnlike 35 = .ok (.iinc 2 1, 3) := by decide +kernel
theorem dX0_allUnlike_38 : decode cX0_allUnlike 38 = .ok (.goto (-36), 3) := by decide +kernel
theorem dX0_allUnlike_41 : decode cX0_allUnlike 41 = .ok (.iconst 1, 1) := by decide +kernel
theorem dX0_allUnlike_42 : decode cX0_allUnlike 42 = .ok (.ireturn, 1) := by decide +kernel
theorem dX0_isRepeated_0 : decode cX0_isRepeated 0 = .ok (.aload_n 0, 1) := by decide +kernel
theorem dX0_isRepeated_1 : decode cX0_isRepeated 1 = .ok (.getfield 29, 3) := by decide +kernel
theorem dX0_isRepeated_4 : decode cX0_isRepeated 4 = .ok (.iload_n 1, 1) := by decide +kernel
theorem dX0_isRepeated_5 : decode cX0_isRepeated 5 = .ok (.iload_n 2, 1) := by decide +kernel
theorem dX0_isRepeated_6 : decode cX0_isRepeated 6 = .ok (.invokevirtual 74, 3) := by decide +kernel
theorem dX0_isRepeated_9 : decode cX0_isRepeated 9 = .ok (.istore_n 3, 1) := by decide +kernel
theorem dX0_isRepeated_10 : decode cX0_isRepeated 10 = .ok (.iload_n 1, 1) := by decide +kernel
theorem dX0_isRepeated_11 : decode cX0_isRepeated 11 = .ok (.iconst 1, 1) := by decide +kernel
theorem dX0_isRepeated_12 : decode cX0_isRepeated 12 = .ok (.iadd, 1) := by decide +kernel
theorem dX0_isRepeated_13 : decode cX0_isRepeated 13 = .ok (.istore 4, 2) := by decide +kernel
theorem dX0_isRepeated_15 : decode cX0_isRepeated 15 = .ok (.iload 4, 2) := by decide +kernel
theorem dX0_isRepeated_17 : decode cX0_isRepeated 17 = .ok (.aload_n 0, 1) := by decide +kernel
theorem dX0_isRepeated_18 : decode cX0_isRepeated 18 = .ok (.getfield 29, 3) := by decide +kernel
theorem dX0_isRepeated_21 : decode cX0_isRepeated 21 = .ok (.getfield 67, 3) := by decide +kernel
theorem dX0_isRepeated_24 : decode cX0_isRepeated 24 = .ok (.if_icmp .ge 44, 3) := by decide +kernel
theorem dX0_isRepeated_27 : decode cX0_isRepeated 27 = .ok (.aload_n 0, 1) := by decide +kernel
theorem dX0_isRepeated_28 : decode cX0_isRepeated 28 = .ok (.getfield 29, 3) := by decide +kernel
theorem dX0_isRepeated_31 : decode cX0_isRepeated 31 = .ok (.iload 4, 2) := by decide +kernel
theorem dX0_isRepeated_33 : decode cX0_isRepeated 33 = .ok (.invokevirtual 70, 3) := by decide +kernel
theorem dX0_isRepeated_36 : decode cX0_isRepeated 36 = .ok (.ifCond .eq 26, 3) := by decide +kernel
theorem dX0_isRepeated_39 : decode cX0_isRepeated 39 = .ok (.aload_n 0, 1) := by decide +kernel
theorem dX0_isRepeated_40 : decode cX0_isRepeated 40 = .ok (.getfield 29, 3) := by decide +kernel
theorem dX0_isRepeated_43 : decode cX0_isRepeated 43 = .ok (.iload_n 3, 1) := by decide +kernel
theorem dX0_isRepeated_44 : decode cX0_isRepeated 44 = .ok (.aload_n 0, 1) := by decide +kernel
theorem dX0_isRepeated_45 : decode cX0_isRepeated 45 = .ok (.getfield 29, 3) := by decide +kernel
theorem dX0_isRepeated_48 : decode cX0_isRepeated 48 = .ok (.iload 4, 2) := by decide +kernel
theorem dX0_isRepeated_50 : decode cX0_isRepeated 50 = .ok (.iload_n 2, 1) := by decide +kernel
theorem dX0_isRepeated_51 : decode cX0_isRepeated 51 = .ok (.invokevirtual 74, 3) := by decide +kernel
theorem dX0_isRepeated_54 : decode cX0_isRepeated 54 = .ok (.invokevirtual 117, 3) := by decide +kernel
theorem dX0_isRepeated_57 : decode cX0_isRepeated 57 = .ok (.ifCond .eq 5, 3) := by decide +kernel
theorem dX0_isRepeated_60 : decode cX0_isRepeated 60 = .ok (.iconst 1, 1) := by decide +kernel
theorem dX0_isRepeated_61 : decode cX0_isRepeated 61 = .ok (.ireturn, 1) := by decide +kernel
theorem dX0_isRepeated_62 : decode cX0_isRepeated 62 = .ok (.iinc 4 1, 3) := by decide +kernel
theorem dX0_isRepeated_65 : decode cX0_isRepeated 65 = .ok (.goto (-50), 3) := by decide +kernel
theorem dX0_isRepeated_68 : decode cX0_isRepeated 68 = .ok (.iconst 0, 1) := by decide +kernel
theorem dX0_isRepeated_69 : decode cX0_isRepeated 69 = .ok (.ireturn, 1) := by decide +kernel
theorem dX1_init_0 : decode cX1_init 0 = .ok (.aload_n 0, 1) := by decide +kernel
theorem dX1_init_1 : decode cX1_init 1 = .ok (.invokespecial 3, 3) := by decide +kernel
theorem dX1_init_4 : decode cX1_init 4 = .ok (.aload_n 0, 1) := by decide +kernel
theorem dX1_init_5 : decode cX1_init 5 = .ok (.sipush 1200, 3) := by decide +kernel
theorem dX1_init_8 : decode cX1_init 8 = .ok (.newarray .int, 2) := by decide +kernel
theorem dX1_init_10 : decode cX1_init 10 = .ok (.putfield 9, 3) := by decide +kernel
theorem dX1_init_13 : decode cX1_init 13 = .ok (.aload_n 0, 1) := by decide +kernel
theorem dX1_init_14 : decode cX1_init 14 = .ok (.sipush 961, 3) := by decide +kernel
theorem dX1_init_17 : decode cX1_init 17 = .ok (.newarray .int, 2) := by decide +kernel
theorem dX1_init_19 : decode cX1_init 19 = .ok (.putfield 15, 3) := by decide +kernel
theorem dX1_init_22 : decode cX1_init 22 = .ok (.aload_n 0, 1) := by decide +kernel
theorem dX1_init_23 : decode cX1_init 23 = .ok (.bipush 81, 2) := by decide +kernel
theorem dX1_init_25 : decode cX1_init 25 = .ok (.newarray .int, 2) := by decide +kernel
theorem dX1_init_27 : decode cX1_init 27 = .ok (.putfield 18, 3) := by decide +kernel
theorem dX1_init_30 : decode cX1_init 30 = .ok (.return_, 1) := by decide +kernel
theorem dX1_cutText_0 : decode cX1_cutText 0 = .ok (.aload_n 0, 1) := by decide +kernel
theorem dX1_cutText_1 : decode cX1_cutText 1 = .ok (.iload_n 3, 1) := by decide +kernel
theorem dX1_cutText_2 : decode cX1_cutText 2 = .ok (.invokevirtual 21, 3) := by decide +kernel
theorem dX1_cutText_5 : decode cX1_cutText 5 = .ok (.iload_n 2, 1) := by decide +kernel
theorem dX1_cutText_6 : decode cX1_cutText 6 = .ok (.aload_n 1, 1) := by decide +kernel
theorem dX1_cutText_7 : decode cX1_cutText 7 = .ok (.arraylength, 1) := by decide +kernel
theorem dX1_cutText_8 : decode cX1_cutText 8 = .ok (.invokestatic 25, 3) := by decide +kernel
theorem dX1_cutText_11 : decode cX1_cutText 11 = .ok (.istore 4, 2) := by decide +kernel
theorem dX1_cutText_13 : decode cX1_cutText 13 = .ok (.iload 4, 2) := by decide +kernel
theorem dX1_cutText_15 : decode cX1_cutText 15 = .ok (.ifCond .le 12, 3) := by decide +kernel
theorem dX1_cutText_18 : decode cX1_cutText 18 = .ok (.aload_n 0, 1) := by decide +kernel
theorem dX1_cutText_19 : decode cX1_cutText 19 = .ok (.iconst 0, 1) := by decide +kernel
theorem dX1_cutText_20 : decode cX1_cutText 20 = .ok (.iconst 1, 1) := by decide +kernel
theorem dX1_cutText_21 : decode cX1_cutText 21 = .ok (.invokevirtual 31, 3) := by decide +kernel
theorem dX1_cutText_24 : decode cX1_cutText 24 = .ok (.goto 16, 3) := by decide +kernel
theorem dX1_cutText_27 : decode cX1_cutText 27 = .ok (.aload_n 0, 1) := by decide +kernel
theorem dX1_cutText_28 : decode cX1_cutText 28 = .ok (.getfield 35, 3) := by decide +kernel
theorem dX1_cutText_31 : decode cX1_cutText 31 = .ok (.ifCond .eq 9, 3) := by decide +kernel
theorem dX1_cutText_34 : decode cX1_cutText 34 = .ok (.aload_n 0, 1) := by decide +kernel
theorem dX1_cutText_35 : decode cX1_cutText 35 = .ok (.iconst 4, 1) := by decide +kernel
theorem dX1_cutText_36 : decode cX1_cutText 36 = .ok (.iconst 0, 1) := by decide +kernel
theorem dX1_cutText_37 : decode cX1_cutText 37 = .ok (.invokevirtual 39, 3) := by decide +kernel
theorem dX1_cutText_40 : decode cX1_cutText 40 = .ok (.iconst 0, 1) := by decide +kernel
theorem dX1_cutText_41 : decode cX1_cutText 41 = .ok (.istore 5, 2) := by decide +kernel
theorem dX1_cutText_43 : decode cX1_cutText 43 = .ok (.iload 5, 2) := by decide +kernel
theorem dX1_cutText_45 : decode cX1_cutText 45 = .ok (.iload 4, 2) := by decide +kernel
theorem dX1_cutText_47 : decode cX1_cutText 47 = .ok (.if_icmp .ge 40, 3) := by decide +kernel
theorem dX1_cutText_50 : decode cX1_cutText 50 = .ok (.aload_n 0, 1) := by decide +kernel
theorem dX1_cutText_51 : decode cX1_cutText 51 = .ok (.getfield 43, 3) := by decide +kernel
theorem dX1_cutText_54 : decode cX1_cutText 54 = .ok (.ifCond .ne 33, 3) := by decide +kernel
theorem dX1_cutText_57 : decode cX1_cutText 57 = .ok (.aload_n 0, 1) := by decide +kernel
theorem dX1_cutText_58 : decode cX1_cutText 58 = .ok (.aload_n 1, 1) := by decide +kernel
theorem dX1_cutText_59 : decode cX1_cutText 59 = .ok (.iload 5, 2) := by decide +kernel
theorem dX1_cutText_61 : decode cX1_cutText 61 = .ok (.iaload, 1) := by decide +kernel
theorem dX1_cutText_62 : decode cX1_cutText 62 = .ok (.iload 5, 2) := by decide +kernel
theorem dX1_cutText_64 : decode cX1_cutText 64 = .ok (.iload 5, 2) := by decide +kernel
theorem dX1_cutText_66 : decode cX1_cutText 66 = .ok (.iconst 1, 1) := by decide +kernel
theorem dX1_cutText_67 : decode cX1_cutText 67 = .ok (.iadd, 1) := by decide +kernel
theorem dX1_cutText_68 : decode cX1_cutText 68 = .ok (.iload 4, 2) := by decide +kernel
theorem dX1_cutText_70 : decode cX1_cutText 70 = .ok (.if_icmp .ne 7, 3) := by decide +kernel
theorem dX1_cutText_73 : decode cX1_cutText 73 = .ok (.iconst 1, 1) := by decide +kernel
theorem dX1_cutText_74 : decode cX1_cutText 74 = .ok (.goto 4, 3) := by decide +kernel
theorem dX1_cutText_77 : decode cX1_cutText 77 = .ok (.iconst 0, 1) := by decide +kernel
theorem dX1_cutText_78 : decode cX1_cutText 78 = .ok (.invokevirtual 47, 3) := by decide +kernel
theorem dX1_cutText_81 : decode cX1_cutText 81 = .ok (.iinc 5 1, 3) := by decide +kernel
theorem dX1_cutText_84 : decode cX1_cutText 84 = .ok (.goto (-41), 3) := by decide +kernel
theorem dX1_cutText_87 : decode cX1_cutText 87 = .ok (.aload_n 0, 1) := by decide +kernel
theorem dX1_cutText_88 : decode cX1_cutText 88 = .ok (.invokevirtual 51, 3) := by decide +kernel
theorem dX1_cutText_91 : decode cX1_cutText 91 = .ok (.return_, 1) := by decide +kernel
theorem dX1_begin_0 : decode cX1_begin 0 = .ok (.iload_n 1, 1) := by decide +kernel
theorem dX1_begin_1 : decode cX1_begin 1 = .ok (.bipush 6, 2) := by decide +kernel
theorem dX1_begin_3 : decode cX1_begin 3 = .ok (.idiv, 1) := by decide +kernel
theorem dX1_begin_4 : decode cX1_begin 4 = .ok (.istore_n 2, 1) := by decide +kernel
theorem dX1_begin_5 : decode cX1_begin 5 = .ok (.aload_n 0, 1) := by decide +kernel
theorem dX1_begin_6 : decode cX1_begin 6 = .ok (.iload_n 2, 1) := by decide +kernel
theorem dX1_begin_7 : decode cX1_begin 7 = .ok (.ifCond .lt 19, 3) := by decide +kernel
theorem dX1_begin_10 : decode cX1_begin 10 = .ok (.iload_n 2, 1) := by decide +kernel
theorem dX1_begin_11 : decode cX1_begin 11 = .ok (.getstatic 54, 3) := by decide +kernel
theorem dX1_begin_14 : decode cX1_begin 14 = .ok (.arraylength, 1) := by decide +kernel
theorem dX1_begin_15 : decode cX1_begin 15 = .ok (.if_icmp .ge 11, 3) := by decide +kernel
theorem dX1_begin_18 : decode cX1_begin 18 = .ok (.getstatic 54, 3) := by decide +kernel
theorem dX1_begin_21 : decode cX1_begin 21 = .ok (.iload_n 2, 1) := by decide +kernel
theorem dX1_begin_22 : decode cX1_begin 22 = .ok (.caload, 1) := by decide +kernel
theorem dX1_begin_23 : decode cX1_begin 23 = .ok (.goto 4, 3) := by decide +kernel
theorem dX1_begin_26 : decode cX1_begin 26 = .ok (.iconst (-1), 1) := by decide +kernel
theorem dX1_begin_27 : decode cX1_begin 27 = .ok (.putfield 58, 3) := by decide +kernel
theorem dX1_begin_30 : decode cX1_begin 30 = .ok (.iload_n 1, 1) := by decide +kernel
theorem dX1_begin_31 : decode cX1_begin 31 = .ok (.iconst 2, 1) := by decide +kernel
theorem dX1_begin_32 : decode cX1_begin 32 = .ok (.idiv, 1) := by decide +kernel
theorem dX1_begin_33 : decode cX1_begin 33 = .ok (.iconst 3, 1) := by decide +kernel
theorem dX1_begin_34 : decode cX1_begin 34 = .ok (.irem, 1) := by decide +kernel
theorem dX1_begin_35 : decode cX1_begin 35 = .ok (.istore_n 3, 1) := by decide +kernel
theorem dX1_begin_36 : decode cX1_begin 36 = .ok (.aload_n 0, 1) := by decide +kernel
theorem dX1_begin_37 : decode cX1_begin 37 = .ok (.iload_n 3, 1) := by decide +kernel
theorem dX1_begin_38 : decode cX1_begin 38 = .ok (.iconst 1, 1) := by decide +kernel
theorem dX1_begin_39 : decode cX1_begin 39 = .ok (.if_icmp .ne 8, 3) := by decide +kernel
theorem dX1_begin_42 : decode cX1_begin 42 = .ok (.bipush 34, 2) := by decide +kernel
theorem dX1_begin_44 : decode cX1_begin 44 = .ok (.goto 14, 3) := by decide +kernel
theorem dX1_begin_47 : decode cX1_begin 47 = .ok (.iload_n 3, 1) := by decide +kernel
theorem dX1_begin_48 : decode cX1_begin 48 = .ok (.iconst 2, 1) := by decide +kernel
theorem dX1_begin_49 : decode cX1_begin 49 = .ok (.if_icmp .ne 8, 3) := by decide +kernel
theorem dX1_begin_52 : decode cX1_begin 52 = .ok (.bipush 39, 2) := by decide +kernel
theorem dX1_begin_54 : decode cX1_begin 54 = .ok (.goto 4, 3) := by decide +kernel
theorem dX1_begin_57 : decode cX1_begin 57 = .ok (.iconst (-1), 1) := by decide +kernel
theorem dX1_begin_58 : decode cX1_begin 58 = .ok (.putfield 61, 3) := by decide +kernel
theorem dX1_begin_61 : decode cX1_begin 61 = .ok (.aload_n 0, 1) := by decide +kernel
theorem dX1_begin_62 : decode cX1_begin 62 = .ok (.iload_n 1, 1) := by decide +kernel
theorem dX1_begin_63 : decode cX1_begin 63 = .ok (.iconst 2, 1) := by decide +kernel
theorem dX1_begin_64 : decode cX1_begin 64 = .ok (.irem, 1) := by decide +kernel
theorem dX1_begin_65 : decode cX1_begin 65 = .ok (.iconst 1, 1) := by decide +kernel
theorem dX1_begin_66 : decode cX1_begin 66 = .ok (.if_icmp .ne 7, 3) := by decide +kernel
theorem dX1_begin_69 : decode cX1_begin 69 = .ok (.iconst 1, 1) := by decide +kernel
theorem dX1_begin_70 : decode cX1_begin 70 = .ok (.goto 4, 3) := by decide +kernel
theorem dX1_begin_73 : decode cX1_begin 73 = .ok (.iconst 0, 1) := by decide +kernel
theorem dX1_begin_74 : decode cX1_begin 74 = .ok (.putfield 35, 3) := by decide +kernel
theorem dX1_begin_77 : decode cX1_begin 77 = .ok (.aload_n 0, 1) := by decide +kernel
theorem dX1_begin_78 : decode cX1_begin 78 = .ok (.iconst 0, 1) := by decide +kernel
theorem dX1_begin_79 : decode cX1_begin 79 = .ok (.putfield 64, 3) := by decide +kernel
theorem dX1_begin_82 : decode cX1_begin 82 = .ok (.aload_n 0, 1) := by decide +kernel
theorem dX1_begin_83 : decode cX1_begin 83 = .ok (.iconst 0, 1) := by decide +kernel
theorem dX1_begin_84 : decode cX1_begin 84 = .ok (.putfield 67, 3) := by decide +kernel
theorem dX1_begin_87 : decode cX1_begin 87 = .ok (.aload_n 0, 1) := by decide +kernel
theorem dX1_begin_88 : decode cX1_begin 88 = .ok (.iconst 0, 1) := by decide +kernel
theorem dX1_begin_89 : decode cX1_begin 89 = .ok (.putfield 70, 3) := by decide +kernel
theorem dX1_begin_92 : decode cX1_begin 92 = .ok (.aload_n 0, 1) := by decide +kernel
theorem dX1_begin_93 : decode cX1_begin 93 = .ok (.iconst 0, 1) := by decide +kernel
theorem dX1_begin_94 : decode cX1_begin 94 = .ok (.putfield 43, 3) := by decide +kernel
theorem dX1_begin_97 : decode cX1_begin 97 = .ok (.aload_n 0, 1) := by decide +kernel
theorem dX1_begin_98 : decode cX1_begin 98 = .ok (.iconst (-1), 1) := by decide +kernel
theorem dX1_begin_99 : decode cX1_begin 99 = .ok (.putfield 73, 3) := by decide +kernel
theorem dX1_begin_102 : decode cX1_begin 102 = .ok (.aload_n 0, 1) := by decide +kernel
theorem dX1_begin_103 : decode cX1_begin 103 = .ok (.iconst 0, 1) := by decide +kernel
theorem dX1_begin_104 : decode cX1_begin 104 = .ok (.putfield 76, 3) := by decide +kernel
theorem dX1_begin_107 : decode cX1_begin 107 = .ok (.return_, 1) := by decide +kernel
theorem dX1_take_0 : decode cX1_take 0 = .ok (.aload_n 0, 1) := by decide +kernel
theorem dX1_take_1 : decode cX1_take 1 = .ok (.getfield 76, 3) := by decide +kernel
theorem dX1_take_4 : decode cX1_take 4 = .ok (.iconst 3, 1) := by decide +kernel
theorem dX1_take_5 : decode cX1_take 5 = .ok (.if_icmp .ne 27, 3) := by decide +kernel
theorem dX1_take_8 : decode cX1_take 8 = .ok (.iload_n 1, 1) := by decide +kernel
theorem dX1_take_9 : decode cX1_take 9 = .ok (.aload_n 0, 1) := by decide +kernel
theorem dX1_take_10 : decode cX1_take 10 = .ok (.getfield 61, 3) := by decide +kernel
theorem dX1_take_13 : decode cX1_take 13 = .ok (.if_icmp .ne 11, 3) := by decide +kernel
theorem dX1_take_16 : decode cX1_take 16 = .ok (.aload_n 0, 1) := by decide +kernel
theorem dX1_take_17 : decode cX1_take 17 = .ok (.iconst 4, 1) := by decide +kernel
theorem dX1_take_18 : decode cX1_take 18 = .ok (.putfield 76, 3) := by decide +kernel
theorem dX1_take_21 : decode cX1_take 21 = .ok (.goto 136, 3) := by decide +kernel
theorem dX1_take_24 : decode cX1_take 24 = .ok (.aload_n 0, 1) := by decide +kernel
theorem dX1_take_25 : decode cX1_take 25 = .ok (.iload_n 1, 1) := by decide +kernel
theorem dX1_take_26 : decode cX1_take 26 = .ok (.invokevirtual 79, 3) := by decide +kernel
theorem dX1_take_29 : decode cX1_take 29 = .ok (.goto 128, 3) := by decide +kernel
theorem dX1_take_32 : decode cX1_take 32 = .ok (.aload_n 0, 1) := by decide +kernel
theorem dX1_take_33 : decode cX1_take 33 = .ok (.getfield 76, 3) := by decide +kernel
theorem dX1_take_36 : decode cX1_take 36 = .ok (.iconst 4, 1) := by decide +kernel
theorem dX1_take_37 : decode cX1_take 37 = .ok (.if_icmp .ne 24, 3) := by decide +kernel
theorem dX1_take_40 : decode cX1_take 40 = .ok (.iload_n 1, 1) := by decide +kernel
theorem dX1_take_41 : decode cX1_take 41 = .ok (.aload_n 0, 1) := by decide +kernel
theorem dX1_take_42 : decode cX1_take 42 = .ok (.getfield 61, 3) := by decide +kernel
theorem dX1_take_45 : decode cX1_take 45 = .ok (.if_icmp .ne 16, 3) := by decide +kernel
theorem dX1_take_48 : decode cX1_take 48 = .ok (.aload_n 0, 1) := by decide +kernel
theorem dX1_take_49 : decode cX1_take 49 = .ok (.iconst 3, 1) := by decide +kernel
theorem dX1_take_50 : decode cX1_take 50 = .ok (.putfield 76, 3) := by decide +kernel
theorem dX1_take_53 : decode cX1_take 53 = .ok (.aload_n 0, 1) := by decide +kernel
theorem dX1_take_54 : decode cX1_take 54 = .ok (.iload_n 1, 1) := by decide +kernel
theorem dX1_take_55 : decode cX1_take 55 = .ok (.invokevirtual 79, 3) := by decide +kernel
theorem dX1_take_58 : decode cX1_take 58 = .ok (.goto 99, 3) := by decide +kernel
theorem dX1_take_61 : decode cX1_take 61 = .ok (.iload_n 1, 1) := by decide +kernel
theorem dX1_take_62 : decode cX1_take 62 = .ok (.aload_n 0, 1) := by decide +kernel
theorem dX1_take_63 : decode cX1_take 63 = .ok (.getfield 58, 3) := by decide +kernel
theorem dX1_take_66 : decode cX1_take 66 = .ok (.if_icmp .ne 14, 3) := by decide +kernel
theorem dX1_take_69 : decode cX1_take 69 = .ok (.aload_n 0, 1) := by decide +kernel
theorem dX1_take_70 : decode cX1_take 70 = .ok (.iload_n 2, 1) := by decide +kernel
theorem dX1_take_71 : decode cX1_take 71 = .ok (.iconst 1, 1) := by decide +kernel
theorem dX1_take_72 : decode cX1_take 72 = .ok (.iadd, 1) := by decide +kernel
theorem dX1_take_73 : decode cX1_take 73 = .ok (.iconst 0, 1) := by decide +kernel
theorem dX1_take_74 : decode cX1_take 74 = .ok (.invokevirtual 31, 3) := by decide +kernel
theorem dX1_take_77 : decode cX1_take 77 = .ok (.goto 80, 3) := by decide +kernel
theorem dX1_take_80 : decode cX1_take 80 = .ok (.iload_n 1, 1) := by decide +kernel
theorem dX1_take_81 : decode cX1_take 81 = .ok (.bipush 10, 2) := by decide +kernel
theorem dX1_take_83 : decode cX1_take 83 = .ok (.if_icmp .ne 23, 3) := by decide +kernel
theorem dX1_take_86 : decode cX1_take 86 = .ok (.aload_n 0, 1) := by decide +kernel
theorem dX1_take_87 : decode cX1_take 87 = .ok (.iconst 0, 1) := by decide +kernel
theorem dX1_take_88 : decode cX1_take 88 = .ok (.putfield 76, 3) := by decide +kernel
theorem dX1_take_91 : decode cX1_take 91 = .ok (.iload_n 3, 1) := by decide +kernel
theorem dX1_take_92 : decode cX1_take 92 = .ok (.ifCond .ne 65, 3) := by decide +kernel
theorem dX1_take_95 : decode cX1_take 95 = .ok (.aload_n 0, 1) := by decide +kernel
theorem dX1_take_96 : decode cX1_take 96 = .ok (.iload_n 2, 1) := by decide +kernel
theorem dX1_take_97 : decode cX1_take 97 = .ok (.iconst 1, 1) := by decide +kernel
theorem dX1_take_98 : decode cX1_take 98 = .ok (.iadd, 1) := by decide +kernel
theorem dX1_take_99 : decode cX1_take 99 = .ok (.iconst 1, 1) := by decide +kernel
theorem dX1_take_100 : decode cX1_take 100 = .ok (.invokevirtual 31, 3) := by decide +kernel
theorem dX1_take_103 : decode cX1_take 103 = .ok (.goto 54, 3) := by decide +kernel
theorem dX1_take_106 : decode cX1_take 106 = .ok (.aload_n 0, 1) := by decide +kernel
theorem dX1_take_107 : decode cX1_take 107 = .ok (.getfield 76, 3) := by decide +kernel
theorem dX1_take_110 : decode cX1_take 110 = .ok (.iconst 4, 1) := by decide +kernel
theorem dX1_take_111 : decode cX1_take 111 = .ok (.if_icmp .ne 12, 3) := by decide +kernel
theorem dX1_take_114 : decode cX1_take 114 = .ok (.aload_n 0, 1) := by decide +kernel
theorem dX1_take_115 : decode cX1_take 115 = .ok (.iconst 2, 1) := by decide +kernel
theorem dX1_take_116 : decode cX1_take 116 = .ok (.iload_n 2, 1) := by decide +kernel
theorem dX1_take_117 : decode cX1_take 117 = .ok (.invokevirtual 39, 3) := by decide +kernel
theorem dX1_take_120 : decode cX1_take 120 = .ok (.goto 37, 3) := by decide +kernel
theorem dX1_take_123 : decode cX1_take 123 = .ok (.aload_n 0, 1) := by decide +kernel
theorem dX1_take_124 : decode cX1_take 124 = .ok (.getfield 76, 3) := by decide +kernel
theorem dX1_take_127 : decode cX1_take 127 = .ok (.iconst 1, 1) := by decide +kernel
theorem dX1_take_128 : decode cX1_take 128 = .ok (.if_icmp .ne 19, 3) := by decide +kernel
theorem dX1_take_131 : decode cX1_take 131 = .ok (.iload_n 1, 1) := by decide +kernel
theorem dX1_take_132 : decode cX1_take 132 = .ok (.aload_n 0, 1) := by decide +kernel
theorem dX1_take_133 : decode cX1_take 133 = .ok (.getfield 61, 3) := by decide +kernel
theorem dX1_take_136 : decode cX1_take 136 = .ok (.if_icmp .ne 11, 3) := by decide +kernel
theorem dX1_take_139 : decode cX1_take 139 = .ok (.aload_n 0, 1) := by decide +kernel
theorem dX1_take_140 : decode cX1_take 140 = .ok (.iconst 3, 1) := by decide +kernel
theorem dX1_take_141 : decode cX1_take 141 = .ok (.putfield 76, 3) := by decide +kernel
theorem dX1_take_144 : decode cX1_take 144 = .ok (.goto 13, 3) := by decide +kernel
theorem dX1_take_147 : decode cX1_take 147 = .ok (.aload_n 0, 1) := by decide +kernel
theorem dX1_take_148 : decode cX1_take 148 = .ok (.iconst 2, 1) := by decide +kernel
theorem dX1_take_149 : decode cX1_take 149 = .ok (.putfield 76, 3) := by decide +kernel
theorem dX1_take_152 : decode cX1_take 152 = .ok (.aload_n 0, 1) := by decide +kernel
theorem dX1_take_153 : decode cX1_take 153 = .ok (.iload_n 1, 1) := by decide +kernel
theorem dX1_take_154 : decode cX1_take 154 = .ok (.invokevirtual 79, 3) := by decide +kernel
theorem dX1_take_157 : decode cX1_take 157 = .ok (.return_, 1) := by decide +kernel
theorem dX1_hold_0 : decode cX1_hold 0 = .ok (.aload_n 0, 1) := by decide +kernel
theorem dX1_hold_1 : decode cX1_hold 1 = .ok (.getfield 64, 3) := by decide +kernel
theorem dX1_hold_4 : decode cX1_hold 4 = .ok (.aload_n 0, 1) := by decide +kernel
theorem dX1_hold_5 : decode cX1_hold 5 = .ok (.getfield 9, 3) := by decide +kernel
theorem dX1_hold_8 : decode cX1_hold 8 = .ok (.arraylength, 1) := by decide +kernel
theorem dX1_hold_9 : decode cX1_hold 9 = .ok (.if_icmp .ge 23, 3) := by decide +kernel
theorem dX1_hold_12 : decode cX1_hold 12 = .ok (.aload_n 0, 1) := by decide +kernel
theorem dX1_hold_13 : decode cX1_hold 13 = .ok (.getfield 9, 3) := by decide +kernel
theorem dX1_hold_16 : decode cX1_hold 16 = .ok (.aload_n 0, 1) := by decide +kernel
theorem dX1_hold_17 : decode cX1_hold 17 = .ok (.getfield 64, 3) := by decide +kernel
theorem dX1_hold_20 : decode cX1_hold 20 = .ok (.iload_n 1, 1) := by decide +kernel
theorem dX1_hold_21 : decode cX1_hold 21 = .ok (.iastore, 1) := by decide +kernel
theorem dX1_hold_22 : decode cX1_hold 22 = .ok (.aload_n 0, 1) := by decide +kernel
theorem dX1_hold_23 : decode cX1_hold 23 = .ok (.dup, 1) := by decide +kernel
theorem dX1_hold_24 : decode cX1_hold 24 = .ok (.getfield 64, 3) := by decide +kernel
theorem dX1_hold_27 : decode cX1_hold 27 = .ok (.iconst 1, 1) := by decide +kernel
theorem dX1_hold_28 : decode cX1_hold 28 = .ok (.iadd, 1) := by decide +kernel
theorem dX1_hold_29 : decode cX1_hold 29 = .ok (.putfield 64, 3) := by decide +kernel
theorem dX1_hold_32 : decode cX1_hold 32 = .ok (.return_, 1) := by decide +kernel
theorem dX1_openCell_0 : decode cX1_openCell 0 = .ok (.iload_n 2, 1) := by decide +kernel
theorem dX1_openCell_1 : decode cX1_openCell 1 = .ok (.ifCond .eq 20, 3) := by decide +kernel
theorem dX1_openCell_4 : decode cX1_openCell 4 = .ok (.aload_n 0, 1) := by decide +kernel
theorem dX1_openCell_5 : decode cX1_openCell 5 = .ok (.getfield 70, 3) := by decide +kernel
theorem dX1_openCell_8 : decode cX1_openCell 8 = .ok (.bipush 80, 2) := by decide +kernel
theorem dX1_openCell_10 : decode cX1_openCell 10 = .ok (.if_icmp .lt 7, 3) := by decide +kernel
theorem dX1_openCell_13 : decode cX1_openCell 13 = .ok (.iconst 1, 1) := by decide +kernel
theorem dX1_openCell_14 : decode cX1_openCell 14 = .ok (.goto 41, 3) := by decide +kernel
theorem dX1_openCell_17 : decode cX1_openCell 17 = .ok (.iconst 0, 1) := by decide +kernel
theorem dX1_openCell_18 : decode cX1_openCell 18 = .ok (.goto 37, 3) := by decide +kernel
theorem dX1_openCell_21 : decode cX1_openCell 21 = .ok (.aload_n 0, 1) := by decide +kernel
theorem dX1_openCell_22 : decode cX1_openCell 22 = .ok (.getfield 70, 3) := by decide +kernel
theorem dX1_openCell_25 : decode cX1_openCell 25 = .ok (.iconst 1, 1) := by decide +kernel
theorem dX1_openCell_26 : decode cX1_openCell 26 = .ok (.if_icmp .lt 24, 3) := by decide +kernel
theorem dX1_openCell_29 : decode cX1_openCell 29 = .ok (.aload_n 0, 1) := by decide +kernel
theorem dX1_openCell_30 : decode cX1_openCell 30 = .ok (.getfield 67, 3) := by decide +kernel
theorem dX1_openCell_33 : decode cX1_openCell 33 = .ok (.aload_n 0, 1) := by decide +kernel
theorem dX1_openCell_34 : decode cX1_openCell 34 = .ok (.getfield 18, 3) := by decide +kernel
theorem dX1_openCell_37 : decode cX1_openCell 37 = .ok (.aload_n 0, 1) := by decide +kernel
theorem dX1_openCell_38 : decode cX1_openCell 38 = .ok (.getfield 70, 3) := by decide +kernel
theorem dX1_openCell_41 : decode cX1_openCell 41 = .ok (.iconst 1, 1) := by decide +kernel
theorem dX1_openCell_42 : decode cX1_openCell 42 = .ok (.isub, 1) := by decide +kernel
theorem dX1_openCell_43 : decode cX1_openCell 43 = .ok (.iaload, 1) := by decide +kernel
theorem dX1_openCell_44 : decode cX1_openCell 44 = .ok (.isub, 1) := by decide +kernel
theorem dX1_openCell_45 : decode cX1_openCell 45 = .ok (.bipush 12, 2) := by decide +kernel
theorem dX1_openCell_47 : decode cX1_openCell 47 = .ok (.if_icmp .lt 7, 3) := by decide +kernel
theorem dX1_openCell_50 : decode cX1_openCell 50 = .ok (.iconst 1, 1) := by decide +kernel
theorem dX1_openCell_51 : decode cX1_openCell 51 = .ok (.goto 4, 3) := by decide +kernel
theorem dX1_openCell_54 : decode cX1_openCell 54 = .ok (.iconst 0, 1) := by decide +kernel
theorem dX1_openCell_55 : decode cX1_openCell 55 = .ok (.istore_n 3, 1) := by decide +kernel
theorem dX1_openCell_56 : decode cX1_openCell 56 = .ok (.iload_n 3, 1) := by decide +kernel
theorem dX1_openCell_57 : decode cX1_openCell 57 = .ok (.ifCond .eq 10, 3) := by decide +kernel
theorem dX1_openCell_60 : decode cX1_openCell 60 = .ok (.aload_n 0, 1) := by decide +kernel
theorem dX1_openCell_61 : decode cX1_openCell 61 = .ok (.iconst 3, 1) := by decide +kernel
theorem dX1_openCell_62 : decode cX1_openCell 62 = .ok (.iload_n 1, 1) := by decide +kernel
theorem dX1_openCell_63 : decode cX1_openCell 63 = .ok (.invokevirtual 39, 3) := by decide +kernel
theorem dX1_openCell_66 : decode cX1_openCell 66 = .ok (.return_, 1) := by decide +kernel
theorem dX1_openCell_67 : decode cX1_openCell 67 = .ok (.iload_n 2, 1) := by decide +kernel
theorem dX1_openCell_68 : decode cX1_openCell 68 = .ok (.ifCond .eq 26, 3) := by decide +kernel
theorem dX1_openCell_71 : decode cX1_openCell 71 = .ok (.aload_n 0, 1) := by decide +kernel
theorem dX1_openCell_72 : decode cX1_openCell 72 = .ok (.getfield 18, 3) := by decide +kernel
theorem dX1_openCell_75 : decode cX1_openCell 75 = .ok (.aload_n 0, 1) := by decide +kernel
theorem dX1_openCell_76 : decode cX1_openCell 76 = .ok (.getfield 70, 3) := by decide +kernel
theorem dX1_openCell_79 : decode cX1_openCell 79 = .ok (.aload_n 0, 1) := by decide +kernel
theorem dX1_openCell_80 : decode cX1_openCell 80 = .ok (.getfield 67, 3) := by decide +kernel
theorem dX1_openCell_83 : decode cX1_openCell 83 = .ok (.iastore, 1) := by decide +kernel
theorem dX1_openCell_84 : decode cX1_openCell 84 = .ok (.aload_n 0, 1) := by decide +kernel
theorem dX1_openCell_85 : decode cX1_openCell 85 = .ok (.dup, 1) := by decide +kernel
theorem dX1_openCell_86 : decode cX1_openCell 86 = .ok (.getfield 70, 3) := by decide +kernel
theorem dX1_openCell_89 : decode cX1_openCell 89 = .ok (.iconst 1, 1) := by decide +kernel
theorem dX1_openCell_90 : decode cX1_openCell 90 = .ok (.iadd, 1) := by decide +kernel
theorem dX1_openCell_91 : decode cX1_openCell 91 = .ok (.putfield 70, 3) := by decide +kernel
theorem dX1_openCell_94 : decode cX1_openCell 94 = .ok (.aload_n 0, 1) := by decide +kernel
theorem dX1_openCell_95 : decode cX1_openCell 95 = .ok (.getfield 15, 3) := by decide +kernel
theorem dX1_openCell_98 : decode cX1_openCell 98 = .ok (.aload_n 0, 1) := by decide +kernel
theorem dX1_openCell_99 : decode cX1_openCell 99 = .ok (.getfield 67, 3) := by decide +kernel
theorem dX1_openCell_102 : decode cX1_openCell 102 = .ok (.aload_n 0, 1) := by decide +kernel
theorem dX1_openCell_103 : decode cX1_openCell 103 = .ok (.getfield 64, 3) := by decide +kernel
theorem dX1_openCell_106 : decode cX1_openCell 106 = .ok (.iastore, 1) := by decide +kernel
theorem dX1_openCell_107 : decode cX1_openCell 107 = .ok (.aload_n 0, 1) := by decide +kernel
theorem dX1_openCell_108 : decode cX1_openCell 108 = .ok (.dup, 1) := by decide +kernel
theorem dX1_openCell_109 : decode cX1_openCell 109 = .ok (.getfield 67, 3) := by decide +kernel
theorem dX1_openCell_112 : decode cX1_openCell 112 = .ok (.iconst 1, 1) := by decide +kernel
theorem dX1_openCell_113 : decode cX1_openCell 113 = .ok (.iadd, 1) := by decide +kernel
theorem dX1_openCell_114 : decode cX1_openCell 114 = .ok (.putfield 67, 3) := by decide +kernel
theorem dX1_openCell_117 : decode cX1_openCell 117 = .ok (.aload_n 0, 1) := by decide +kernel
theorem dX1_openCell_118 : decode cX1_openCell 118 = .ok (.iload_n 1, 1) := by decide +kernel
theorem dX1_openCell_119 : decode cX1_openCell 119 = .ok (.putfield 82, 3) := by decide +kernel
theorem dX1_openCell_122 : decode cX1_openCell 122 = .ok (.aload_n 0, 1) := by decide +kernel
theorem dX1_openCell_123 : decode cX1_openCell 123 = .ok (.iconst 1, 1) := by decide +kernel
theorem dX1_openCell_124 : decode cX1_openCell 124 = .ok (.putfield 76, 3) := by decide +kernel
theorem dX1_openCell_127 : decode cX1_openCell 127 = .ok (.return_, 1) := by decide +kernel
theorem dX1_fail_0 : decode cX1_fail 0 = .ok (.aload_n 0, 1) := by decide +kernel
theorem dX1_fail_1 : decode cX1_fail 1 = .ok (.iload_n 1, 1) := by decide +kernel
theorem dX1_fail_2 : decode cX1_fail 2 = .ok (.putfield 43, 3) := by decide +kernel
theorem dX1_fail_5 : decode cX1_fail 5 = .ok (.aload_n 0, 1) := by decide +kernel
theorem dX1_fail_6 : decode cX1_fail 6 = .ok (.iload_n 2, 1) := by decide +kernel
theorem dX1_fail_7 : decode cX1_fail 7 = .ok (.putfield 73, 3) := by decide +kernel
theorem dX1_fail_10 : decode cX1_fail 10 = .ok (.return_, 1) := by decide +kernel
theorem dX1_finish_0 : decode cX1_finish 0 = .ok (.aload_n 0, 1) := by decide +kernel
theorem dX1_finish_1 : decode cX1_finish 1 = .ok (.getfield 43, 3) := by decide +kernel
theorem dX1_finish_4 : decode cX1_finish 4 = .ok (.ifCond .ne 20, 3) := by decide +kernel
theorem dX1_finish_7 : decode cX1_finish 7 = .ok (.aload_n 0, 1) := by decide +kernel
theorem dX1_finish_8 : decode cX1_finish 8 = .ok (.getfield 76, 3) := by decide +kernel
theorem dX1_finish_11 : decode cX1_finish 11 = .ok (.iconst 3, 1) := by decide +kernel
theorem dX1_finish_12 : decode cX1_finish 12 = .ok (.if_icmp .ne 12, 3) := by decide +kernel
theorem dX1_finish_15 : decode cX1_finish 15 = .ok (.aload_n 0, 1) := by decide +kernel
theorem dX1_finish_16 : decode cX1_finish 16 = .ok (.iconst 1, 1) := by decide +kernel
theorem dX1_finish_17 : decode cX1_finish 17 = .ok (.aload_n 0, 1) := by decide +kernel
theorem dX1_finish_18 : decode cX1_finish 18 = .ok (.getfield 82, 3) := by decide +kernel
theorem dX1_finish_21 : decode cX1_finish 21 = .ok (.invokevirtual 39, 3) := by decide +kernel
theorem dX1_finish_24 : decode cX1_finish 24 = .ok (.aload_n 0, 1) := by decide +kernel
theorem dX1_finish_25 : decode cX1_finish 25 = .ok (.getfield 43, 3) := by decide +kernel
theorem dX1_finish_28 : decode cX1_finish 28 = .ok (.ifCond .eq 18, 3) := by decide +kernel
theorem dX1_finish_31 : decode cX1_finish 31 = .ok (.aload_n 0, 1) := by decide +kernel
theorem dX1_finish_32 : decode cX1_finish 32 = .ok (.iconst 0, 1) := by decide +kernel
theorem dX1_finish_33 : decode cX1_finish 33 = .ok (.putfield 70, 3) := by decide +kernel
theorem dX1_finish_36 : decode cX1_finish 36 = .ok (.aload_n 0, 1) := by decide +kernel
theorem dX1_finish_37 : decode cX1_finish 37 = .ok (.iconst 0, 1) := by decide +kernel
theorem dX1_finish_38 : decode cX1_finish 38 = .ok (.putfield 67, 3) := by decide +kernel
theorem dX1_finish_41 : decode cX1_finish 41 = .ok (.aload_n 0, 1) := by decide +kernel
theorem dX1_finish_42 : decode cX1_finish 42 = .ok (.iconst 0, 1) := by decide +kernel
theorem dX1_finish_43 : decode cX1_finish 43 = .ok (.putfield 64, 3) := by decide +kernel
theorem dX1_finish_46 : decode cX1_finish 46 = .ok (.aload_n 0, 1) := by decide +kernel
theorem dX1_finish_47 : decode cX1_finish 47 = .ok (.getfield 18, 3) := by decide +kernel
theorem dX1_finish_50 : decode cX1_finish 50 = .ok (.aload_n 0, 1) := by decide +kernel
theorem dX1_finish_51 : decode cX1_finish 51 = .ok (.getfield 70, 3) := by decide +kernel
theorem dX1_finish_54 : decode cX1_finish 54 = .ok (.aload_n 0, 1) := by decide +kernel
theorem dX1_finish_55 : decode cX1_finish 55 = .ok (.getfield 67, 3) := by decide +kernel
theorem dX1_finish_58 : decode cX1_finish 58 = .ok (.iastore, 1) := by decide +kernel
theorem dX1_finish_59 : decode cX1_finish 59 = .ok (.aload_n 0, 1) := by decide +kernel
theorem dX1_finish_60 : decode cX1_finish 60 = .ok (.getfield 15, 3) := by decide +kernel
theorem dX1_finish_63 : decode cX1_finish 63 = .ok (.aload_n 0, 1) := by decide +kernel
theorem dX1_finish_64 : decode cX1_finish 64 = .ok (.getfield 67, 3) := by decide +kernel
theorem dX1_finish_67 : decode cX1_finish 67 = .ok (.aload_n 0, 1) := by decide +kernel
theorem dX1_finish_68 : decode cX1_finish 68 = .ok (.getfield 64, 3) := by decide +kernel
theorem dX1_finish_71 : decode cX1_finish 71 = .ok (.iastore, 1) := by decide +kernel
theorem dX1_finish_72 : decode cX1_finish 72 = .ok (.return_, 1) := by decide +kernel
theorem dX1_width_0 : decode cX1_width 0 = .ok (.aload_n 0, 1) := by decide +kernel
theorem dX1_width_1 : decode cX1_width 1 = .ok (.getfield 70, 3) := by decide +kernel
theorem dX1_width_4 : decode cX1_width 4 = .ok (.ifCond .le 12, 3) := by decide +kernel
theorem dX1_width_7 : decode cX1_width 7 = .ok (.aload_n 0, 1) := by decide +kernel
theorem dX1_width_8 : decode cX1_width 8 = .ok (.getfield 18, 3) := by decide +kernel
theorem dX1_width_11 : decode cX1_width 11 = .ok (.iconst 1, 1) := by decide +kernel
theorem dX1_width_12 : decode cX1_width 12 = .ok (.iaload, 1) := by decide +kernel
theorem dX1_width_13 : decode cX1_width 13 = .ok (.goto 4, 3) := by decide +kernel
theorem dX1_width_16 : decode cX1_width 16 = .ok (.iconst 0, 1) := by decide +kernel
theorem dX1_width_17 : decode cX1_width 17 = .ok (.ireturn, 1) := by decide +kernel
theorem dX1_cellsOf_0 : decode cX1_cellsOf 0 = .ok (.iload_n 1, 1) := by decide +kernel
theorem dX1_cellsOf_1 : decode cX1_cellsOf 1 = .ok (.ifCond .lt 11, 3) := by decide +kernel
theorem dX1_cellsOf_4 : decode cX1_cellsOf 4 = .ok (.iload_n 1, 1) := by decide +kernel
theorem dX1_cellsOf_5 : decode cX1_cellsOf 5 = .ok (.aload_n 0, 1) := by decide +kernel
theorem dX1_cellsOf_6 : decode cX1_cellsOf 6 = .ok (.getfield 70, 3) := by decide +kernel
theorem dX1_cellsOf_9 : decode cX1_cellsOf 9 = .ok (.if_icmp .lt 7, 3) := by decide +kernel
theorem dX1_cellsOf_12 : decode cX1_cellsOf 12 = .ok (.iconst (-1), 1) := by decide +kernel
theorem dX1_cellsOf_13 : decode cX1_cellsOf 13 = .ok (.goto 18, 3) := by decide +kernel
theorem dX1_cellsOf_16 : decode cX1_cellsOf 16 = .ok (.aload_n 0, 1) := by decide +kernel
theorem dX1_cellsOf_17 : decode cX1_cellsOf 17 = .ok (.getfield 18, 3) := by decide +kernel
theorem dX1_cellsOf_20 : decode cX1_cellsOf 20 = .ok (.iload_n 1, 1) := by decide +kernel
theorem dX1_cellsOf_21 : decode cX1_cellsOf 21 = .ok (.iconst 1, 1) := by decide +kernel
theorem dX1_cellsOf_22 : decode cX1_cellsOf 22 = .ok (.iadd, 1) := by decide +kernel
theorem dX1_cellsOf_23 : decode cX1_cellsOf 23 = .ok (.iaload, 1) := by decide +kernel
theorem dX1_cellsOf_24 : decode cX1_cellsOf 24 = .ok (.aload_n 0, 1) := by decide +kernel
theorem dX1_cellsOf_25 : decode cX1_cellsOf 25 = .ok (.getfield 18, 3) := by decide +kernel
theorem dX1_cellsOf_28 : decode cX1_cellsOf 28 = .ok (.iload_n 1, 1) := by decide +kernel
theorem dX1_cellsOf_29 : decode cX1_cellsOf 29 = .ok (.iaload, 1) := by decide +kernel
theorem dX1_cellsOf_30 : decode cX1_cellsOf 30 = .ok (.isub, 1) := by decide +kernel
theorem dX1_cellsOf_31 : decode cX1_cellsOf 31 = .ok (.ireturn, 1) := by decide +kernel
theorem dX1_isOdd_0 : decode cX1_isOdd 0 = .ok (.iload_n 1, 1) := by decide +kernel
theorem dX1_isOdd_1 : decode cX1_isOdd 1 = .ok (.ifCond .le 39, 3) := by decide +kernel
theorem dX1_isOdd_4 : decode cX1_isOdd 4 = .ok (.iload_n 1, 1) := by decide +kernel
theorem dX1_isOdd_5 : decode cX1_isOdd 5 = .ok (.aload_n 0, 1) := by decide +kernel
theorem dX1_isOdd_6 : decode cX1_isOdd 6 = .ok (.getfield 70, 3) := by decide +kernel
theorem dX1_isOdd_9 : decode cX1_isOdd 9 = .ok (.if_icmp .ge 31, 3) := by decide +kernel
theorem dX1_isOdd_12 : decode cX1_isOdd 12 = .ok (.aload_n 0, 1) := by decide +kernel
theorem dX1_isOdd_13 : decode cX1_isOdd 13 = .ok (.getfield 18, 3) := by decide +kernel
theorem dX1_isOdd_16 : decode cX1_isOdd 16 = .ok (.iload_n 1, 1) := by decide +kernel
theorem dX1_isOdd_17 : decode cX1_isOdd 17 = .ok (.iconst 1, 1) := by decide +kernel
theorem dX1_isOdd_18 : decode cX1_isOdd 18 = .ok (.iadd, 1) := by decide +kernel
theorem dX1_isOdd_19 : decode cX1_isOdd 19 = .ok (.iaload, 1) := by decide +kernel
theorem dX1_isOdd_20 : decode cX1_isOdd 20 = .ok (.aload_n 0, 1) := by decide +kernel
theorem dX1_isOdd_21 : decode cX1_isOdd 21 = .ok (.getfield 18, 3) := by decide +kernel
theorem dX1_isOdd_24 : decode cX1_isOdd 24 = .ok (.iload_n 1, 1) := by decide +kernel
theorem dX1_isOdd_25 : decode cX1_isOdd 25 = .ok (.iaload, 1) := by decide +kernel
theorem dX1_isOdd_26 : decode cX1_isOdd 26 = .ok (.isub, 1) := by decide +kernel
theorem dX1_isOdd_27 : decode cX1_isOdd 27 = .ok (.aload_n 0, 1) := by decide +kernel
theorem dX1_isOdd_28 : decode cX1_isOdd 28 = .ok (.getfield 18, 3) := by decide +kernel
theorem dX1_isOdd_31 : decode cX1_isOdd 31 = .ok (.iconst 1, 1) := by decide +kernel
theorem dX1_isOdd_32 : decode cX1_isOdd 32 = .ok (.iaload, 1) := by decide +kernel
theorem dX1_isOdd_33 : decode cX1_isOdd 33 = .ok (.if_icmp .eq 7, 3) := by decide +kernel
theorem dX1_isOdd_36 : decode cX1_isOdd 36 = .ok (.iconst 1, 1) := by decide +kernel
theorem dX1_isOdd_37 : decode cX1_isOdd 37 = .ok (.goto 4, 3) := by decide +kernel
theorem dX1_isOdd_40 : decode cX1_isOdd 40 = .ok (.iconst 0, 1) := by decide +kernel
theorem dX1_isOdd_41 : decode cX1_isOdd 41 = .ok (.ireturn, 1) := by decide +kernel
theorem dX1_oddRows_0 : decode cX1_oddRows 0 = .ok (.iconst 0, 1) := by decide +kernel
theorem dX1_oddRows_1 : decode cX1_oddRows 1 = .ok (.istore_n 1, 1) := by decide +kernel
theorem dX1_oddRows_2 : decode cX1_oddRows 2 = .ok (.iconst 0, 1) := by decide +kernel
theorem dX1_oddRows_3 : decode cX1_oddRows 3 = .ok (.istore_n 2, 1) := by decide +kernel
theorem dX1_oddRows_4 : decode cX1_oddRows 4 = .ok (.iload_n 2, 1) := by decide +kernel
theorem dX1_oddRows_5 : decode cX1_oddRows 5 = .ok (.aload_n 0, 1) := by decide +kernel
theorem dX1_oddRows_6 : decode cX1_oddRows 6 = .ok (.getfield 70, 3) := by decide +kernel
theorem dX1_oddRows_9 : decode cX1_oddRows 9 = .ok (.if_icmp .ge 25, 3) := by decide +kernel
theorem dX1_oddRows_12 : decode cX1_oddRows 12 = .ok (.iload_n 1, 1) := by decide +kernel
theorem dX1_oddRows_13 : decode cX1_oddRows 13 = .ok (.aload_n 0, 1) := by decide +kernel
theorem dX1_oddRows_14 : decode cX1_oddRows 14 = .ok (.iload_n 2, 1) := by decide +kernel
theorem dX1_oddRows_15 : decode cX1_oddRows 15 = .ok (.invokevirtual 85, 3) := by decide +kernel
theorem dX1_oddRows_18 : decode cX1_oddRows 18 = .ok (.ifCond .eq 7, 3) := by decide +kernel
theorem dX1_oddRows_21 : decode cX1_oddRows 21 = .ok (.iconst 1, 1) := by decide +kernel
theorem dX1_oddRows_22 : decode cX1_oddRows 22 = .ok (.goto 4, 3) := by decide +kernel
theorem dX1_oddRows_25 : decode cX1_oddRows 25 = .ok (.iconst 0, 1) := by decide +kernel
theorem dX1_oddRows_26 : decode cX1_oddRows 26 = .ok (.iadd, 1) := by decide +kernel
theorem dX1_oddRows_27 : decode cX1_oddRows 27 = .ok (.istore_n 1, 1) := by decide +kernel
theorem dX1_oddRows_28 : decode cX1_oddRows 28 = .ok (.iinc 2 1, 3) := by decide +kernel
theorem dX1_oddRows_31 : decode cX1_oddRows 31 = .ok (.goto (-27), 3) := by decide +kernel
theorem dX1_oddRows_34 : decode cX1_oddRows 34 = .ok (.iload_n 1, 1) := by decide +kernel
theorem dX1_oddRows_35 : decode cX1_oddRows 35 = .ok (.ireturn, 1) := by decide +kernel
theorem dX1_isInColumns_0 : decode cX1_isInColumns 0 = .ok (.iload_n 1, 1) := by decide +kernel
theorem dX1_isInColumns_1 : decode cX1_isInColumns 1 = .ok (.aload_n 0, 1) := by decide +kernel
theorem dX1_isInColumns_2 : decode cX1_isInColumns 2 = .ok (.getfield 35, 3) := by decide +kernel
theorem dX1_isInColumns_5 : decode cX1_isInColumns 5 = .ok (.ifCond .eq 7, 3) := by decide +kernel
theorem dX1_isInColumns_8 : decode cX1_isInColumns 8 = .ok (.iconst 1, 1) := by decide +kernel
theorem dX1_isInColumns_9 : decode cX1_isInColumns 9 = .ok (.goto 4, 3) := by decide +kernel
theorem dX1_isInColumns_12 : decode cX1_isInColumns 12 = .ok (.iconst 0, 1) := by decide +kernel
theorem dX1_isInColumns_13 : decode cX1_isInColumns 13 = .ok (.if_icmp .lt 23, 3) := by decide +kernel
theorem dX1_isInColumns_16 : decode cX1_isInColumns 16 = .ok (.iload_n 1, 1) := by decide +kernel
theorem dX1_isInColumns_17 : decode cX1_isInColumns 17 = .ok (.aload_n 0, 1) := by decide +kernel
theorem dX1_isInColumns_18 : decode cX1_isInColumns 18 = .ok (.getfield 70, 3) := by decide +kernel
theorem dX1_isInColumns_21 : decode cX1_isInColumns 21 = .ok (.if_icmp .ge 15, 3) := by decide +kernel
theorem dX1_isInColumns_24 : decode cX1_isInColumns 24 = .ok (.aload_n 0, 1) := by decide +kernel
theorem dX1_isInColumns_25 : decode cX1_isInColumns 25 = .ok (.iload_n 1, 1) := by decide +kernel
theorem dX1_isInColumns_26 : decode cX1_isInColumns 26 = .ok (.invokevirtual 85, 3) := by decide +kernel
theorem dX1_isInColumns_29 : decode cX1_isInColumns 29 = .ok (.ifCond .ne 7, 3) := by decide +kernel
theorem dX1_isInColumns_32 : decode cX1_isInColumns 32 = .ok (.iconst 1, 1) := by decide +kernel
theorem dX1_isInColumns_33 : decode cX1_isInColumns 33 = .ok (.goto 4, 3) := by decide +kernel
theorem dX1_isInColumns_36 : decode cX1_isInColumns 36 = .ok (.iconst 0, 1) := by decide +kernel
theorem dX1_isInColumns_37 : decode cX1_isInColumns 37 = .ok (.ireturn, 1) := by decide +kernel
theorem dX1_cellIn_0 : decode cX1_cellIn 0 = .ok (.iload_n 1, 1) := by decide +kernel
theorem dX1_cellIn_1 : decode cX1_cellIn 1 = .ok (.ifCond .lt 34, 3) := by decide +kernel
theorem dX1_cellIn_4 : decode cX1_cellIn 4 = .ok (.iload_n 1, 1) := by decide +kernel
theorem dX1_cellIn_5 : decode cX1_cellIn 5 = .ok (.aload_n 0, 1) := by decide +kernel
theorem dX1_cellIn_6 : decode cX1_cellIn 6 = .ok (.getfield 70, 3) := by decide +kernel
theorem dX1_cellIn_9 : decode cX1_cellIn 9 = .ok (.if_icmp .ge 26, 3) := by decide +kernel
theorem dX1_cellIn_12 : decode cX1_cellIn 12 = .ok (.iload_n 2, 1) := by decide +kernel
theorem dX1_cellIn_13 : decode cX1_cellIn 13 = .ok (.ifCond .lt 22, 3) := by decide +kernel
theorem dX1_cellIn_16 : decode cX1_cellIn 16 = .ok (.iload_n 2, 1) := by decide +kernel
theorem dX1_cellIn_17 : decode cX1_cellIn 17 = .ok (.aload_n 0, 1) := by decide +kernel
theorem dX1_cellIn_18 : decode cX1_cellIn 18 = .ok (.getfield 18, 3) := by decide +kernel
theorem dX1_cellIn_21 : decode cX1_cellIn 21 = .ok (.iload_n 1, 1) := by decide +kernel
theorem dX1_cellIn_22 : decode cX1_cellIn 22 = .ok (.iconst 1, 1) := by decide +kernel
theorem dX1_cellIn_23 : decode cX1_cellIn 23 = .ok (.iadd, 1) := by decide +kernel
theorem dX1_cellIn_24 : decode cX1_cellIn 24 = .ok (.iaload, 1) := by decide +kernel
theorem dX1_cellIn_25 : decode cX1_cellIn 25 = .ok (.aload_n 0, 1) := by decide +kernel
theorem dX1_cellIn_26 : decode cX1_cellIn 26 = .ok (.getfield 18, 3) := by decide +kernel
theorem dX1_cellIn_29 : decode cX1_cellIn 29 = .ok (.iload_n 1, 1) := by decide +kernel
theorem dX1_cellIn_30 : decode cX1_cellIn 30 = .ok (.iaload, 1) := by decide +kernel
theorem dX1_cellIn_31 : decode cX1_cellIn 31 = .ok (.isub, 1) := by decide +kernel
theorem dX1_cellIn_32 : decode cX1_cellIn 32 = .ok (.if_icmp .lt 5, 3) := by decide +kernel
theorem dX1_cellIn_35 : decode cX1_cellIn 35 = .ok (.iconst (-1), 1) := by decide +kernel
theorem dX1_cellIn_36 : decode cX1_cellIn 36 = .ok (.ireturn, 1) := by decide +kernel
theorem dX1_cellIn_37 : decode cX1_cellIn 37 = .ok (.aload_n 0, 1) := by decide +kernel
theorem dX1_cellIn_38 : decode cX1_cellIn 38 = .ok (.getfield 18, 3) := by decide +kernel
theorem dX1_cellIn_41 : decode cX1_cellIn 41 = .ok (.iload_n 1, 1) := by decide +kernel
theorem dX1_cellIn_42 : decode cX1_cellIn 42 = .ok (.iaload, 1) := by decide +kernel
theorem dX1_cellIn_43 : decode cX1_cellIn 43 = .ok (.iload_n 2, 1) := by decide +kernel
theorem dX1_cellIn_44 : decode cX1_cellIn 44 = .ok (.iadd, 1) := by decide +kernel
theorem dX1_cellIn_45 : decode cX1_cellIn 45 = .ok (.ireturn, 1) := by decide +kernel
theorem dX1_lengthOf_0 : decode cX1_lengthOf 0 = .ok (.iload_n 1, 1) := by decide +kernel
theorem dX1_lengthOf_1 : decode cX1_lengthOf 1 = .ok (.ifCond .lt 11, 3) := by decide +kernel
theorem dX1_lengthOf_4 : decode cX1_lengthOf 4 = .ok (.iload_n 1, 1) := by decide +kernel
theorem dX1_lengthOf_5 : decode cX1_lengthOf 5 = .ok (.aload_n 0, 1) := by decide +kernel
theorem dX1_lengthOf_6 : decode cX1_lengthOf 6 = .ok (.getfield 67, 3) := by decide +kernel
theorem dX1_lengthOf_9 : decode cX1_lengthOf 9 = .ok (.if_icmp .lt 7, 3) := by decide +kernel
theorem dX1_lengthOf_12 : decode cX1_lengthOf 12 = .ok (.iconst (-1), 1) := by decide +kernel
theorem dX1_lengthOf_13 : decode cX1_lengthOf 13 = .ok (.goto 18, 3) := by decide +kernel
theorem dX1_lengthOf_16 : decode cX1_lengthOf 16 = .ok (.aload_n 0, 1) := by decide +kernel
theorem dX1_lengthOf_17 : decode cX1_lengthOf 17 = .ok (.getfield 15, 3) := by decide +kernel
theorem dX1_lengthOf_20 : decode cX1_lengthOf 20 = .ok (.iload_n 1, 1) := by decide +kernel
theorem dX1_lengthOf_21 : decode cX1_lengthOf 21 = .ok (.iconst 1, 1) := by decide +kernel
theorem dX1_lengthOf_22 : decode cX1_lengthOf 22 = .ok (.iadd, 1) := by decide +kernel
theorem dX1_lengthOf_23 : decode cX1_lengthOf 23 = .ok (.iaload, 1) := by decide +kernel
theorem dX1_lengthOf_24 : decode cX1_lengthOf 24 = .ok (.aload_n 0, 1) := by decide +kernel
theorem dX1_lengthOf_25 : decode cX1_lengthOf 25 = .ok (.getfield 15, 3) := by decide +kernel
theorem dX1_lengthOf_28 : decode cX1_lengthOf 28 = .ok (.iload_n 1, 1) := by decide +kernel
theorem dX1_lengthOf_29 : decode cX1_lengthOf 29 = .ok (.iaload, 1) := by decide +kernel
theorem dX1_lengthOf_30 : decode cX1_lengthOf 30 = .ok (.isub, 1) := by decide +kernel
theorem dX1_lengthOf_31 : decode cX1_lengthOf 31 = .ok (.ireturn, 1) := by decide +kernel
theorem dX1_byteIn_0 : decode cX1_byteIn 0 = .ok (.iload_n 1, 1) := by decide +kernel
theorem dX1_byteIn_1 : decode cX1_byteIn 1 = .ok (.ifCond .lt 34, 3) := by decide +kernel
theorem dX1_byteIn_4 : decode cX1_byteIn 4 = .ok (.iload_n 1, 1) := by decide +kernel
theorem dX1_byteIn_5 : decode cX1_byteIn 5 = .ok (.aload_n 0, 1) := by decide +kernel
theorem dX1_byteIn_6 : decode cX1_byteIn 6 = .ok (.getfield 67, 3) := by decide +kernel
theorem dX1_byteIn_9 : decode cX1_byteIn 9 = .ok (.if_icmp .ge 26, 3) := by decide +kernel
theorem dX1_byteIn_12 : decode cX1_byteIn 12 = .ok (.iload_n 2, 1) := by decide +kernel
theorem dX1_byteIn_13 : decode cX1_byteIn 13 = .ok (.ifCond .lt 22, 3) := by decide +kernel
theorem dX1_byteIn_16 : decode cX1_byteIn 16 = .ok (.iload_n 2, 1) := by decide +kernel
theorem dX1_byteIn_17 : decode cX1_byteIn 17 = .ok (.aload_n 0, 1) := by decide +kernel
theorem dX1_byteIn_18 : decode cX1_byteIn 18 = .ok (.getfield 15, 3) := by decide +kernel
theorem dX1_byteIn_21 : decode cX1_byteIn 21 = .ok (.iload_n 1, 1) := by decide +kernel
theorem dX1_byteIn_22 : decode cX1_byteIn 22 = .ok (.iconst 1, 1) := by decide +kernel
theorem dX1_byteIn_23 : decode cX1_byteIn 23 = .ok (.iadd, 1) := by decide +kernel
theorem dX1_byteIn_24 : decode cX1_byteIn 24 = .ok (.iaload, 1) := by decide +kernel
theorem dX1_byteIn_25 : decode cX1_byteIn 25 = .ok (.aload_n 0, 1) := by decide +kernel
theorem dX1_byteIn_26 : decode cX1_byteIn 26 = .ok (.getfield 15, 3) := by decide +kernel
theorem dX1_byteIn_29 : decode cX1_byteIn 29 = .ok (.iload_n 1, 1) := by decide +kernel
theorem dX1_byteIn_30 : decode cX1_byteIn 30 = .ok (.iaload, 1) := by decide +kernel
theorem dX1_byteIn_31 : decode cX1_byteIn 31 = .ok (.isub, 1) := by decide +kernel
theorem dX1_byteIn_32 : decode cX1_byteIn 32 = .ok (.if_icmp .lt 5, 3) := by decide +kernel
theorem dX1_byteIn_35 : decode cX1_byteIn 35 = .ok (.iconst (-1), 1) := by decide +kernel
theorem dX1_byteIn_36 : decode cX1_byteIn 36 = .ok (.ireturn, 1) := by decide +kernel
theorem dX1_byteIn_37 : decode cX1_byteIn 37 = .ok (.aload_n 0, 1) := by decide +kernel
theorem dX1_byteIn_38 : decode cX1_byteIn 38 = .ok (.getfield 9, 3) := by decide +kernel
theorem dX1_byteIn_41 : decode cX1_byteIn 41 = .ok (.aload_n 0, 1) := by decide +kernel
theorem dX1_byteIn_42 : decode cX1_byteIn 42 = .ok (.getfield 15, 3) := by decide +kernel
theorem dX1_byteIn_45 : decode cX1_byteIn 45 = .ok (.iload_n 1, 1) := by decide +kernel
theorem dX1_byteIn_46 : decode cX1_byteIn 46 = .ok (.iaload, 1) := by decide +kernel
theorem dX1_byteIn_47 : decode cX1_byteIn 47 = .ok (.iload_n 2, 1) := by decide +kernel
theorem dX1_byteIn_48 : decode cX1_byteIn 48 = .ok (.iadd, 1) := by decide +kernel
theorem dX1_byteIn_49 : decode cX1_byteIn 49 = .ok (.iaload, 1) := by decide +kernel
theorem dX1_byteIn_50 : decode cX1_byteIn 50 = .ok (.ireturn, 1) := by decide +kernel
theorem dX1_numberIn_0 : decode cX1_numberIn 0 = .ok (.iload_n 1, 1) := by decide +kernel
theorem dX1_numberIn_1 : decode cX1_numberIn 1 = .ok (.ifCond .lt 36, 3) := by decide +kernel
theorem dX1_numberIn_4 : decode cX1_numberIn 4 = .ok (.iload_n 1, 1) := by decide +kernel
theorem dX1_numberIn_5 : decode cX1_numberIn 5 = .ok (.aload_n 0, 1) := by decide +kernel
theorem dX1_numberIn_6 : decode cX1_numberIn 6 = .ok (.getfield 67, 3) := by decide +kernel
theorem dX1_numberIn_9 : decode cX1_numberIn 9 = .ok (.if_icmp .ge 28, 3) := by decide +kernel
theorem dX1_numberIn_12 : decode cX1_numberIn 12 = .ok (.iload_n 2, 1) := by decide +kernel
theorem dX1_numberIn_13 : decode cX1_numberIn 13 = .ok (.ifCond .lt 24, 3) := by decide +kernel
theorem dX1_numberIn_16 : decode cX1_numberIn 16 = .ok (.iload_n 2, 1) := by decide +kernel
theorem dX1_numberIn_17 : decode cX1_numberIn 17 = .ok (.aload_n 0, 1) := by decide +kernel
theorem dX1_numberIn_18 : decode cX1_numberIn 18 = .ok (.getfield 15, 3) := by decide +kernel
theorem dX1_numberIn_21 : decode cX1_numberIn 21 = .ok (.iload_n 1, 1) := by decide +kernel
theorem dX1_numberIn_22 : decode cX1_numberIn 22 = .ok (.iconst 1, 1) := by decide +kernel
theorem dX1_numberIn_23 : decode cX1_numberIn 23 = .ok (.iadd, 1) := by decide +kernel
theorem dX1_numberIn_24 : decode cX1_numberIn 24 = .ok (.iaload, 1) := by decide +kernel
theorem dX1_numberIn_25 : decode cX1_numberIn 25 = .ok (.aload_n 0, 1) := by decide +kernel
theorem dX1_numberIn_26 : decode cX1_numberIn 26 = .ok (.getfield 15, 3) := by decide +kernel
theorem dX1_numberIn_29 : decode cX1_numberIn 29 = .ok (.iload_n 1, 1) := by decide +kernel
theorem dX1_numberIn_30 : decode cX1_numberIn 30 = .ok (.iaload, 1) := by decide +kernel
theorem dX1_numberIn_31 : decode cX1_numberIn 31 = .ok (.isub, 1) := by decide +kernel
theorem dX1_numberIn_32 : decode cX1_numberIn 32 = .ok (.iload_n 3, 1) := by decide +kernel
theorem dX1_numberIn_33 : decode cX1_numberIn 33 = .ok (.isub, 1) := by decide +kernel
theorem dX1_numberIn_34 : decode cX1_numberIn 34 = .ok (.if_icmp .le 5, 3) := by decide +kernel
theorem dX1_numberIn_37 : decode cX1_numberIn 37 = .ok (.iconst (-1), 1) := by decide +kernel
theorem dX1_numberIn_38 : decode cX1_numberIn 38 = .ok (.ireturn, 1) := by decide +kernel
theorem dX1_numberIn_39 : decode cX1_numberIn 39 = .ok (.iconst 0, 1) := by decide +kernel
theorem dX1_numberIn_40 : decode cX1_numberIn 40 = .ok (.istore 4, 2) := by decide +kernel
theorem dX1_numberIn_42 : decode cX1_numberIn 42 = .ok (.iconst 0, 1) := by decide +kernel
theorem dX1_numberIn_43 : decode cX1_numberIn 43 = .ok (.istore 5, 2) := by decide +kernel
theorem dX1_numberIn_45 : decode cX1_numberIn 45 = .ok (.iload 5, 2) := by decide +kernel
theorem dX1_numberIn_47 : decode cX1_numberIn 47 = .ok (.iload_n 3, 1) := by decide +kernel
theorem dX1_numberIn_48 : decode cX1_numberIn 48 = .ok (.if_icmp .ge 56, 3) := by decide +kernel
theorem dX1_numberIn_51 : decode cX1_numberIn 51 = .ok (.aload_n 0, 1) := by decide +kernel
theorem dX1_numberIn_52 : decode cX1_numberIn 52 = .ok (.getfield 9, 3) := by decide +kernel
theorem dX1_numberIn_55 : decode cX1_numberIn 55 = .ok (.aload_n 0, 1) := by decide +kernel
theorem dX1_numberIn_56 : decode cX1_numberIn 56 = .ok (.getfield 15, 3) := by decide +kernel
theorem dX1_numberIn_59 : decode cX1_numberIn 59 = .ok (.iload_n 1, 1) := by decide +kernel
theorem dX1_numberIn_60 : decode cX1_numberIn 60 = .ok (.iaload, 1) := by decide +kernel
theorem dX1_numberIn_61 : decode cX1_numberIn 61 = .ok (.iload_n 2, 1) := by decide +kernel
theorem dX1_numberIn_62 : decode cX1_numberIn 62 = .ok (.iadd, 1) := by decide +kernel
theorem dX1_numberIn_63 : decode cX1_numberIn 63 = .ok (.iload 5, 2) := by decide +kernel
theorem dX1_numberIn_65 : decode cX1_numberIn 65 = .ok (.iadd, 1) := by decide +kernel
theorem dX1_numberIn_66 : decode cX1_numberIn 66 = .ok (.iaload, 1) := by decide +kernel
theorem dX1_numberIn_67 : decode cX1_numberIn 67 = .ok (.istore 6, 2) := by decide +kernel
theorem dX1_numberIn_69 : decode cX1_numberIn 69 = .ok (.iload 6, 2) := by decide +kernel
theorem dX1_numberIn_71 : decode cX1_numberIn 71 = .ok (.bipush 48, 2) := by decide +kernel
theorem dX1_numberIn_73 : decode cX1_numberIn 73 = .ok (.if_icmp .lt 10, 3) := by decide +kernel
theorem dX1_numberIn_76 : decode cX1_numberIn 76 = .ok (.iload 6, 2) := by decide +kernel
theorem dX1_numberIn_78 : decode cX1_numberIn 78 = .ok (.bipush 57, 2) := by decide +kernel
theorem dX1_numberIn_80 : decode cX1_numberIn 80 = .ok (.if_icmp .le 5, 3) := by decide +kernel
theorem dX1_numberIn_83 : decode cX1_numberIn 83 = .ok (.iconst (-1), 1) := by decide +kernel
theorem dX1_numberIn_84 : decode cX1_numberIn 84 = .ok (.ireturn, 1) := by decide +kernel
theorem dX1_numberIn_85 : decode cX1_numberIn 85 = .ok (.iload 4, 2) := by decide +kernel
theorem dX1_numberIn_87 : decode cX1_numberIn 87 = .ok (.bipush 10, 2) := by decide +kernel
theorem dX1_numberIn_89 : decode cX1_numberIn 89 = .ok (.imul, 1) := by decide +kernel
theorem dX1_numberIn_90 : decode cX1_numberIn 90 = .ok (.iload 6, 2) := by decide +kernel
theorem dX1_numberIn_92 : decode cX1_numberIn 92 = .ok (.iadd, 1) := by decide +kernel
theorem dX1_numberIn_93 : decode cX1_numberIn 93 = .ok (.bipush 48, 2) := by decide +kernel
theorem dX1_numberIn_95 : decode cX1_numberIn 95 = .ok (.isub, 1) := by decide +kernel
theorem dX1_numberIn_96 : decode cX1_numberIn 96 = .ok (.istore 4, 2) := by decide +kernel
theorem dX1_numberIn_98 : decode cX1_numberIn 98 = .ok (.iinc 5 1, 3) := by decide +kernel
theorem dX1_numberIn_101 : decode cX1_numberIn 101 = .ok (.goto (-56), 3) := by decide +kernel
theorem dX1_numberIn_104 : decode cX1_numberIn 104 = .ok (.iload 4, 2) := by decide +kernel
theorem dX1_numberIn_106 : decode cX1_numberIn 106 = .ok (.ireturn, 1) := by decide +kernel
theorem dX1_isWord_0 : decode cX1_isWord 0 = .ok (.aload_n 2, 1) := by decide +kernel
theorem dX1_isWord_1 : decode cX1_isWord 1 = .ok (.invokevirtual 89, 3) := by decide +kernel
theorem dX1_isWord_4 : decode cX1_isWord 4 = .ok (.istore_n 3, 1) := by decide +kernel
theorem dX1_isWord_5 : decode cX1_isWord 5 = .ok (.iload_n 1, 1) := by decide +kernel
theorem dX1_isWord_6 : decode cX1_isWord 6 = .ok (.ifCond .lt 30, 3) := by decide +kernel
theorem dX1_isWord_9 : decode cX1_isWord 9 = .ok (.iload_n 1, 1) := by decide +kernel
theorem dX1_isWord_10 : decode cX1_isWord 10 = .ok (.aload_n 0, 1) := by decide +kernel
theorem dX1_isWord_11 : decode cX1_isWord 11 = .ok (.getfield 67, 3) := by decide +kernel
theorem dX1_isWord_14 : decode cX1_isWord 14 = .ok (.if_icmp .ge 22, 3) := by decide +kernel
theorem dX1_isWord_17 : decode cX1_isWord 17 = .ok (.aload_n 0, 1) := by decide +kernel
theorem dX1_isWord_18 : decode cX1_isWord 18 = .ok (.getfield 15, 3) := by decide +kernel
theorem dX1_isWord_21 : decode cX1_isWord 21 = .ok (.iload_n 1, 1) := by decide +kernel
theorem dX1_isWord_22 : decode cX1_isWord 22 = .ok (.iconst 1, 1) := by decide +kernel
theorem dX1_isWord_23 : decode cX1_isWord 23 = .ok (.iadd, 1) := by decide +kernel
theorem dX1_isWord_24 : decode cX1_isWord 24 = .ok (.iaload, 1) := by decide +kernel
theorem dX1_isWord_25 : decode cX1_isWord 25 = .ok (.aload_n 0, 1) := by decide +kernel
theorem dX1_isWord_26 : decode cX1_isWord 26 = .ok (.getfield 15, 3) := by decide +kernel
theorem dX1_isWord_29 : decode cX1_isWord 29 = .ok (.iload_n 1, 1) := by decide +kernel
theorem dX1_isWord_30 : decode cX1_isWord 30 = .ok (.iaload, 1) := by decide +kernel
theorem dX1_isWord_31 : decode cX1_isWord 31 = .ok (.isub, 1) := by decide +kernel
theorem dX1_isWord_32 : decode cX1_isWord 32 = .ok (.iload_n 3, 1) := by decide +kernel
theorem dX1_isWord_33 : decode cX1_isWord 33 = .ok (.if_icmp .eq 5, 3) := by decide +kernel
theorem dX1_isWord_36 : decode cX1_isWord 36 = .ok (.iconst 0, 1) := by decide +kernel
theorem dX1_isWord_37 : decode cX1_isWord 37 = .ok (.ireturn, 1) := by decide +kernel
theorem dX1_isWord_38 : decode cX1_isWord 38 = .ok (.iconst 0, 1) := by decide +kernel
theorem dX1_isWord_39 : decode cX1_isWord 39 = .ok (.istore 4, 2) := by decide +kernel
theorem dX1_isWord_41 : decode cX1_isWord 41 = .ok (.iload 4, 2) := by decide +kernel
theorem dX1_isWord_43 : decode cX1_isWord 43 = .ok (.iload_n 3, 1) := by decide +kernel
theorem dX1_isWord_44 : decode cX1_isWord 44 = .ok (.if_icmp .ge 34, 3) := by decide +kernel
theorem dX1_isWord_47 : decode cX1_isWord 47 = .ok (.aload_n 0, 1) := by decide +kernel
theorem dX1_isWord_48 : decode cX1_isWord 48 = .ok (.getfield 9, 3) := by decide +kernel
theorem dX1_isWord_51 : decode cX1_isWord 51 = .ok (.aload_n 0, 1) := by decide +kernel
theorem dX1_isWord_52 : decode cX1_isWord 52 = .ok (.getfield 15, 3) := by decide +kernel
theorem dX1_isWord_55 : decode cX1_isWord 55 = .ok (.iload_n 1, 1) := by decide +kernel
theorem dX1_isWord_56 : decode cX1_isWord 56 = .ok (.iaload, 1) := by decide +kernel
theorem dX1_isWord_57 : decode cX1_isWord 57 = .ok (.iload 4, 2) := by decide +kernel
theorem dX1_isWord_59 : decode cX1_isWord 59 = .ok (.iadd, 1) := by decide +kernel
theorem dX1_isWord_60 : decode cX1_isWord 60 = .ok (.iaload, 1) := by decide +kernel
theorem dX1_isWord_61 : decode cX1_isWord 61 = .ok (.aload_n 2, 1) := by decide +kernel
theorem dX1_isWord_62 : decode cX1_isWord 62 = .ok (.iload 4, 2) := by decide +kernel
theorem dX1_isWord_64 : decode cX1_isWord 64 = .ok (.invokevirtual 95, 3) := by decide +kernel
theorem dX1_isWord_67 : decode cX1_isWord 67 = .ok (.if_icmp .eq 5, 3) := by decide +kernel
theorem dX1_isWord_70 : decode cX1_isWord 70 = .ok (.iconst 0, 1) := by decide +kernel
theorem dX1_isWord_71 : decode cX1_isWord 71 = .ok (.ireturn, 1) := by decide +kernel
theorem dX1_isWord_72 : decode cX1_isWord 72 = .ok (.iinc 4 1, 3) := by decide +kernel
theorem dX1_isWord_75 : decode cX1_isWord 75 = .ok (.goto (-34), 3) := by decide +kernel
theorem dX1_isWord_78 : decode cX1_isWord 78 = .ok (.iconst 1, 1) := by decide +kernel
theorem dX1_isWord_79 : decode cX1_isWord 79 = .ok (.ireturn, 1) := by decide +kernel
theorem dX1_areAlike_0 : decode cX1_areAlike 0 = .ok (.aload_n 0, 1) := by decide +kernel
theorem dX1_areAlike_1 : decode cX1_areAlike 1 = .ok (.iload_n 1, 1) := by decide +kernel
theorem dX1_areAlike_2 : decode cX1_areAlike 2 = .ok (.invokevirtual 99, 3) := by decide +kernel
theorem dX1_areAlike_5 : decode cX1_areAlike 5 = .ok (.istore_n 3, 1) := by decide +kernel
theorem dX1_areAlike_6 : decode cX1_areAlike 6 = .ok (.iload_n 3, 1) := by decide +kernel
theorem dX1_areAlike_7 : decode cX1_areAlike 7 = .ok (.aload_n 0, 1) := by decide +kernel
theorem dX1_areAlike_8 : decode cX1_areAlike 8 = .ok (.iload_n 2, 1) := by decide +kernel
theorem dX1_areAlike_9 : decode cX1_areAlike 9 = .ok (.invokevirtual 99, 3) := by decide +kernel
theorem dX1_areAlike_12 : decode cX1_areAlike 12 = .ok (.if_icmp .eq 5, 3) := by decide +kernel
theorem dX1_areAlike_15 : decode cX1_areAlike 15 = .ok (.iconst 0, 1) := by decide +kernel
theorem dX1_areAlike_16 : decode cX1_areAlike 16 = .ok (.ireturn, 1) := by decide +kernel
theorem dX1_areAlike_17 : decode cX1_areAlike 17 = .ok (.iconst 0, 1) := by decide +kernel
theorem dX1_areAlike_18 : decode cX1_areAlike 18 = .ok (.istore 4, 2) := by decide +kernel
theorem dX1_areAlike_20 : decode cX1_areAlike 20 = .ok (.iload 4, 2) := by decide +kernel
theorem dX1_areAlike_22 : decode cX1_areAlike 22 = .ok (.iload_n 3, 1) := by decide +kernel
theorem dX1_areAlike_23 : decode cX1_areAlike 23 = .ok (.if_icmp .ge 28, 3) := by decide +kernel
theorem dX1_areAlike_26 : decode cX1_areAlike 26 = .ok (.aload_n 0, 1) := by decide +kernel
theorem dX1_areAlike_27 : decode cX1_areAlike 27 = .ok (.iload_n 1, 1) := by decide +kernel
theorem dX1_areAlike_28 : decode cX1_areAlike 28 = .ok (.iload 4, 2) := by decide +kernel
theorem dX1_areAlike_30 : decode cX1_areAlike 30 = .ok (.invokevirtual 103, 3) := by decide +kernel
theorem dX1_areAlike_33 : decode cX1_areAlike 33 = .ok (.aload_n 0, 1) := by decide +kernel
theorem dX1_areAlike_34 : decode cX1_areAlike 34 = .ok (.iload_n 2, 1) := by decide +kernel
theorem dX1_areAlike_35 : decode cX1_areAlike 35 = .ok (.iload 4, 2) := by decide +kernel
theorem dX1_areAlike_37 : decode cX1_areAlike 37 = .ok (.invokevirtual 103, 3) := by decide +kernel
theorem dX1_areAlike_40 : decode cX1_areAlike 40 = .ok (.if_icmp .eq 5, 3) := by decide +kernel
theorem dX1_areAlike_43 : decode cX1_areAlike 43 = .ok (.iconst 0, 1) := by decide +kernel
theorem dX1_areAlike_44 : decode cX1_areAlike 44 = .ok (.ireturn, 1) := by decide +kernel
theorem dX1_areAlike_45 : decode cX1_areAlike 45 = .ok (.iinc 4 1, 3) := by decide +kernel
theorem dX1_areAlike_48 : decode cX1_areAlike 48 = .ok (.goto (-28), 3) := by decide +kernel
theorem dX1_areAlike_51 : decode cX1_areAlike 51 = .ok (.iconst 1, 1) := by decide +kernel
theorem dX1_areAlike_52 : decode cX1_areAlike 52 = .ok (.ireturn, 1) := by decide +kernel
theorem dX1_priceBesideColumns_0 : decode cX1_priceBesideColumns 0 = .ok (.aload_n 0, 1) := by decide +kernel
theorem dX1_priceBesideColumns_1 : decode cX1_priceBesideColumns 1 = .ok (.getfield 61, 3) := by decide +kernel
theorem dX1_priceBesideColumns_4 : decode cX1_priceBesideColumns 4 = .ok (.iconst (-1), 1) := by decide +kernel
theorem dX1_priceBesideColumns_5 : decode cX1_priceBesideColumns 5 = .ok (.if_icmp .ne 7, 3) := by decide +kernel
theorem dX1_priceBesideColumns_8 : decode cX1_priceBesideColumns 8 = .ok (.iconst 0, 1) := by decide +kernel
theorem dX1_priceBesideColumns_9 : decode cX1_priceBesideColumns 9 = .ok (.goto 4, 3) := by decide +kernel
theorem dX1_priceBesideColumns_12 : decode cX1_priceBesideColumns 12 = .ok (.iconst 3, 1) := by decide +kernel
theorem dX1_priceBesideColumns_13 : decode cX1_priceBesideColumns 13 = .ok (.istore_n 1, 1) := by decide +kernel
theorem dX1_priceBesideColumns_14 : decode cX1_priceBesideColumns 14 = .ok (.aload_n 0, 1) := by decide +kernel
theorem dX1_priceBesideColumns_15 : decode cX1_priceBesideColumns 15 = .ok (.getfield 35, 3) := by decide +kernel
theorem dX1_priceBesideColumns_18 : decode cX1_priceBesideColumns 18 = .ok (.ifCond .eq 21, 3) := by decide +kernel
theorem dX1_priceBesideColumns_21 : decode cX1_priceBesideColumns 21 = .ok (.iload_n 1, 1) := by decide +kernel
theorem dX1_priceBesideColumns_22 : decode cX1_priceBesideColumns 22 = .ok (.iconst 4, 1) := by decide +kernel
theorem dX1_priceBesideColumns_23 : decode cX1_priceBesideColumns 23 = .ok (.aload_n 0, 1) := by decide +kernel
theorem dX1_priceBesideColumns_24 : decode cX1_priceBesideColumns 24 = .ok (.invokevirtual 106, 3) := by decide +kernel
theorem dX1_priceBesideColumns_27 : decode cX1_priceBesideColumns 27 = .ok (.imul, 1) := by decide +kernel
theorem dX1_priceBesideColumns_28 : decode cX1_priceBesideColumns 28 = .ok (.bipush 8, 2) := by decide +kernel
theorem dX1_priceBesideColumns_30 : decode cX1_priceBesideColumns 30 = .ok (.aload_n 0, 1) := by decide +kernel
theorem dX1_priceBesideColumns_31 : decode cX1_priceBesideColumns 31 = .ok (.iconst 0, 1) := by decide +kernel
theorem dX1_priceBesideColumns_32 : decode cX1_priceBesideColumns 32 = .ok (.invokevirtual 109, 3) := by decide +kernel
theorem dX1_priceBesideColumns_35 : decode cX1_priceBesideColumns 35 = .ok (.imul, 1) := by decide +kernel
theorem dX1_priceBesideColumns_36 : decode cX1_priceBesideColumns 36 = .ok (.iadd, 1) := by decide +kernel
theorem dX1_priceBesideColumns_37 : decode cX1_priceBesideColumns 37 = .ok (.iadd, 1) := by decide +kernel
theorem dX1_priceBesideColumns_38 : decode cX1_priceBesideColumns 38 = .ok (.istore_n 1, 1) := by decide +kernel
theorem dX1_priceBesideColumns_39 : decode cX1_priceBesideColumns 39 = .ok (.iconst 0, 1) := by decide +kernel
theorem dX1_priceBesideColumns_40 : decode cX1_priceBesideColumns 40 = .ok (.istore_n 2, 1) := by decide +kernel
theorem dX1_priceBesideColumns_41 : decode cX1_priceBesideColumns 41 = .ok (.iload_n 2, 1) := by decide +kernel
theorem dX1_priceBesideColumns_42 : decode cX1_priceBesideColumns 42 = .ok (.aload_n 0, 1) := by decide +kernel
theorem dX1_priceBesideColumns_43 : decode cX1_priceBesideColumns 43 = .ok (.getfield 70, 3) := by decide +kernel
theorem dX1_priceBesideColumns_46 : decode cX1_priceBesideColumns 46 = .ok (.if_icmp .ge 31, 3) := by decide +kernel
theorem dX1_priceBesideColumns_49 : decode cX1_priceBesideColumns 49 = .ok (.aload_n 0, 1) := by decide +kernel
theorem dX1_priceBesideColumns_50 : decode cX1_priceBesideColumns 50 = .ok (.iload_n 2, 1) := by decide +kernel
theorem dX1_priceBesideColumns_51 : decode cX1_priceBesideColumns 51 = .ok (.invokevirtual 85, 3) := by decide +kernel
theorem dX1_priceBesideColumns_54 : decode cX1_priceBesideColumns 54 = .ok (.ifCond .eq 17, 3) := by decide +kernel
theorem dX1_priceBesideColumns_57 : decode cX1_priceBesideColumns 57 = .ok (.iload_n 1, 1) := by decide +kernel
theorem dX1_priceBesideColumns_58 : decode cX1_priceBesideColumns 58 = .ok (.bipush 30, 2) := by decide +kernel
theorem dX1_priceBesideColumns_60 : decode cX1_priceBesideColumns 60 = .ok (.bipush 8, 2) := by decide +kernel
theorem dX1_priceBesideColumns_62 : decode cX1_priceBesideColumns 62 = .ok (.aload_n 0, 1) := by decide +kernel
theorem dX1_priceBesideColumns_63 : decode cX1_priceBesideColumns 63 = .ok (.iload_n 2, 1) := by decide +kernel
theorem dX1_priceBesideColumns_64 : decode cX1_priceBesideColumns 64 = .ok (.invokevirtual 109, 3) := by decide +kernel
theorem dX1_priceBesideColumns_67 : decode cX1_priceBesideColumns 67 = .ok (.imul, 1) := by decide +kernel
theorem dX1_priceBesideColumns_68 : decode cX1_priceBesideColumns 68 = .ok (.iadd, 1) := by decide +kernel
theorem dX1_priceBesideColumns_69 : decode cX1_priceBesideColumns 69 = .ok (.iadd, 1) := by decide +kernel
theorem dX1_priceBesideColumns_70 : decode cX1_priceBesideColumns 70 = .ok (.istore_n 1, 1) := by decide +kernel
theorem dX1_priceBesideColumns_71 : decode cX1_priceBesideColumns 71 = .ok (.iinc 2 1, 3) := by decide +kernel
theorem dX1_priceBesideColumns_74 : decode cX1_priceBesideColumns 74 = .ok (.goto (-33), 3) := by decide +kernel
theorem dX1_priceBesideColumns_77 : decode cX1_priceBesideColumns 77 = .ok (.iload_n 1, 1) := by decide +kernel
theorem dX1_priceBesideColumns_78 : decode cX1_priceBesideColumns 78 = .ok (.ireturn, 1) := by decide +kernel
theorem dX1_bytesOf_0 : decode cX1_bytesOf 0 = .ok (.iload_n 1, 1) := by decide +kernel
theorem dX1_bytesOf_1 : decode cX1_bytesOf 1 = .ok (.ifCond .lt 11, 3) := by decide +kernel
theorem dX1_bytesOf_4 : decode cX1_bytesOf 4 = .ok (.iload_n 1, 1) := by decide +kernel
theorem dX1_bytesOf_5 : decode cX1_bytesOf 5 = .ok (.aload_n 0, 1) := by decide +kernel
theorem dX1_bytesOf_6 : decode cX1_bytesOf 6 = .ok (.getfield 70, 3) := by decide +kernel
theorem dX1_bytesOf_9 : decode cX1_bytesOf 9 = .ok (.if_icmp .lt 7, 3) := by decide +kernel
theorem dX1_bytesOf_12 : decode cX1_bytesOf 12 = .ok (.iconst 0, 1) := by decide +kernel
theorem dX1_bytesOf_13 : decode cX1_bytesOf 13 = .ok (.goto 28, 3) := by decide +kernel
theorem dX1_bytesOf_16 : decode cX1_bytesOf 16 = .ok (.aload_n 0, 1) := by decide +kernel
theorem dX1_bytesOf_17 : decode cX1_bytesOf 17 = .ok (.getfield 15, 3) := by decide +kernel
theorem dX1_bytesOf_20 : decode cX1_bytesOf 20 = .ok (.aload_n 0, 1) := by decide +kernel
theorem dX1_bytesOf_21 : decode cX1_bytesOf 21 = .ok (.getfield 18, 3) := by decide +kernel
theorem dX1_bytesOf_24 : decode cX1_bytesOf 24 = .ok (.iload_n 1, 1) := by decide +kernel
theorem dX1_bytesOf_25 : decode cX1_bytesOf 25 = .ok (.iconst 1, 1) := by decide +kernel
theorem dX1_bytesOf_26 : decode cX1_bytesOf 26 = .ok (.iadd, 1) := by decide +kernel
theorem dX1_bytesOf_27 : decode cX1_bytesOf 27 = .ok (.iaload, 1) := by decide +kernel
theorem dX1_bytesOf_28 : decode cX1_bytesOf 28 = .ok (.iaload, 1) := by decide +kernel
theorem dX1_bytesOf_29 : decode cX1_bytesOf 29 = .ok (.aload_n 0, 1) := by decide +kernel
theorem dX1_bytesOf_30 : decode cX1_bytesOf 30 = .ok (.getfield 15, 3) := by decide +kernel
theorem dX1_bytesOf_33 : decode cX1_bytesOf 33 = .ok (.aload_n 0, 1) := by decide +kernel
theorem dX1_bytesOf_34 : decode cX1_bytesOf 34 = .ok (.getfield 18, 3) := by decide +kernel
theorem dX1_bytesOf_37 : decode cX1_bytesOf 37 = .ok (.iload_n 1, 1) := by decide +kernel
theorem dX1_bytesOf_38 : decode cX1_bytesOf 38 = .ok (.iaload, 1) := by decide +kernel
theorem dX1_bytesOf_39 : decode cX1_bytesOf 39 = .ok (.iaload, 1) := by decide +kernel
theorem dX1_bytesOf_40 : decode cX1_bytesOf 40 = .ok (.isub, 1) := by decide +kernel
theorem dX1_bytesOf_41 : decode cX1_bytesOf 41 = .ok (.ireturn, 1) := by decide +kernel
