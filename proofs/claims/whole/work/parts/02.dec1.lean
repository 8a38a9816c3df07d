theorem dX0_init_0 : decode cX0_init 0 = .ok (.aload_n 0, 1) := by decide +kernel
theorem dX0_init_1 : decode cX0_init 1 = .ok (.invokespecial 3, 3) := by decide +kernel
theorem dX0_init_4 : decode cX0_init 4 = .ok (.aload_n 0, 1) := by decide +kernel
theorem dX0_init_5 : decode cX0_init 5 = .ok (.bipush 12, 2) := by decide +kernel
theorem dX0_init_7 : decode cX0_init 7 = .ok (.newarray .int, 2) := by decide +kernel
theorem dX0_init_9 : decode cX0_init 9 = .ok (.putfield 9, 3) := by decide +kernel
theorem dX0_init_12 : decode cX0_init 12 = .ok (.aload_n 0, 1) := by decide +kernel
theorem dX0_init_13 : decode cX0_init 13 = .ok (.iconst 0, 1) := by decide +kernel
theorem dX0_init_14 : decode cX0_init 14 = .ok (.putfield 15, 3) := by decide +kernel
theorem dX0_init_17 : decode cX0_init 17 = .ok (.aload_n 0, 1) := by decide +kernel
theorem dX0_init_18 : decode cX0_init 18 = .ok (.iconst 0, 1) := by decide +kernel
theorem dX0_init_19 : decode cX0_init 19 = .ok (.putfield 19, 3) := by decide +kernel
theorem dX0_init_22 : decode cX0_init 22 = .ok (.aload_n 0, 1) := by decide +kernel
theorem dX0_init_23 : decode cX0_init 23 = .ok (.iconst 0, 1) := by decide +kernel
theorem dX0_init_24 : decode cX0_init 24 = .ok (.putfield 22, 3) := by decide +kernel
theorem dX0_init_27 : decode cX0_init 27 = .ok (.aload_n 0, 1) := by decide +kernel
theorem dX0_init_28 : decode cX0_init 28 = .ok (.iconst 0, 1) := by decide +kernel
theorem dX0_init_29 : decode cX0_init 29 = .ok (.putfield 25, 3) := by decide +kernel
theorem dX0_init_32 : decode cX0_init 32 = .ok (.aload_n 0, 1) := by decide +kernel
theorem dX0_init_33 : decode cX0_init 33 = .ok (.bipush 10, 2) := by decide +kernel
theorem dX0_init_35 : decode cX0_init 35 = .ok (.putfield 28, 3) := by decide +kernel
theorem dX0_init_38 : decode cX0_init 38 = .ok (.aload_n 0, 1) := by decide +kernel
theorem dX0_init_39 : decode cX0_init 39 = .ok (.iconst 5, 1) := by decide +kernel
theorem dX0_init_40 : decode cX0_init 40 = .ok (.putfield 31, 3) := by decide +kernel
theorem dX0_init_43 : decode cX0_init 43 = .ok (.aload_n 0, 1) := by decide +kernel
theorem dX0_init_44 : decode cX0_init 44 = .ok (.iconst 1, 1) := by decide +kernel
theorem dX0_init_45 : decode cX0_init 45 = .ok (.putfield 34, 3) := by decide +kernel
theorem dX0_init_48 : decode cX0_init 48 = .ok (.aload_n 0, 1) := by decide +kernel
theorem dX0_init_49 : decode cX0_init 49 = .ok (.iconst 4, 1) := by decide +kernel
theorem dX0_init_50 : decode cX0_init 50 = .ok (.newarray .int, 2) := by decide +kernel
theorem dX0_init_52 : decode cX0_init 52 = .ok (.putfield 37, 3) := by decide +kernel
theorem dX0_init_55 : decode cX0_init 55 = .ok (.aload_n 0, 1) := by decide +kernel
theorem dX0_init_56 : decode cX0_init 56 = .ok (.iconst 0, 1) := by decide +kernel
theorem dX0_init_57 : decode cX0_init 57 = .ok (.putfield 40, 3) := by decide +kernel
theorem dX0_init_60 : decode cX0_init 60 = .ok (.aload_n 0, 1) := by decide +kernel
theorem dX0_init_61 : decode cX0_init 61 = .ok (.iconst 0, 1) := by decide +kernel
theorem dX0_init_62 : decode cX0_init 62 = .ok (.putfield 43, 3) := by decide +kernel
theorem dX0_init_65 : decode cX0_init 65 = .ok (.aload_n 0, 1) := by decide +kernel
theorem dX0_init_66 : decode cX0_init 66 = .ok (.iconst (-1), 1) := by decide +kernel
theorem dX0_init_67 : decode cX0_init 67 = .ok (.putfield 46, 3) := by decide +kernel
theorem dX0_init_70 : decode cX0_init 70 = .ok (.aload_n 0, 1) := by decide +kernel
theorem dX0_init_71 : decode cX0_init 71 = .ok (.iload_n 1, 1) := by decide +kernel
theorem dX0_init_72 : decode cX0_init 72 = .ok (.putfield 49, 3) := by decide +kernel
theorem dX0_init_75 : decode cX0_init 75 = .ok (.return_, 1) := by decide +kernel
theorem dX0_takeLog_0 : decode cX0_takeLog 0 = .ok (.aload_n 0, 1) := by decide +kernel
theorem dX0_takeLog_1 : decode cX0_takeLog 1 = .ok (.getfield 15, 3) := by decide +kernel
theorem dX0_takeLog_4 : decode cX0_takeLog 4 = .ok (.istore_n 3, 1) := by decide +kernel
theorem dX0_takeLog_5 : decode cX0_takeLog 5 = .ok (.aload_n 0, 1) := by decide +kernel
theorem dX0_takeLog_6 : decode cX0_takeLog 6 = .ok (.iload_n 2, 1) := by decide +kernel
theorem dX0_takeLog_7 : decode cX0_takeLog 7 = .ok (.bipush 12, 2) := by decide +kernel
theorem dX0_takeLog_9 : decode cX0_takeLog 9 = .ok (.invokestatic 52, 3) := by decide +kernel
theorem dX0_takeLog_12 : decode cX0_takeLog 12 = .ok (.putfield 15, 3) := by decide +kernel
theorem dX0_takeLog_15 : decode cX0_takeLog 15 = .ok (.aload_n 0, 1) := by decide +kernel
theorem dX0_takeLog_16 : decode cX0_takeLog 16 = .ok (.iconst 0, 1) := by decide +kernel
theorem dX0_takeLog_17 : decode cX0_takeLog 17 = .ok (.putfield 19, 3) := by decide +kernel
theorem dX0_takeLog_20 : decode cX0_takeLog 20 = .ok (.iconst 0, 1) := by decide +kernel
theorem dX0_takeLog_21 : decode cX0_takeLog 21 = .ok (.istore 4, 2) := by decide +kernel
theorem dX0_takeLog_23 : decode cX0_takeLog 23 = .ok (.iload 4, 2) := by decide +kernel
theorem dX0_takeLog_25 : decode cX0_takeLog 25 = .ok (.aload_n 0, 1) := by decide +kernel
theorem dX0_takeLog_26 : decode cX0_takeLog 26 = .ok (.getfield 15, 3) := by decide +kernel
theorem dX0_takeLog_29 : decode cX0_takeLog 29 = .ok (.if_icmp .ge 59, 3) := by decide +kernel
theorem dX0_takeLog_32 : decode cX0_takeLog 32 = .ok (.aload_n 1, 1) := by decide +kernel
theorem dX0_takeLog_33 : decode cX0_takeLog 33 = .ok (.iload 4, 2) := by decide +kernel
theorem dX0_takeLog_35 : decode cX0_takeLog 35 = .ok (.invokevirtual 58, 3) := by decide +kernel
theorem dX0_takeLog_38 : decode cX0_takeLog 38 = .ok (.istore 5, 2) := by decide +kernel
theorem dX0_takeLog_40 : decode cX0_takeLog 40 = .ok (.aload_n 0, 1) := by decide +kernel
theorem dX0_takeLog_41 : decode cX0_takeLog 41 = .ok (.getfield 9, 3) := by decide +kernel
theorem dX0_takeLog_44 : decode cX0_takeLog 44 = .ok (.iload 4, 2) := by decide +kernel
theorem dX0_takeLog_46 : decode cX0_takeLog 46 = .ok (.iload 5, 2) := by decide +kernel
theorem dX0_takeLog_48 : decode cX0_takeLog 48 = .ok (.ifCond .eq 13, 3) := by decide +kernel
theorem dX0_takeLog_51 : decode cX0_takeLog 51 = .ok (.aload_n 1, 1) := by decide +kernel
theorem dX0_takeLog_52 : decode cX0_takeLog 52 = .ok (.getfield 64, 3) := by decide +kernel
theorem dX0_takeLog_55 : decode cX0_takeLog 55 = .ok (.iload 4, 2) := by decide +kernel
theorem dX0_takeLog_57 : decode cX0_takeLog 57 = .ok (.iaload, 1) := by decide +kernel
theorem dX0_takeLog_58 : decode cX0_takeLog 58 = .ok (.goto 4, 3) := by decide +kernel
theorem dX0_takeLog_61 : decode cX0_takeLog 61 = .ok (.iconst (-1), 1) := by decide +kernel
theorem dX0_takeLog_62 : decode cX0_takeLog 62 = .ok (.iastore, 1) := by decide +kernel
theorem dX0_takeLog_63 : decode cX0_takeLog 63 = .ok (.aload_n 0, 1) := by decide +kernel
theorem dX0_takeLog_64 : decode cX0_takeLog 64 = .ok (.dup, 1) := by decide +kernel
theorem dX0_takeLog_65 : decode cX0_takeLog 65 = .ok (.getfield 19, 3) := by decide +kernel
theorem dX0_takeLog_68 : decode cX0_takeLog 68 = .ok (.iload 5, 2) := by decide +kernel
theorem dX0_takeLog_70 : decode cX0_takeLog 70 = .ok (.ifCond .eq 7, 3) := by decide +kernel
theorem dX0_takeLog_73 : decode cX0_takeLog 73 = .ok (.iconst 0, 1) := by decide +kernel
theorem dX0_takeLog_74 : decode cX0_takeLog 74 = .ok (.goto 4, 3) := by decide +kernel
theorem dX0_takeLog_77 : decode cX0_takeLog 77 = .ok (.iconst 1, 1) := by decide +kernel
theorem dX0_takeLog_78 : decode cX0_takeLog 78 = .ok (.iadd, 1) := by decide +kernel
theorem dX0_takeLog_79 : decode cX0_takeLog 79 = .ok (.putfield 19, 3) := by decide +kernel
theorem dX0_takeLog_82 : decode cX0_takeLog 82 = .ok (.iinc 4 1, 3) := by decide +kernel
theorem dX0_takeLog_85 : decode cX0_takeLog 85 = .ok (.goto (-62), 3) := by decide +kernel
theorem dX0_takeLog_88 : decode cX0_takeLog 88 = .ok (.aload_n 0, 1) := by decide +kernel
theorem dX0_takeLog_89 : decode cX0_takeLog 89 = .ok (.iconst (-1), 1) := by decide +kernel
theorem dX0_takeLog_90 : decode cX0_takeLog 90 = .ok (.putfield 46, 3) := by decide +kernel
theorem dX0_takeLog_93 : decode cX0_takeLog 93 = .ok (.iload_n 3, 1) := by decide +kernel
theorem dX0_takeLog_94 : decode cX0_takeLog 94 = .ok (.ireturn, 1) := by decide +kernel
theorem dX0_isShort_0 : decode cX0_isShort 0 = .ok (.aload_n 0, 1) := by decide +kernel
theorem dX0_isShort_1 : decode cX0_isShort 1 = .ok (.getfield 25, 3) := by decide +kernel
theorem dX0_isShort_4 : decode cX0_isShort 4 = .ok (.aload_n 0, 1) := by decide +kernel
theorem dX0_isShort_5 : decode cX0_isShort 5 = .ok (.getfield 22, 3) := by decide +kernel
theorem dX0_isShort_8 : decode cX0_isShort 8 = .ok (.if_icmp .le 7, 3) := by decide +kernel
theorem dX0_isShort_11 : decode cX0_isShort 11 = .ok (.iconst 1, 1) := by decide +kernel
theorem dX0_isShort_12 : decode cX0_isShort 12 = .ok (.goto 4, 3) := by decide +kernel
theorem dX0_isShort_15 : decode cX0_isShort 15 = .ok (.iconst 0, 1) := by decide +kernel
theorem dX0_isShort_16 : decode cX0_isShort 16 = .ok (.ireturn, 1) := by decide +kernel
theorem dX0_told_0 : decode cX0_told 0 = .ok (.iload_n 1, 1) := by decide +kernel
theorem dX0_told_1 : decode cX0_told 1 = .ok (.tableswitch 104 0 8 #[51, 56, 61, 66, 71, 76, 89, 94, 99], 51) := by decide +kernel
theorem dX0_told_52 : decode cX0_told 52 = .ok (.aload_n 0, 1) := by decide +kernel
theorem dX0_told_53 : decode cX0_told 53 = .ok (.getfield 49, 3) := by decide +kernel
theorem dX0_told_56 : decode cX0_told 56 = .ok (.ireturn, 1) := by decide +kernel
theorem dX0_told_57 : decode cX0_told 57 = .ok (.aload_n 0, 1) := by decide +kernel
theorem dX0_told_58 : decode cX0_told 58 = .ok (.getfield 15, 3) := by decide +kernel
theorem dX0_told_61 : decode cX0_told 61 = .ok (.ireturn, 1) := by decide +kernel
theorem dX0_told_62 : decode cX0_told 62 = .ok (.aload_n 0, 1) := by decide +kernel
theorem dX0_told_63 : decode cX0_told 63 = .ok (.getfield 19, 3) := by decide +kernel
theorem dX0_told_66 : decode cX0_told 66 = .ok (.ireturn, 1) := by decide +kernel
theorem dX0_told_67 : decode cX0_told 67 = .ok (.aload_n 0, 1) := by decide +kernel
theorem dX0_told_68 : decode cX0_told 68 = .ok (.getfield 22, 3) := by decide +kernel
theorem dX0_told_71 : decode cX0_told 71 = .ok (.ireturn, 1) := by decide +kernel
theorem dX0_told_72 : decode cX0_told 72 = .ok (.aload_n 0, 1) := by decide +kernel
theorem dX0_told_73 : decode cX0_told 73 = .ok (.getfield 25, 3) := by decide +kernel
theorem dX0_told_76 : decode cX0_told 76 = .ok (.ireturn, 1) := by decide +kernel
theorem dX0_told_77 : decode cX0_told 77 = .ok (.aload_n 0, 1) := by decide +kernel
theorem dX0_told_78 : decode cX0_told 78 = .ok (.invokevirtual 67, 3) := by decide +kernel
theorem dX0_told_81 : decode cX0_told 81 = .ok (.ifCond .eq 7, 3) := by decide +kernel
theorem dX0_told_84 : decode cX0_told 84 = .ok (.iconst 1, 1) := by decide +kernel
theorem dX0_told_85 : decode cX0_told 85 = .ok (.goto 4, 3) := by decide +kernel
theorem dX0_told_88 : decode cX0_told 88 = .ok (.iconst 0, 1) := by decide +kernel
theorem dX0_told_89 : decode cX0_told 89 = .ok (.ireturn, 1) := by decide +kernel
theorem dX0_told_90 : decode cX0_told 90 = .ok (.aload_n 0, 1) := by decide +kernel
theorem dX0_told_91 : decode cX0_told 91 = .ok (.getfield 28, 3) := by decide +kernel
theorem dX0_told_94 : decode cX0_told 94 = .ok (.ireturn, 1) := by decide +kernel
theorem dX0_told_95 : decode cX0_told 95 = .ok (.aload_n 0, 1) := by decide +kernel
theorem dX0_told_96 : decode cX0_told 96 = .ok (.getfield 31, 3) := by decide +kernel
theorem dX0_told_99 : decode cX0_told 99 = .ok (.ireturn, 1) := by decide +kernel
theorem dX0_told_100 : decode cX0_told 100 = .ok (.aload_n 0, 1) := by decide +kernel
theorem dX0_told_101 : decode cX0_told 101 = .ok (.getfield 34, 3) := by decide +kernel
theorem dX0_told_104 : decode cX0_told 104 = .ok (.ireturn, 1) := by decide +kernel
theorem dX0_told_105 : decode cX0_told 105 = .ok (.sipush (-1000), 3) := by decide +kernel
theorem dX0_told_108 : decode cX0_told 108 = .ok (.ireturn, 1) := by decide +kernel
theorem dX0_change_0 : decode cX0_change 0 = .ok (.bipush (-2), 2) := by decide +kernel
theorem dX0_change_2 : decode cX0_change 2 = .ok (.istore_n 3, 1) := by decide +kernel
theorem dX0_change_3 : decode cX0_change 3 = .ok (.iload_n 1, 1) := by decide +kernel
theorem dX0_change_4 : decode cX0_change 4 = .ok (.ifCond .ne 26, 3) := by decide +kernel
theorem dX0_change_7 : decode cX0_change 7 = .ok (.iload_n 2, 1) := by decide +kernel
theorem dX0_change_8 : decode cX0_change 8 = .ok (.ifCond .lt 22, 3) := by decide +kernel
theorem dX0_change_11 : decode cX0_change 11 = .ok (.iload_n 2, 1) := by decide +kernel
theorem dX0_change_12 : decode cX0_change 12 = .ok (.bipush 99, 2) := by decide +kernel
theorem dX0_change_14 : decode cX0_change 14 = .ok (.if_icmp .gt 16, 3) := by decide +kernel
theorem dX0_change_17 : decode cX0_change 17 = .ok (.aload_n 0, 1) := by decide +kernel
theorem dX0_change_18 : decode cX0_change 18 = .ok (.getfield 28, 3) := by decide +kernel
theorem dX0_change_21 : decode cX0_change 21 = .ok (.istore_n 3, 1) := by decide +kernel
theorem dX0_change_22 : decode cX0_change 22 = .ok (.aload_n 0, 1) := by decide +kernel
theorem dX0_change_23 : decode cX0_change 23 = .ok (.iload_n 2, 1) := by decide +kernel
theorem dX0_change_24 : decode cX0_change 24 = .ok (.putfield 28, 3) := by decide +kernel
theorem dX0_change_27 : decode cX0_change 27 = .ok (.goto 57, 3) := by decide +kernel
theorem dX0_change_30 : decode cX0_change 30 = .ok (.iload_n 1, 1) := by decide +kernel
theorem dX0_change_31 : decode cX0_change 31 = .ok (.iconst 1, 1) := by decide +kernel
theorem dX0_change_32 : decode cX0_change 32 = .ok (.if_icmp .ne 27, 3) := by decide +kernel
theorem dX0_change_35 : decode cX0_change 35 = .ok (.iload_n 2, 1) := by decide +kernel
theorem dX0_change_36 : decode cX0_change 36 = .ok (.iconst 1, 1) := by decide +kernel
theorem dX0_change_37 : decode cX0_change 37 = .ok (.if_icmp .lt 22, 3) := by decide +kernel
theorem dX0_change_40 : decode cX0_change 40 = .ok (.iload_n 2, 1) := by decide +kernel
theorem dX0_change_41 : decode cX0_change 41 = .ok (.bipush 50, 2) := by decide +kernel
theorem dX0_change_43 : decode cX0_change 43 = .ok (.if_icmp .gt 16, 3) := by decide +kernel
theorem dX0_change_46 : decode cX0_change 46 = .ok (.aload_n 0, 1) := by decide +kernel
theorem dX0_change_47 : decode cX0_change 47 = .ok (.getfield 31, 3) := by decide +kernel
theorem dX0_change_50 : decode cX0_change 50 = .ok (.istore_n 3, 1) := by decide +kernel
theorem dX0_change_51 : decode cX0_change 51 = .ok (.aload_n 0, 1) := by decide +kernel
theorem dX0_change_52 : decode cX0_change 52 = .ok (.iload_n 2, 1) := by decide +kernel
theorem dX0_change_53 : decode cX0_change 53 = .ok (.putfield 31, 3) := by decide +kernel
theorem dX0_change_56 : decode cX0_change 56 = .ok (.goto 28, 3) := by decide +kernel
theorem dX0_change_59 : decode cX0_change 59 = .ok (.iload_n 1, 1) := by decide +kernel
theorem dX0_change_60 : decode cX0_change 60 = .ok (.iconst 2, 1) := by decide +kernel
theorem dX0_change_61 : decode cX0_change 61 = .ok (.if_icmp .ne 23, 3) := by decide +kernel
theorem dX0_change_64 : decode cX0_change 64 = .ok (.iload_n 2, 1) := by decide +kernel
theorem dX0_change_65 : decode cX0_change 65 = .ok (.ifCond .lt 19, 3) := by decide +kernel
theorem dX0_change_68 : decode cX0_change 68 = .ok (.iload_n 2, 1) := by decide +kernel
theorem dX0_change_69 : decode cX0_change 69 = .ok (.bipush 50, 2) := by decide +kernel
theorem dX0_change_71 : decode cX0_change 71 = .ok (.if_icmp .gt 13, 3) := by decide +kernel
theorem dX0_change_74 : decode cX0_change 74 = .ok (.aload_n 0, 1) := by decide +kernel
theorem dX0_change_75 : decode cX0_change 75 = .ok (.getfield 34, 3) := by decide +kernel
theorem dX0_change_78 : decode cX0_change 78 = .ok (.istore_n 3, 1) := by decide +kernel
theorem dX0_change_79 : decode cX0_change 79 = .ok (.aload_n 0, 1) := by decide +kernel
theorem dX0_change_80 : decode cX0_change 80 = .ok (.iload_n 2, 1) := by decide +kernel
theorem dX0_change_81 : decode cX0_change 81 = .ok (.putfield 34, 3) := by decide +kernel
theorem dX0_change_84 : decode cX0_change 84 = .ok (.iload_n 3, 1) := by decide +kernel
theorem dX0_change_85 : decode cX0_change 85 = .ok (.ireturn, 1) := by decide +kernel
theorem dX0_hasLostFrom_0 : decode cX0_hasLostFrom 0 = .ok (.iload_n 1, 1) := by decide +kernel
theorem dX0_hasLostFrom_1 : decode cX0_hasLostFrom 1 = .ok (.iconst 0, 1) := by decide +kernel
theorem dX0_hasLostFrom_2 : decode cX0_hasLostFrom 2 = .ok (.invokestatic 71, 3) := by decide +kernel
theorem dX0_hasLostFrom_5 : decode cX0_hasLostFrom 5 = .ok (.istore_n 2, 1) := by decide +kernel
theorem dX0_hasLostFrom_6 : decode cX0_hasLostFrom 6 = .ok (.iload_n 2, 1) := by decide +kernel
theorem dX0_hasLostFrom_7 : decode cX0_hasLostFrom 7 = .ok (.aload_n 0, 1) := by decide +kernel
theorem dX0_hasLostFrom_8 : decode cX0_hasLostFrom 8 = .ok (.getfield 15, 3) := by decide +kernel
theorem dX0_hasLostFrom_11 : decode cX0_hasLostFrom 11 = .ok (.if_icmp .ge 21, 3) := by decide +kernel
theorem dX0_hasLostFrom_14 : decode cX0_hasLostFrom 14 = .ok (.aload_n 0, 1) := by decide +kernel
theorem dX0_hasLostFrom_15 : decode cX0_hasLostFrom 15 = .ok (.getfield 9, 3) := by decide +kernel
theorem dX0_hasLostFrom_18 : decode cX0_hasLostFrom 18 = .ok (.iload_n 2, 1) := by decide +kernel
theorem dX0_hasLostFrom_19 : decode cX0_hasLostFrom 19 = .ok (.iaload, 1) := by decide +kernel
theorem dX0_hasLostFrom_20 : decode cX0_hasLostFrom 20 = .ok (.iconst (-1), 1) := by decide +kernel
theorem dX0_hasLostFrom_21 : decode cX0_hasLostFrom 21 = .ok (.if_icmp .ne 5, 3) := by decide +kernel
theorem dX0_hasLostFrom_24 : decode cX0_hasLostFrom 24 = .ok (.iconst 1, 1) := by decide +kernel
theorem dX0_hasLostFrom_25 : decode cX0_hasLostFrom 25 = .ok (.ireturn, 1) := by decide +kernel
theorem dX0_hasLostFrom_26 : decode cX0_hasLostFrom 26 = .ok (.iinc 2 1, 3) := by decide +kernel
theorem dX0_hasLostFrom_29 : decode cX0_hasLostFrom 29 = .ok (.goto (-23), 3) := by decide +kernel
theorem dX0_hasLostFrom_32 : decode cX0_hasLostFrom 32 = .ok (.iconst 0, 1) := by decide +kernel
theorem dX0_hasLostFrom_33 : decode cX0_hasLostFrom 33 = .ok (.ireturn, 1) := by decide +kernel
theorem dX0_holdsEndOf_0 : decode cX0_holdsEndOf 0 = .ok (.iconst 0, 1) := by decide +kernel
theorem dX0_holdsEndOf_1 : decode cX0_holdsEndOf 1 = .ok (.istore_n 3, 1) := by decide +kernel
theorem dX0_holdsEndOf_2 : decode cX0_holdsEndOf 2 = .ok (.iload_n 3, 1) := by decide +kernel
theorem dX0_holdsEndOf_3 : decode cX0_holdsEndOf 3 = .ok (.iload_n 2, 1) := by decide +kernel
theorem dX0_holdsEndOf_4 : decode cX0_holdsEndOf 4 = .ok (.iadd, 1) := by decide +kernel
theorem dX0_holdsEndOf_5 : decode cX0_holdsEndOf 5 = .ok (.aload_n 0, 1) := by decide +kernel
theorem dX0_holdsEndOf_6 : decode cX0_holdsEndOf 6 = .ok (.getfield 15, 3) := by decide +kernel
theorem dX0_holdsEndOf_9 : decode cX0_holdsEndOf 9 = .ok (.if_icmp .gt 21, 3) := by decide +kernel
theorem dX0_holdsEndOf_12 : decode cX0_holdsEndOf 12 = .ok (.aload_n 0, 1) := by decide +kernel
theorem dX0_holdsEndOf_13 : decode cX0_holdsEndOf 13 = .ok (.iload_n 3, 1) := by decide +kernel
theorem dX0_holdsEndOf_14 : decode cX0_holdsEndOf 14 = .ok (.aload_n 1, 1) := by decide +kernel
theorem dX0_holdsEndOf_15 : decode cX0_holdsEndOf 15 = .ok (.iload_n 2, 1) := by decide +kernel
theorem dX0_holdsEndOf_16 : decode cX0_holdsEndOf 16 = .ok (.invokevirtual 74, 3) := by decide +kernel
theorem dX0_holdsEndOf_19 : decode cX0_holdsEndOf 19 = .ok (.ifCond .eq 5, 3) := by decide +kernel
theorem dX0_holdsEndOf_22 : decode cX0_holdsEndOf 22 = .ok (.iconst 1, 1) := by decide +kernel
theorem dX0_holdsEndOf_23 : decode cX0_holdsEndOf 23 = .ok (.ireturn, 1) := by decide +kernel
theorem dX0_holdsEndOf_24 : decode cX0_holdsEndOf 24 = .ok (.iinc 3 1, 3) := by decide +kernel
theorem dX0_holdsEndOf_27 : decode cX0_holdsEndOf 27 = .ok (.goto (-25), 3) := by decide +kernel
theorem dX0_holdsEndOf_30 : decode cX0_holdsEndOf 30 = .ok (.iconst 0, 1) := by decide +kernel
theorem dX0_holdsEndOf_31 : decode cX0_holdsEndOf 31 = .ok (.ireturn, 1) := by decide +kernel
theorem dX0_holdsAt_0 : decode cX0_holdsAt 0 = .ok (.aload_n 2, 1) := by decide +kernel
theorem dX0_holdsAt_1 : decode cX0_holdsAt 1 = .ok (.getfield 15, 3) := by decide +kernel
theorem dX0_holdsAt_4 : decode cX0_holdsAt 4 = .ok (.iload_n 3, 1) := by decide +kernel
theorem dX0_holdsAt_5 : decode cX0_holdsAt 5 = .ok (.isub, 1) := by decide +kernel
theorem dX0_holdsAt_6 : decode cX0_holdsAt 6 = .ok (.istore 4, 2) := by decide +kernel
theorem dX0_holdsAt_8 : decode cX0_holdsAt 8 = .ok (.iload 4, 2) := by decide +kernel
theorem dX0_holdsAt_10 : decode cX0_holdsAt 10 = .ok (.ifCond .ge 5, 3) := by decide +kernel
theorem dX0_holdsAt_13 : decode cX0_holdsAt 13 = .ok (.iconst 0, 1) := by decide +kernel
theorem dX0_holdsAt_14 : decode cX0_holdsAt 14 = .ok (.ireturn, 1) := by decide +kernel
theorem dX0_holdsAt_15 : decode cX0_holdsAt 15 = .ok (.iconst 0, 1) := by decide +kernel
theorem dX0_holdsAt_16 : decode cX0_holdsAt 16 = .ok (.istore 5, 2) := by decide +kernel
theorem dX0_holdsAt_18 : decode cX0_holdsAt 18 = .ok (.iload 5, 2) := by decide +kernel
theorem dX0_holdsAt_20 : decode cX0_holdsAt 20 = .ok (.iload_n 3, 1) := by decide +kernel
theorem dX0_holdsAt_21 : decode cX0_holdsAt 21 = .ok (.if_icmp .ge 46, 3) := by decide +kernel
theorem dX0_holdsAt_24 : decode cX0_holdsAt 24 = .ok (.aload_n 0, 1) := by decide +kernel
theorem dX0_holdsAt_25 : decode cX0_holdsAt 25 = .ok (.getfield 9, 3) := by decide +kernel
theorem dX0_holdsAt_28 : decode cX0_holdsAt 28 = .ok (.iload_n 1, 1) := by decide +kernel
theorem dX0_holdsAt_29 : decode cX0_holdsAt 29 = .ok (.iload 5, 2) := by decide +kernel
theorem dX0_holdsAt_31 : decode cX0_holdsAt 31 = .ok (.iadd, 1) := by decide +kernel
theorem dX0_holdsAt_32 : decode cX0_holdsAt 32 = .ok (.iaload, 1) := by decide +kernel
theorem dX0_holdsAt_33 : decode cX0_holdsAt 33 = .ok (.iconst (-1), 1) := by decide +kernel
theorem dX0_holdsAt_34 : decode cX0_holdsAt 34 = .ok (.if_icmp .eq 27, 3) := by decide +kernel
theorem dX0_holdsAt_37 : decode cX0_holdsAt 37 = .ok (.aload_n 0, 1) := by decide +kernel
theorem dX0_holdsAt_38 : decode cX0_holdsAt 38 = .ok (.getfield 9, 3) := by decide +kernel
theorem dX0_holdsAt_41 : decode cX0_holdsAt 41 = .ok (.iload_n 1, 1) := by decide +kernel
theorem dX0_holdsAt_42 : decode cX0_holdsAt 42 = .ok (.iload 5, 2) := by decide +kernel
theorem dX0_holdsAt_44 : decode cX0_holdsAt 44 = .ok (.iadd, 1) := by decide +kernel
theorem dX0_holdsAt_45 : decode cX0_holdsAt 45 = .ok (.iaload, 1) := by decide +kernel
theorem dX0_holdsAt_46 : decode cX0_holdsAt 46 = .ok (.aload_n 2, 1) := by decide +kernel
theorem dX0_holdsAt_47 : decode cX0_holdsAt 47 = .ok (.getfield 9, 3) := by decide +kernel
theorem dX0_holdsAt_50 : decode cX0_holdsAt 50 = .ok (.iload 4, 2) := by decide +kernel
theorem dX0_holdsAt_52 : decode cX0_holdsAt 52 = .ok (.iload 5, 2) := by decide +kernel
theorem dX0_holdsAt_54 : decode cX0_holdsAt 54 = .ok (.iadd, 1) := by decide +kernel
theorem dX0_holdsAt_55 : decode cX0_holdsAt 55 = .ok (.iaload, 1) := by decide +kernel
theorem dX0_holdsAt_56 : decode cX0_holdsAt 56 = .ok (.if_icmp .eq 5, 3) := by decide +kernel
theorem dX0_holdsAt_59 : decode cX0_holdsAt 59 = .ok (.iconst 0, 1) := by decide +kernel
theorem dX0_holdsAt_60 : decode cX0_holdsAt 60 = .ok (.ireturn, 1) := by decide +kernel
theorem dX0_holdsAt_61 : decode cX0_holdsAt 61 = .ok (.iinc 5 1, 3) := by decide +kernel
theorem dX0_holdsAt_64 : decode cX0_holdsAt 64 = .ok (.goto (-46), 3) := by decide +kernel
theorem dX0_holdsAt_67 : decode cX0_holdsAt 67 = .ok (.iconst 1, 1) := by decide +kernel
theorem dX0_holdsAt_68 : decode cX0_holdsAt 68 = .ok (.ireturn, 1) := by decide +kernel
theorem dX1_init_0 : decode cX1_init 0 = .ok (.aload_n 0, 1) := by decide +kernel
theorem dX1_init_1 : decode cX1_init 1 = .ok (.invokespecial 3, 3) := by decide +kernel
theorem dX1_init_4 : decode cX1_init 4 = .ok (.aload_n 0, 1) := by decide +kernel
theorem dX1_init_5 : decode cX1_init 5 = .ok (.bipush 16, 2) := by decide +kernel
theorem dX1_init_7 : decode cX1_init 7 = .ok (.newarray .int, 2) := by decide +kernel
theorem dX1_init_9 : decode cX1_init 9 = .ok (.putfield 9, 3) := by decide +kernel
theorem dX1_init_12 : decode cX1_init 12 = .ok (.aload_n 0, 1) := by decide +kernel
theorem dX1_init_13 : decode cX1_init 13 = .ok (.bipush 16, 2) := by decide +kernel
theorem dX1_init_15 : decode cX1_init 15 = .ok (.newarray .int, 2) := by decide +kernel
theorem dX1_init_17 : decode cX1_init 17 = .ok (.putfield 15, 3) := by decide +kernel
theorem dX1_init_20 : decode cX1_init 20 = .ok (.aload_n 0, 1) := by decide +kernel
theorem dX1_init_21 : decode cX1_init 21 = .ok (.iconst 0, 1) := by decide +kernel
theorem dX1_init_22 : decode cX1_init 22 = .ok (.putfield 18, 3) := by decide +kernel
theorem dX1_init_25 : decode cX1_init 25 = .ok (.aload_n 0, 1) := by decide +kernel
theorem dX1_init_26 : decode cX1_init 26 = .ok (.sipush 255, 3) := by decide +kernel
theorem dX1_init_29 : decode cX1_init 29 = .ok (.putfield 22, 3) := by decide +kernel
theorem dX1_init_32 : decode cX1_init 32 = .ok (.return_, 1) := by decide +kernel
theorem dX1_add_0 : decode cX1_add 0 = .ok (.aload_n 0, 1) := by decide +kernel
theorem dX1_add_1 : decode cX1_add 1 = .ok (.getfield 18, 3) := by decide +kernel
theorem dX1_add_4 : decode cX1_add 4 = .ok (.bipush 16, 2) := by decide +kernel
theorem dX1_add_6 : decode cX1_add 6 = .ok (.if_icmp .lt 6, 3) := by decide +kernel
theorem dX1_add_9 : decode cX1_add 9 = .ok (.bipush (-4), 2) := by decide +kernel
theorem dX1_add_11 : decode cX1_add 11 = .ok (.ireturn, 1) := by decide +kernel
theorem dX1_add_12 : decode cX1_add 12 = .ok (.aload_n 0, 1) := by decide +kernel
theorem dX1_add_13 : decode cX1_add 13 = .ok (.getfield 9, 3) := by decide +kernel
theorem dX1_add_16 : decode cX1_add 16 = .ok (.aload_n 0, 1) := by decide +kernel
theorem dX1_add_17 : decode cX1_add 17 = .ok (.getfield 18, 3) := by decide +kernel
theorem dX1_add_20 : decode cX1_add 20 = .ok (.iload_n 1, 1) := by decide +kernel
theorem dX1_add_21 : decode cX1_add 21 = .ok (.iastore, 1) := by decide +kernel
theorem dX1_add_22 : decode cX1_add 22 = .ok (.aload_n 0, 1) := by decide +kernel
theorem dX1_add_23 : decode cX1_add 23 = .ok (.getfield 15, 3) := by decide +kernel
theorem dX1_add_26 : decode cX1_add 26 = .ok (.aload_n 0, 1) := by decide +kernel
theorem dX1_add_27 : decode cX1_add 27 = .ok (.getfield 18, 3) := by decide +kernel
theorem dX1_add_30 : decode cX1_add 30 = .ok (.iload_n 2, 1) := by decide +kernel
theorem dX1_add_31 : decode cX1_add 31 = .ok (.iastore, 1) := by decide +kernel
theorem dX1_add_32 : decode cX1_add 32 = .ok (.aload_n 0, 1) := by decide +kernel
theorem dX1_add_33 : decode cX1_add 33 = .ok (.dup, 1) := by decide +kernel
theorem dX1_add_34 : decode cX1_add 34 = .ok (.getfield 18, 3) := by decide +kernel
theorem dX1_add_37 : decode cX1_add 37 = .ok (.iconst 1, 1) := by decide +kernel
theorem dX1_add_38 : decode cX1_add 38 = .ok (.iadd, 1) := by decide +kernel
theorem dX1_add_39 : decode cX1_add 39 = .ok (.putfield 18, 3) := by decide +kernel
theorem dX1_add_42 : decode cX1_add 42 = .ok (.aload_n 0, 1) := by decide +kernel
theorem dX1_add_43 : decode cX1_add 43 = .ok (.getfield 18, 3) := by decide +kernel
theorem dX1_add_46 : decode cX1_add 46 = .ok (.iconst 1, 1) := by decide +kernel
theorem dX1_add_47 : decode cX1_add 47 = .ok (.isub, 1) := by decide +kernel
theorem dX1_add_48 : decode cX1_add 48 = .ok (.ireturn, 1) := by decide +kernel
theorem dX1_ledBackTo_0 : decode cX1_ledBackTo 0 = .ok (.iload_n 1, 1) := by decide +kernel
theorem dX1_ledBackTo_1 : decode cX1_ledBackTo 1 = .ok (.istore_n 2, 1) := by decide +kernel
theorem dX1_ledBackTo_2 : decode cX1_ledBackTo 2 = .ok (.iconst (-1), 1) := by decide +kernel
theorem dX1_ledBackTo_3 : decode cX1_ledBackTo 3 = .ok (.istore_n 3, 1) := by decide +kernel
theorem dX1_ledBackTo_4 : decode cX1_ledBackTo 4 = .ok (.iconst 0, 1) := by decide +kernel
theorem dX1_ledBackTo_5 : decode cX1_ledBackTo 5 = .ok (.istore 4, 2) := by decide +kernel
theorem dX1_ledBackTo_7 : decode cX1_ledBackTo 7 = .ok (.iload 4, 2) := by decide +kernel
theorem dX1_ledBackTo_9 : decode cX1_ledBackTo 9 = .ok (.bipush 16, 2) := by decide +kernel
theorem dX1_ledBackTo_11 : decode cX1_ledBackTo 11 = .ok (.if_icmp .gt 80, 3) := by decide +kernel
theorem dX1_ledBackTo_14 : decode cX1_ledBackTo 14 = .ok (.iload_n 2, 1) := by decide +kernel
theorem dX1_ledBackTo_15 : decode cX1_ledBackTo 15 = .ok (.iload_n 3, 1) := by decide +kernel
theorem dX1_ledBackTo_16 : decode cX1_ledBackTo 16 = .ok (.if_icmp .eq 75, 3) := by decide +kernel
theorem dX1_ledBackTo_19 : decode cX1_ledBackTo 19 = .ok (.iload_n 2, 1) := by decide +kernel
theorem dX1_ledBackTo_20 : decode cX1_ledBackTo 20 = .ok (.istore_n 3, 1) := by decide +kernel
theorem dX1_ledBackTo_21 : decode cX1_ledBackTo 21 = .ok (.iconst 0, 1) := by decide +kernel
theorem dX1_ledBackTo_22 : decode cX1_ledBackTo 22 = .ok (.istore 5, 2) := by decide +kernel
theorem dX1_ledBackTo_24 : decode cX1_ledBackTo 24 = .ok (.iload 5, 2) := by decide +kernel
theorem dX1_ledBackTo_26 : decode cX1_ledBackTo 26 = .ok (.aload_n 0, 1) := by decide +kernel
theorem dX1_ledBackTo_27 : decode cX1_ledBackTo 27 = .ok (.getfield 18, 3) := by decide +kernel
theorem dX1_ledBackTo_30 : decode cX1_ledBackTo 30 = .ok (.if_icmp .ge 55, 3) := by decide +kernel
theorem dX1_ledBackTo_33 : decode cX1_ledBackTo 33 = .ok (.aload_n 0, 1) := by decide +kernel
theorem dX1_ledBackTo_34 : decode cX1_ledBackTo 34 = .ok (.getfield 9, 3) := by decide +kernel
theorem dX1_ledBackTo_37 : decode cX1_ledBackTo 37 = .ok (.iload 5, 2) := by decide +kernel
theorem dX1_ledBackTo_39 : decode cX1_ledBackTo 39 = .ok (.iaload, 1) := by decide +kernel
theorem dX1_ledBackTo_40 : decode cX1_ledBackTo 40 = .ok (.iload_n 2, 1) := by decide +kernel
theorem dX1_ledBackTo_41 : decode cX1_ledBackTo 41 = .ok (.iconst (-1), 1) := by decide +kernel
theorem dX1_ledBackTo_42 : decode cX1_ledBackTo 42 = .ok (.ixor, 1) := by decide +kernel
theorem dX1_ledBackTo_43 : decode cX1_ledBackTo 43 = .ok (.iand, 1) := by decide +kernel
theorem dX1_ledBackTo_44 : decode cX1_ledBackTo 44 = .ok (.ifCond .ne 35, 3) := by decide +kernel
theorem dX1_ledBackTo_47 : decode cX1_ledBackTo 47 = .ok (.aload_n 0, 1) := by decide +kernel
theorem dX1_ledBackTo_48 : decode cX1_ledBackTo 48 = .ok (.getfield 15, 3) := by decide +kernel
theorem dX1_ledBackTo_51 : decode cX1_ledBackTo 51 = .ok (.iload 5, 2) := by decide +kernel
theorem dX1_ledBackTo_53 : decode cX1_ledBackTo 53 = .ok (.iaload, 1) := by decide +kernel
theorem dX1_ledBackTo_54 : decode cX1_ledBackTo 54 = .ok (.ifCond .eq 15, 3) := by decide +kernel
theorem dX1_ledBackTo_57 : decode cX1_ledBackTo 57 = .ok (.aload_n 0, 1) := by decide +kernel
theorem dX1_ledBackTo_58 : decode cX1_ledBackTo 58 = .ok (.getfield 15, 3) := by decide +kernel
theorem dX1_ledBackTo_61 : decode cX1_ledBackTo 61 = .ok (.iload 5, 2) := by decide +kernel
theorem dX1_ledBackTo_63 : decode cX1_ledBackTo 63 = .ok (.iaload, 1) := by decide +kernel
theorem dX1_ledBackTo_64 : decode cX1_ledBackTo 64 = .ok (.iload_n 2, 1) := by decide +kernel
theorem dX1_ledBackTo_65 : decode cX1_ledBackTo 65 = .ok (.iand, 1) := by decide +kernel
theorem dX1_ledBackTo_66 : decode cX1_ledBackTo 66 = .ok (.ifCond .eq 13, 3) := by decide +kernel
theorem dX1_ledBackTo_69 : decode cX1_ledBackTo 69 = .ok (.iload_n 2, 1) := by decide +kernel
theorem dX1_ledBackTo_70 : decode cX1_ledBackTo 70 = .ok (.iconst 1, 1) := by decide +kernel
theorem dX1_ledBackTo_71 : decode cX1_ledBackTo 71 = .ok (.bipush 8, 2) := by decide +kernel
theorem dX1_ledBackTo_73 : decode cX1_ledBackTo 73 = .ok (.iload 5, 2) := by decide +kernel
theorem dX1_ledBackTo_75 : decode cX1_ledBackTo 75 = .ok (.iadd, 1) := by decide +kernel
theorem dX1_ledBackTo_76 : decode cX1_ledBackTo 76 = .ok (.ishl, 1) := by decide +kernel
theorem dX1_ledBackTo_77 : decode cX1_ledBackTo 77 = .ok (.ior, 1) := by decide +kernel
theorem dX1_ledBackTo_78 : decode cX1_ledBackTo 78 = .ok (.istore_n 2, 1) := by decide +kernel
theorem dX1_ledBackTo_79 : decode cX1_ledBackTo 79 = .ok (.iinc 5 1, 3) := by decide +kernel
theorem dX1_ledBackTo_82 : decode cX1_ledBackTo 82 = .ok (.goto (-58), 3) := by decide +kernel
theorem dX1_ledBackTo_85 : decode cX1_ledBackTo 85 = .ok (.iinc 4 1, 3) := by decide +kernel
theorem dX1_ledBackTo_88 : decode cX1_ledBackTo 88 = .ok (.goto (-81), 3) := by decide +kernel
theorem dX1_ledBackTo_91 : decode cX1_ledBackTo 91 = .ok (.iload_n 2, 1) := by decide +kernel
theorem dX1_ledBackTo_92 : decode cX1_ledBackTo 92 = .ok (.bipush 8, 2) := by decide +kernel
theorem dX1_ledBackTo_94 : decode cX1_ledBackTo 94 = .ok (.ishr, 1) := by decide +kernel
theorem dX1_ledBackTo_95 : decode cX1_ledBackTo 95 = .ok (.ireturn, 1) := by decide +kernel
theorem dX2_init_0 : decode cX2_init 0 = .ok (.aload_n 0, 1) := by decide +kernel
theorem dX2_init_1 : decode cX2_init 1 = .ok (.invokespecial 3, 3) := by decide +kernel
theorem dX2_init_4 : decode cX2_init 4 = .ok (.aload_n 0, 1) := by decide +kernel
theorem dX2_init_5 : decode cX2_init 5 = .ok (.bipush 12, 2) := by decide +kernel
theorem dX2_init_7 : decode cX2_init 7 = .ok (.newarray .int, 2) := by decide +kernel
theorem dX2_init_9 : decode cX2_init 9 = .ok (.putfield 9, 3) := by decide +kernel
theorem dX2_init_12 : decode cX2_init 12 = .ok (.aload_n 0, 1) := by decide +kernel
theorem dX2_init_13 : decode cX2_init 13 = .ok (.iconst 3, 1) := by decide +kernel
theorem dX2_init_14 : decode cX2_init 14 = .ok (.newarray .int, 2) := by decide +kernel
theorem dX2_init_16 : decode cX2_init 16 = .ok (.putfield 15, 3) := by decide +kernel
theorem dX2_init_19 : decode cX2_init 19 = .ok (.aload_n 0, 1) := by decide +kernel
theorem dX2_init_20 : decode cX2_init 20 = .ok (.bipush 13, 2) := by decide +kernel
theorem dX2_init_22 : decode cX2_init 22 = .ok (.newarray .int, 2) := by decide +kernel
theorem dX2_init_24 : decode cX2_init 24 = .ok (.putfield 18, 3) := by decide +kernel
theorem dX2_init_27 : decode cX2_init 27 = .ok (.aload_n 0, 1) := by decide +kernel
theorem dX2_init_28 : decode cX2_init 28 = .ok (.bipush 13, 2) := by decide +kernel
theorem dX2_init_30 : decode cX2_init 30 = .ok (.bipush 78, 2) := by decide +kernel
theorem dX2_init_32 : decode cX2_init 32 = .ok (.multianewarray 21 2, 4) := by decide +kernel
theorem dX2_init_36 : decode cX2_init 36 = .ok (.putfield 23, 3) := by decide +kernel
theorem dX2_init_39 : decode cX2_init 39 = .ok (.aload_n 0, 1) := by decide +kernel
theorem dX2_init_40 : decode cX2_init 40 = .ok (.bipush 13, 2) := by decide +kernel
theorem dX2_init_42 : decode cX2_init 42 = .ok (.newarray .int, 2) := by decide +kernel
theorem dX2_init_44 : decode cX2_init 44 = .ok (.putfield 26, 3) := by decide +kernel
theorem dX2_init_47 : decode cX2_init 47 = .ok (.aload_n 0, 1) := by decide +kernel
theorem dX2_init_48 : decode cX2_init 48 = .ok (.bipush 8, 2) := by decide +kernel
theorem dX2_init_50 : decode cX2_init 50 = .ok (.newarray .int, 2) := by decide +kernel
theorem dX2_init_52 : decode cX2_init 52 = .ok (.putfield 29, 3) := by decide +kernel
theorem dX2_init_55 : decode cX2_init 55 = .ok (.aload_n 0, 1) := by decide +kernel
theorem dX2_init_56 : decode cX2_init 56 = .ok (.sipush 512, 3) := by decide +kernel
theorem dX2_init_59 : decode cX2_init 59 = .ok (.newarray .byte, 2) := by decide +kernel
theorem dX2_init_61 : decode cX2_init 61 = .ok (.putfield 32, 3) := by decide +kernel
theorem dX2_init_64 : decode cX2_init 64 = .ok (.aload_n 0, 1) := by decide +kernel
theorem dX2_init_65 : decode cX2_init 65 = .ok (.sipush 512, 3) := by decide +kernel
theorem dX2_init_68 : decode cX2_init 68 = .ok (.newarray .byte, 2) := by decide +kernel
theorem dX2_init_70 : decode cX2_init 70 = .ok (.putfield 36, 3) := by decide +kernel
theorem dX2_init_73 : decode cX2_init 73 = .ok (.aload_n 0, 1) := by decide +kernel
theorem dX2_init_74 : decode cX2_init 74 = .ok (.iconst 0, 1) := by decide +kernel
theorem dX2_init_75 : decode cX2_init 75 = .ok (.putfield 39, 3) := by decide +kernel
theorem dX2_init_78 : decode cX2_init 78 = .ok (.aload_n 0, 1) := by decide +kernel
theorem dX2_init_79 : decode cX2_init 79 = .ok (.iconst 0, 1) := by decide +kernel
theorem dX2_init_80 : decode cX2_init 80 = .ok (.putfield 43, 3) := by decide +kernel
theorem dX2_init_83 : decode cX2_init 83 = .ok (.aload_n 0, 1) := by decide +kernel
theorem dX2_init_84 : decode cX2_init 84 = .ok (.iconst 0, 1) := by decide +kernel
theorem dX2_init_85 : decode cX2_init 85 = .ok (.putfield 46, 3) := by decide +kernel
theorem dX2_init_88 : decode cX2_init 88 = .ok (.aload_n 0, 1) := by decide +kernel
theorem dX2_init_89 : decode cX2_init 89 = .ok (.iconst 0, 1) := by decide +kernel
theorem dX2_init_90 : decode cX2_init 90 = .ok (.putfield 49, 3) := by decide +kernel
theorem dX2_init_93 : decode cX2_init 93 = .ok (.return_, 1) := by decide +kernel
theorem dX2_judge_0 : decode cX2_judge 0 = .ok (.aload_n 0, 1) := by decide +kernel
theorem dX2_judge_1 : decode cX2_judge 1 = .ok (.aload_n 1, 1) := by decide +kernel
theorem dX2_judge_2 : decode cX2_judge 2 = .ok (.invokevirtual 52, 3) := by decide +kernel
theorem dX2_judge_5 : decode cX2_judge 5 = .ok (.aload_n 0, 1) := by decide +kernel
theorem dX2_judge_6 : decode cX2_judge 6 = .ok (.aload_n 2, 1) := by decide +kernel
theorem dX2_judge_7 : decode cX2_judge 7 = .ok (.getfield 56, 3) := by decide +kernel
theorem dX2_judge_10 : decode cX2_judge 10 = .ok (.invokevirtual 62, 3) := by decide +kernel
theorem dX2_judge_13 : decode cX2_judge 13 = .ok (.iconst 1, 1) := by decide +kernel
theorem dX2_judge_14 : decode cX2_judge 14 = .ok (.iconst 3, 1) := by decide +kernel
theorem dX2_judge_15 : decode cX2_judge 15 = .ok (.aload_n 0, 1) := by decide +kernel
theorem dX2_judge_16 : decode cX2_judge 16 = .ok (.getfield 43, 3) := by decide +kernel
theorem dX2_judge_19 : decode cX2_judge 19 = .ok (.imul, 1) := by decide +kernel
theorem dX2_judge_20 : decode cX2_judge 20 = .ok (.ishl, 1) := by decide +kernel
theorem dX2_judge_21 : decode cX2_judge 21 = .ok (.istore_n 3, 1) := by decide +kernel
theorem dX2_judge_22 : decode cX2_judge 22 = .ok (.aload_n 1, 1) := by decide +kernel
theorem dX2_judge_23 : decode cX2_judge 23 = .ok (.getfield 66, 3) := by decide +kernel
theorem dX2_judge_26 : decode cX2_judge 26 = .ok (.iconst 0, 1) := by decide +kernel
theorem dX2_judge_27 : decode cX2_judge 27 = .ok (.invokestatic 71, 3) := by decide +kernel
theorem dX2_judge_30 : decode cX2_judge 30 = .ok (.aload_n 1, 1) := by decide +kernel
theorem dX2_judge_31 : decode cX2_judge 31 = .ok (.getfield 66, 3) := by decide +kernel
theorem dX2_judge_34 : decode cX2_judge 34 = .ok (.iconst 0, 1) := by decide +kernel
theorem dX2_judge_35 : decode cX2_judge 35 = .ok (.iload_n 3, 1) := by decide +kernel
theorem dX2_judge_36 : decode cX2_judge 36 = .ok (.iastore, 1) := by decide +kernel
theorem dX2_judge_37 : decode cX2_judge 37 = .ok (.aload_n 1, 1) := by decide +kernel
theorem dX2_judge_38 : decode cX2_judge 38 = .ok (.iconst 0, 1) := by decide +kernel
theorem dX2_judge_39 : decode cX2_judge 39 = .ok (.putfield 77, 3) := by decide +kernel
theorem dX2_judge_42 : decode cX2_judge 42 = .ok (.iconst 0, 1) := by decide +kernel
theorem dX2_judge_43 : decode cX2_judge 43 = .ok (.istore 4, 2) := by decide +kernel
theorem dX2_judge_45 : decode cX2_judge 45 = .ok (.iload 4, 2) := by decide +kernel
theorem dX2_judge_47 : decode cX2_judge 47 = .ok (.iload_n 3, 1) := by decide +kernel
theorem dX2_judge_48 : decode cX2_judge 48 = .ok (.if_icmp .ge 108, 3) := by decide +kernel
theorem dX2_judge_51 : decode cX2_judge 51 = .ok (.aload_n 0, 1) := by decide +kernel
theorem dX2_judge_52 : decode cX2_judge 52 = .ok (.iload 4, 2) := by decide +kernel
theorem dX2_judge_54 : decode cX2_judge 54 = .ok (.invokevirtual 80, 3) := by decide +kernel
theorem dX2_judge_57 : decode cX2_judge 57 = .ok (.istore 5, 2) := by decide +kernel
theorem dX2_judge_59 : decode cX2_judge 59 = .ok (.iload 5, 2) := by decide +kernel
theorem dX2_judge_61 : decode cX2_judge 61 = .ok (.iload 4, 2) := by decide +kernel
theorem dX2_judge_63 : decode cX2_judge 63 = .ok (.if_icmp .ge 13, 3) := by decide +kernel
theorem dX2_judge_66 : decode cX2_judge 66 = .ok (.aload_n 0, 1) := by decide +kernel
theorem dX2_judge_67 : decode cX2_judge 67 = .ok (.getfield 32, 3) := by decide +kernel
theorem dX2_judge_70 : decode cX2_judge 70 = .ok (.iload 5, 2) := by decide +kernel
theorem dX2_judge_72 : decode cX2_judge 72 = .ok (.baload, 1) := by decide +kernel
theorem dX2_judge_73 : decode cX2_judge 73 = .ok (.goto 11, 3) := by decide +kernel
theorem dX2_judge_76 : decode cX2_judge 76 = .ok (.aload_n 0, 1) := by decide +kernel
theorem dX2_judge_77 : decode cX2_judge 77 = .ok (.iload 4, 2) := by decide +kernel
theorem dX2_judge_79 : decode cX2_judge 79 = .ok (.aload_n 1, 1) := by decide +kernel
theorem dX2_judge_80 : decode cX2_judge 80 = .ok (.aload_n 2, 1) := by decide +kernel
theorem dX2_judge_81 : decode cX2_judge 81 = .ok (.invokevirtual 84, 3) := by decide +kernel
theorem dX2_judge_84 : decode cX2_judge 84 = .ok (.istore 6, 2) := by decide +kernel
theorem dX2_judge_86 : decode cX2_judge 86 = .ok (.aload_n 0, 1) := by decide +kernel
theorem dX2_judge_87 : decode cX2_judge 87 = .ok (.getfield 32, 3) := by decide +kernel
theorem dX2_judge_90 : decode cX2_judge 90 = .ok (.iload 4, 2) := by decide +kernel
theorem dX2_judge_92 : decode cX2_judge 92 = .ok (.iload 6, 2) := by decide +kernel
theorem dX2_judge_94 : decode cX2_judge 94 = .ok (.i2b, 1) := by decide +kernel
theorem dX2_judge_95 : decode cX2_judge 95 = .ok (.bastore, 1) := by decide +kernel
theorem dX2_judge_96 : decode cX2_judge 96 = .ok (.aload_n 1, 1) := by decide +kernel
theorem dX2_judge_97 : decode cX2_judge 97 = .ok (.dup, 1) := by decide +kernel
theorem dX2_judge_98 : decode cX2_judge 98 = .ok (.getfield 77, 3) := by decide +kernel
theorem dX2_judge_101 : decode cX2_judge 101 = .ok (.iload 6, 2) := by decide +kernel
theorem dX2_judge_103 : decode cX2_judge 103 = .ok (.ior, 1) := by decide +kernel
theorem dX2_judge_104 : decode cX2_judge 104 = .ok (.putfield 77, 3) := by decide +kernel
theorem dX2_judge_107 : decode cX2_judge 107 = .ok (.aload_n 1, 1) := by decide +kernel
theorem dX2_judge_108 : decode cX2_judge 108 = .ok (.getfield 66, 3) := by decide +kernel
theorem dX2_judge_111 : decode cX2_judge 111 = .ok (.iconst 1, 1) := by decide +kernel
theorem dX2_judge_112 : decode cX2_judge 112 = .ok (.dup2, 1) := by decide +kernel
theorem dX2_judge_113 : decode cX2_judge 113 = .ok (.iaload, 1) := by decide +kernel
theorem dX2_judge_114 : decode cX2_judge 114 = .ok (.iload 6, 2) := by decide +kernel
theorem dX2_judge_116 : decode cX2_judge 116 = .ok (.iconst 1, 1) := by decide +kernel
theorem dX2_judge_117 : decode cX2_judge 117 = .ok (.iand, 1) := by decide +kernel
theorem dX2_judge_118 : decode cX2_judge 118 = .ok (.iadd, 1) := by decide +kernel
theorem dX2_judge_119 : decode cX2_judge 119 = .ok (.iastore, 1) := by decide +kernel
theorem dX2_judge_120 : decode cX2_judge 120 = .ok (.aload_n 1, 1) := by decide +kernel
theorem dX2_judge_121 : decode cX2_judge 121 = .ok (.getfield 66, 3) := by decide +kernel
theorem dX2_judge_124 : decode cX2_judge 124 = .ok (.iconst 2, 1) := by decide +kernel
theorem dX2_judge_125 : decode cX2_judge 125 = .ok (.dup2, 1) := by decide +kernel
theorem dX2_judge_126 : decode cX2_judge 126 = .ok (.iaload, 1) := by decide +kernel
theorem dX2_judge_127 : decode cX2_judge 127 = .ok (.iload 6, 2) := by decide +kernel
theorem dX2_judge_129 : decode cX2_judge 129 = .ok (.iconst 1, 1) := by decide +kernel
theorem dX2_judge_130 : decode cX2_judge 130 = .ok (.ishr, 1) := by decide +kernel
theorem dX2_judge_131 : decode cX2_judge 131 = .ok (.iconst 1, 1) := by decide +kernel
theorem dX2_judge_132 : decode cX2_judge 132 = .ok (.iand, 1) := by decide +kernel
theorem dX2_judge_133 : decode cX2_judge 133 = .ok (.iadd, 1) := by decide +kernel
theorem dX2_judge_134 : decode cX2_judge 134 = .ok (.iastore, 1) := by decide +kernel
theorem dX2_judge_135 : decode cX2_judge 135 = .ok (.aload_n 1, 1) := by decide +kernel
theorem dX2_judge_136 : decode cX2_judge 136 = .ok (.getfield 66, 3) := by decide +kernel
theorem dX2_judge_139 : decode cX2_judge 139 = .ok (.iconst 3, 1) := by decide +kernel
theorem dX2_judge_140 : decode cX2_judge 140 = .ok (.dup2, 1) := by decide +kernel
theorem dX2_judge_141 : decode cX2_judge 141 = .ok (.iaload, 1) := by decide +kernel
theorem dX2_judge_142 : decode cX2_judge 142 = .ok (.iload 6, 2) := by decide +kernel
theorem dX2_judge_144 : decode cX2_judge 144 = .ok (.iconst 2, 1) := by decide +kernel
theorem dX2_judge_145 : decode cX2_judge 145 = .ok (.ishr, 1) := by decide +kernel
theorem dX2_judge_146 : decode cX2_judge 146 = .ok (.iconst 1, 1) := by decide +kernel
theorem dX2_judge_147 : decode cX2_judge 147 = .ok (.iand, 1) := by decide +kernel
theorem dX2_judge_148 : decode cX2_judge 148 = .ok (.iadd, 1) := by decide +kernel
theorem dX2_judge_149 : decode cX2_judge 149 = .ok (.iastore, 1) := by decide +kernel
theorem dX2_judge_150 : decode cX2_judge 150 = .ok (.iinc 4 1, 3) := by decide +kernel
theorem dX2_judge_153 : decode cX2_judge 153 = .ok (.goto (-108), 3) := by decide +kernel
theorem dX2_judge_156 : decode cX2_judge 156 = .ok (.aload_n 1, 1) := by decide +kernel
theorem dX2_judge_157 : decode cX2_judge 157 = .ok (.aload_n 0, 1) := by decide +kernel
theorem dX2_judge_158 : decode cX2_judge 158 = .ok (.iload_n 3, 1) := by decide +kernel
theorem dX2_judge_159 : decode cX2_judge 159 = .ok (.invokevirtual 88, 3) := by decide +kernel
theorem dX2_judge_162 : decode cX2_judge 162 = .ok (.putfield 91, 3) := by decide +kernel
theorem dX2_judge_165 : decode cX2_judge 165 = .ok (.return_, 1) := by decide +kernel
theorem dX2_begin_0 : decode cX2_begin 0 = .ok (.aload_n 0, 1) := by decide +kernel
theorem dX2_begin_1 : decode cX2_begin 1 = .ok (.aload_n 1, 1) := by decide +kernel
theorem dX2_begin_2 : decode cX2_begin 2 = .ok (.getfield 94, 3) := by decide +kernel
theorem dX2_begin_5 : decode cX2_begin 5 = .ok (.putfield 39, 3) := by decide +kernel
theorem dX2_begin_8 : decode cX2_begin 8 = .ok (.aload_n 0, 1) := by decide +kernel
theorem dX2_begin_9 : decode cX2_begin 9 = .ok (.iconst 0, 1) := by decide +kernel
theorem dX2_begin_10 : decode cX2_begin 10 = .ok (.putfield 43, 3) := by decide +kernel
theorem dX2_begin_13 : decode cX2_begin 13 = .ok (.iconst 0, 1) := by decide +kernel
theorem dX2_begin_14 : decode cX2_begin 14 = .ok (.istore_n 2, 1) := by decide +kernel
theorem dX2_begin_15 : decode cX2_begin 15 = .ok (.iload_n 2, 1) := by decide +kernel
theorem dX2_begin_16 : decode cX2_begin 16 = .ok (.aload_n 0, 1) := by decide +kernel
theorem dX2_begin_17 : decode cX2_begin 17 = .ok (.getfield 39, 3) := by decide +kernel
theorem dX2_begin_20 : decode cX2_begin 20 = .ok (.if_icmp .ge 59, 3) := by decide +kernel
theorem dX2_begin_23 : decode cX2_begin 23 = .ok (.aload_n 0, 1) := by decide +kernel
theorem dX2_begin_24 : decode cX2_begin 24 = .ok (.getfield 9, 3) := by decide +kernel
theorem dX2_begin_27 : decode cX2_begin 27 = .ok (.iload_n 2, 1) := by decide +kernel
theorem dX2_begin_28 : decode cX2_begin 28 = .ok (.aload_n 1, 1) := by decide +kernel
theorem dX2_begin_29 : decode cX2_begin 29 = .ok (.getfield 95, 3) := by decide +kernel
theorem dX2_begin_32 : decode cX2_begin 32 = .ok (.iload_n 2, 1) := by decide +kernel
theorem dX2_begin_33 : decode cX2_begin 33 = .ok (.iaload, 1) := by decide +kernel
theorem dX2_begin_34 : decode cX2_begin 34 = .ok (.iastore, 1) := by decide +kernel
theorem dX2_begin_35 : decode cX2_begin 35 = .ok (.aload_n 0, 1) := by decide +kernel
theorem dX2_begin_36 : decode cX2_begin 36 = .ok (.getfield 9, 3) := by decide +kernel
theorem dX2_begin_39 : decode cX2_begin 39 = .ok (.iload_n 2, 1) := by decide +kernel
theorem dX2_begin_40 : decode cX2_begin 40 = .ok (.iaload, 1) := by decide +kernel
theorem dX2_begin_41 : decode cX2_begin 41 = .ok (.iconst (-1), 1) := by decide +kernel
theorem dX2_begin_42 : decode cX2_begin 42 = .ok (.if_icmp .ne 31, 3) := by decide +kernel
theorem dX2_begin_45 : decode cX2_begin 45 = .ok (.aload_n 0, 1) := by decide +kernel
theorem dX2_begin_46 : decode cX2_begin 46 = .ok (.getfield 43, 3) := by decide +kernel
theorem dX2_begin_49 : decode cX2_begin 49 = .ok (.iconst 3, 1) := by decide +kernel
theorem dX2_begin_50 : decode cX2_begin 50 = .ok (.if_icmp .ge 23, 3) := by decide +kernel
theorem dX2_begin_53 : decode cX2_begin 53 = .ok (.aload_n 0, 1) := by decide +kernel
theorem dX2_begin_54 : decode cX2_begin 54 = .ok (.getfield 15, 3) := by decide +kernel
theorem dX2_begin_57 : decode cX2_begin 57 = .ok (.aload_n 0, 1) := by decide +kernel
theorem dX2_begin_58 : decode cX2_begin 58 = .ok (.getfield 43, 3) := by decide +kernel
theorem dX2_begin_61 : decode cX2_begin 61 = .ok (.iload_n 2, 1) := by decide +kernel
theorem dX2_begin_62 : decode cX2_begin 62 = .ok (.iastore, 1) := by decide +kernel
theorem dX2_begin_63 : decode cX2_begin 63 = .ok (.aload_n 0, 1) := by decide +kernel
theorem dX2_begin_64 : decode cX2_begin 64 = .ok (.dup, 1) := by decide +kernel
theorem dX2_begin_65 : decode cX2_begin 65 = .ok (.getfield 43, 3) := by decide +kernel
theorem dX2_begin_68 : decode cX2_begin 68 = .ok (.iconst 1, 1) := by decide +kernel
theorem dX2_begin_69 : decode cX2_begin 69 = .ok (.iadd, 1) := by decide +kernel
theorem dX2_begin_70 : decode cX2_begin 70 = .ok (.putfield 43, 3) := by decide +kernel
theorem dX2_begin_73 : decode cX2_begin 73 = .ok (.iinc 2 1, 3) := by decide +kernel
theorem dX2_begin_76 : decode cX2_begin 76 = .ok (.goto (-61), 3) := by decide +kernel
theorem dX2_begin_79 : decode cX2_begin 79 = .ok (.aload_n 0, 1) := by decide +kernel
theorem dX2_begin_80 : decode cX2_begin 80 = .ok (.getfield 18, 3) := by decide +kernel
theorem dX2_begin_83 : decode cX2_begin 83 = .ok (.iconst 0, 1) := by decide +kernel
theorem dX2_begin_84 : decode cX2_begin 84 = .ok (.ldc 98, 2) := by decide +kernel
theorem dX2_begin_86 : decode cX2_begin 86 = .ok (.iastore, 1) := by decide +kernel
theorem dX2_begin_87 : decode cX2_begin 87 = .ok (.aload_n 0, 1) := by decide +kernel
theorem dX2_begin_88 : decode cX2_begin 88 = .ok (.iconst 0, 1) := by decide +kernel
theorem dX2_begin_89 : decode cX2_begin 89 = .ok (.putfield 46, 3) := by decide +kernel
theorem dX2_begin_92 : decode cX2_begin 92 = .ok (.aload_n 0, 1) := by decide +kernel
theorem dX2_begin_93 : decode cX2_begin 93 = .ok (.getfield 26, 3) := by decide +kernel
theorem dX2_begin_96 : decode cX2_begin 96 = .ok (.iconst 0, 1) := by decide +kernel
theorem dX2_begin_97 : decode cX2_begin 97 = .ok (.iconst 0, 1) := by decide +kernel
theorem dX2_begin_98 : decode cX2_begin 98 = .ok (.iastore, 1) := by decide +kernel
theorem dX2_begin_99 : decode cX2_begin 99 = .ok (.aload_n 0, 1) := by decide +kernel
theorem dX2_begin_100 : decode cX2_begin 100 = .ok (.iconst 0, 1) := by decide +kernel
theorem dX2_begin_101 : decode cX2_begin 101 = .ok (.invokevirtual 99, 3) := by decide +kernel
theorem dX2_begin_104 : decode cX2_begin 104 = .ok (.aload_n 0, 1) := by decide +kernel
theorem dX2_begin_105 : decode cX2_begin 105 = .ok (.iconst 0, 1) := by decide +kernel
theorem dX2_begin_106 : decode cX2_begin 106 = .ok (.putfield 49, 3) := by decide +kernel
theorem dX2_begin_109 : decode cX2_begin 109 = .ok (.return_, 1) := by decide +kernel
theorem dX2_findLikeEvents_0 : decode cX2_findLikeEvents 0 = .ok (.iconst 0, 1) := by decide +kernel
theorem dX2_findLikeEvents_1 : decode cX2_findLikeEvents 1 = .ok (.istore_n 2, 1) := by decide +kernel
theorem dX2_findLikeEvents_2 : decode cX2_findLikeEvents 2 = .ok (.iload_n 2, 1) := by decide +kernel
theorem dX2_findLikeEvents_3 : decode cX2_findLikeEvents 3 = .ok (.bipush 8, 2) := by decide +kernel
theorem dX2_findLikeEvents_5 : decode cX2_findLikeEvents 5 = .ok (.if_icmp .ge 72, 3) := by decide +kernel
theorem dX2_findLikeEvents_8 : decode cX2_findLikeEvents 8 = .ok (.iconst 0, 1) := by decide +kernel
theorem dX2_findLikeEvents_9 : decode cX2_findLikeEvents 9 = .ok (.istore_n 3, 1) := by decide +kernel
theorem dX2_findLikeEvents_10 : decode cX2_findLikeEvents 10 = .ok (.iload_n 3, 1) := by decide +kernel
theorem dX2_findLikeEvents_11 : decode cX2_findLikeEvents 11 = .ok (.iload_n 2, 1) := by decide +kernel
theorem dX2_findLikeEvents_12 : decode cX2_findLikeEvents 12 = .ok (.if_icmp .ge 52, 3) := by decide +kernel
theorem dX2_findLikeEvents_15 : decode cX2_findLikeEvents 15 = .ok (.iload_n 3, 1) := by decide +kernel
theorem dX2_findLikeEvents_16 : decode cX2_findLikeEvents 16 = .ok (.invokestatic 103, 3) := by decide +kernel
theorem dX2_findLikeEvents_19 : decode cX2_findLikeEvents 19 = .ok (.iload_n 2, 1) := by decide +kernel
theorem dX2_findLikeEvents_20 : decode cX2_findLikeEvents 20 = .ok (.invokestatic 103, 3) := by decide +kernel
theorem dX2_findLikeEvents_23 : decode cX2_findLikeEvents 23 = .ok (.if_icmp .ne 35, 3) := by decide +kernel
theorem dX2_findLikeEvents_26 : decode cX2_findLikeEvents 26 = .ok (.aload_n 1, 1) := by decide +kernel
theorem dX2_findLikeEvents_27 : decode cX2_findLikeEvents 27 = .ok (.iconst 2, 1) := by decide +kernel
theorem dX2_findLikeEvents_28 : decode cX2_findLikeEvents 28 = .ok (.iload_n 3, 1) := by decide +kernel
theorem dX2_findLikeEvents_29 : decode cX2_findLikeEvents 29 = .ok (.imul, 1) := by decide +kernel
theorem dX2_findLikeEvents_30 : decode cX2_findLikeEvents 30 = .ok (.aload_n 1, 1) := by decide +kernel
theorem dX2_findLikeEvents_31 : decode cX2_findLikeEvents 31 = .ok (.iconst 2, 1) := by decide +kernel
theorem dX2_findLikeEvents_32 : decode cX2_findLikeEvents 32 = .ok (.iload_n 2, 1) := by decide +kernel
theorem dX2_findLikeEvents_33 : decode cX2_findLikeEvents 33 = .ok (.imul, 1) := by decide +kernel
theorem dX2_findLikeEvents_34 : decode cX2_findLikeEvents 34 = .ok (.invokevirtual 106, 3) := by decide +kernel
theorem dX2_findLikeEvents_37 : decode cX2_findLikeEvents 37 = .ok (.ifCond .eq 21, 3) := by decide +kernel
theorem dX2_findLikeEvents_40 : decode cX2_findLikeEvents 40 = .ok (.aload_n 1, 1) := by decide +kernel
theorem dX2_findLikeEvents_41 : decode cX2_findLikeEvents 41 = .ok (.iconst 2, 1) := by decide +kernel
theorem dX2_findLikeEvents_42 : decode cX2_findLikeEvents 42 = .ok (.iload_n 3, 1) := by decide +kernel
theorem dX2_findLikeEvents_43 : decode cX2_findLikeEvents 43 = .ok (.imul, 1) := by decide +kernel
theorem dX2_findLikeEvents_44 : decode cX2_findLikeEvents 44 = .ok (.iconst 1, 1) := by decide +kernel
theorem dX2_findLikeEvents_45 : decode cX2_findLikeEvents 45 = .ok (.iadd, 1) := by decide +kernel
theorem dX2_findLikeEvents_46 : decode cX2_findLikeEvents 46 = .ok (.aload_n 1, 1) := by decide +kernel
theorem dX2_findLikeEvents_47 : decode cX2_findLikeEvents 47 = .ok (.iconst 2, 1) := by decide +kernel
theorem dX2_findLikeEvents_48 : decode cX2_findLikeEvents 48 = .ok (.iload_n 2, 1) := by decide +kernel
theorem dX2_findLikeEvents_49 : decode cX2_findLikeEvents 49 = .ok (.imul, 1) := by decide +kernel
theorem dX2_findLikeEvents_50 : decode cX2_findLikeEvents 50 = .ok (.iconst 1, 1) := by decide +kernel
theorem dX2_findLikeEvents_51 : decode cX2_findLikeEvents 51 = .ok (.iadd, 1) := by decide +kernel
theorem dX2_findLikeEvents_52 : decode cX2_findLikeEvents 52 = .ok (.invokevirtual 106, 3) := by decide +kernel
theorem dX2_findLikeEvents_55 : decode cX2_findLikeEvents 55 = .ok (.ifCond .ne 9, 3) := by decide +kernel
theorem dX2_findLikeEvents_58 : decode cX2_findLikeEvents 58 = .ok (.iinc 3 1, 3) := by decide +kernel
theorem dX2_findLikeEvents_61 : decode cX2_findLikeEvents 61 = .ok (.goto (-51), 3) := by decide +kernel
theorem dX2_findLikeEvents_64 : decode cX2_findLikeEvents 64 = .ok (.aload_n 0, 1) := by decide +kernel
theorem dX2_findLikeEvents_65 : decode cX2_findLikeEvents 65 = .ok (.getfield 29, 3) := by decide +kernel
theorem dX2_findLikeEvents_68 : decode cX2_findLikeEvents 68 = .ok (.iload_n 2, 1) := by decide +kernel
theorem dX2_findLikeEvents_69 : decode cX2_findLikeEvents 69 = .ok (.iload_n 3, 1) := by decide +kernel
theorem dX2_findLikeEvents_70 : decode cX2_findLikeEvents 70 = .ok (.iastore, 1) := by decide +kernel
theorem dX2_findLikeEvents_71 : decode cX2_findLikeEvents 71 = .ok (.iinc 2 1, 3) := by decide +kernel
theorem dX2_findLikeEvents_74 : decode cX2_findLikeEvents 74 = .ok (.goto (-72), 3) := by decide +kernel
theorem dX2_findLikeEvents_77 : decode cX2_findLikeEvents 77 = .ok (.return_, 1) := by decide +kernel
theorem dX2_likeFill_0 : decode cX2_likeFill 0 = .ok (.iconst 0, 1) := by decide +kernel
theorem dX2_likeFill_1 : decode cX2_likeFill 1 = .ok (.istore_n 2, 1) := by decide +kernel
theorem dX2_likeFill_2 : decode cX2_likeFill 2 = .ok (.iconst 0, 1) := by decide +kernel
theorem dX2_likeFill_3 : decode cX2_likeFill 3 = .ok (.istore_n 3, 1) := by decide +kernel
theorem dX2_likeFill_4 : decode cX2_likeFill 4 = .ok (.iload_n 3, 1) := by decide +kernel
theorem dX2_likeFill_5 : decode cX2_likeFill 5 = .ok (.iconst 3, 1) := by decide +kernel
theorem dX2_likeFill_6 : decode cX2_likeFill 6 = .ok (.aload_n 0, 1) := by decide +kernel
theorem dX2_likeFill_7 : decode cX2_likeFill 7 = .ok (.getfield 43, 3) := by decide +kernel
theorem dX2_likeFill_10 : decode cX2_likeFill 10 = .ok (.imul, 1) := by decide +kernel
theorem dX2_likeFill_11 : decode cX2_likeFill 11 = .ok (.if_icmp .ge 25, 3) := by decide +kernel
theorem dX2_likeFill_14 : decode cX2_likeFill 14 = .ok (.iload_n 2, 1) := by decide +kernel
theorem dX2_likeFill_15 : decode cX2_likeFill 15 = .ok (.aload_n 0, 1) := by decide +kernel
theorem dX2_likeFill_16 : decode cX2_likeFill 16 = .ok (.getfield 29, 3) := by decide +kernel
theorem dX2_likeFill_19 : decode cX2_likeFill 19 = .ok (.iload_n 1, 1) := by decide +kernel
theorem dX2_likeFill_20 : decode cX2_likeFill 20 = .ok (.iload_n 3, 1) := by decide +kernel
theorem dX2_likeFill_21 : decode cX2_likeFill 21 = .ok (.ishr, 1) := by decide +kernel
theorem dX2_likeFill_22 : decode cX2_likeFill 22 = .ok (.bipush 7, 2) := by decide +kernel
theorem dX2_likeFill_24 : decode cX2_likeFill 24 = .ok (.iand, 1) := by decide +kernel
theorem dX2_likeFill_25 : decode cX2_likeFill 25 = .ok (.iaload, 1) := by decide +kernel
theorem dX2_likeFill_26 : decode cX2_likeFill 26 = .ok (.iload_n 3, 1) := by decide +kernel
theorem dX2_likeFill_27 : decode cX2_likeFill 27 = .ok (.ishl, 1) := by decide +kernel
theorem dX2_likeFill_28 : decode cX2_likeFill 28 = .ok (.ior, 1) := by decide +kernel
theorem dX2_likeFill_29 : decode cX2_likeFill 29 = .ok (.istore_n 2, 1) := by decide +kernel
theorem dX2_likeFill_30 : decode cX2_likeFill 30 = .ok (.iinc 3 3, 3) := by decide +kernel
theorem dX2_likeFill_33 : decode cX2_likeFill 33 = .ok (.goto (-29), 3) := by decide +kernel
theorem dX2_likeFill_36 : decode cX2_likeFill 36 = .ok (.iload_n 2, 1) := by decide +kernel
theorem dX2_likeFill_37 : decode cX2_likeFill 37 = .ok (.ireturn, 1) := by decide +kernel
theorem dX2_shiftOf_0 : decode cX2_shiftOf 0 = .ok (.iconst 3, 1) := by decide +kernel
theorem dX2_shiftOf_1 : decode cX2_shiftOf 1 = .ok (.aload_n 0, 1) := by decide +kernel
theorem dX2_shiftOf_2 : decode cX2_shiftOf 2 = .ok (.getfield 43, 3) := by decide +kernel
theorem dX2_shiftOf_5 : decode cX2_shiftOf 5 = .ok (.iconst 1, 1) := by decide +kernel
theorem dX2_shiftOf_6 : decode cX2_shiftOf 6 = .ok (.isub, 1) := by decide +kernel
theorem dX2_shiftOf_7 : decode cX2_shiftOf 7 = .ok (.iload_n 1, 1) := by decide +kernel
theorem dX2_shiftOf_8 : decode cX2_shiftOf 8 = .ok (.isub, 1) := by decide +kernel
theorem dX2_shiftOf_9 : decode cX2_shiftOf 9 = .ok (.imul, 1) := by decide +kernel
theorem dX2_shiftOf_10 : decode cX2_shiftOf 10 = .ok (.ireturn, 1) := by decide +kernel
theorem dX2_give_0 : decode cX2_give 0 = .ok (.iconst 0, 1) := by decide +kernel
theorem dX2_give_1 : decode cX2_give 1 = .ok (.istore_n 2, 1) := by decide +kernel
theorem dX2_give_2 : decode cX2_give 2 = .ok (.iload_n 2, 1) := by decide +kernel
theorem dX2_give_3 : decode cX2_give 3 = .ok (.aload_n 0, 1) := by decide +kernel
theorem dX2_give_4 : decode cX2_give 4 = .ok (.getfield 43, 3) := by decide +kernel
theorem dX2_give_7 : decode cX2_give 7 = .ok (.if_icmp .ge 81, 3) := by decide +kernel
theorem dX2_give_10 : decode cX2_give 10 = .ok (.iload_n 1, 1) := by decide +kernel
theorem dX2_give_11 : decode cX2_give 11 = .ok (.aload_n 0, 1) := by decide +kernel
theorem dX2_give_12 : decode cX2_give 12 = .ok (.iload_n 2, 1) := by decide +kernel
theorem dX2_give_13 : decode cX2_give 13 = .ok (.invokevirtual 112, 3) := by decide +kernel
theorem dX2_give_16 : decode cX2_give 16 = .ok (.ishr, 1) := by decide +kernel
theorem dX2_give_17 : decode cX2_give 17 = .ok (.bipush 7, 2) := by decide +kernel
theorem dX2_give_19 : decode cX2_give 19 = .ok (.iand, 1) := by decide +kernel
theorem dX2_give_20 : decode cX2_give 20 = .ok (.istore_n 3, 1) := by decide +kernel
theorem dX2_give_21 : decode cX2_give 21 = .ok (.aload_n 0, 1) := by decide +kernel
theorem dX2_give_22 : decode cX2_give 22 = .ok (.getfield 9, 3) := by decide +kernel
theorem dX2_give_25 : decode cX2_give 25 = .ok (.aload_n 0, 1) := by decide +kernel
theorem dX2_give_26 : decode cX2_give 26 = .ok (.getfield 15, 3) := by decide +kernel
theorem dX2_give_29 : decode cX2_give 29 = .ok (.iload_n 2, 1) := by decide +kernel
theorem dX2_give_30 : decode cX2_give 30 = .ok (.iaload, 1) := by decide +kernel
theorem dX2_give_31 : decode cX2_give 31 = .ok (.iaload, 1) := by decide +kernel
theorem dX2_give_32 : decode cX2_give 32 = .ok (.iload_n 3, 1) := by decide +kernel
theorem dX2_give_33 : decode cX2_give 33 = .ok (.if_icmp .eq 49, 3) := by decide +kernel
theorem dX2_give_36 : decode cX2_give 36 = .ok (.aload_n 0, 1) := by decide +kernel
theorem dX2_give_37 : decode cX2_give 37 = .ok (.getfield 9, 3) := by decide +kernel
theorem dX2_give_40 : decode cX2_give 40 = .ok (.aload_n 0, 1) := by decide +kernel
theorem dX2_give_41 : decode cX2_give 41 = .ok (.getfield 15, 3) := by decide +kernel
theorem dX2_give_44 : decode cX2_give 44 = .ok (.iload_n 2, 1) := by decide +kernel
theorem dX2_give_45 : decode cX2_give 45 = .ok (.iaload, 1) := by decide +kernel
theorem dX2_give_46 : decode cX2_give 46 = .ok (.iload_n 3, 1) := by decide +kernel
theorem dX2_give_47 : decode cX2_give 47 = .ok (.iastore, 1) := by decide +kernel
theorem dX2_give_48 : decode cX2_give 48 = .ok (.aload_n 0, 1) := by decide +kernel
theorem dX2_give_49 : decode cX2_give 49 = .ok (.aload_n 0, 1) := by decide +kernel
theorem dX2_give_50 : decode cX2_give 50 = .ok (.getfield 46, 3) := by decide +kernel
theorem dX2_give_53 : decode cX2_give 53 = .ok (.aload_n 0, 1) := by decide +kernel
theorem dX2_give_54 : decode cX2_give 54 = .ok (.getfield 15, 3) := by decide +kernel
theorem dX2_give_57 : decode cX2_give 57 = .ok (.iload_n 2, 1) := by decide +kernel
theorem dX2_give_58 : decode cX2_give 58 = .ok (.iaload, 1) := by decide +kernel
theorem dX2_give_59 : decode cX2_give 59 = .ok (.invokestatic 115, 3) := by decide +kernel
theorem dX2_give_62 : decode cX2_give 62 = .ok (.putfield 46, 3) := by decide +kernel
theorem dX2_give_65 : decode cX2_give 65 = .ok (.aload_n 0, 1) := by decide +kernel
theorem dX2_give_66 : decode cX2_give 66 = .ok (.aload_n 0, 1) := by decide +kernel
theorem dX2_give_67 : decode cX2_give 67 = .ok (.getfield 49, 3) := by decide +kernel
theorem dX2_give_70 : decode cX2_give 70 = .ok (.aload_n 0, 1) := by decide +kernel
theorem dX2_give_71 : decode cX2_give 71 = .ok (.getfield 15, 3) := by decide +kernel
theorem dX2_give_74 : decode cX2_give 74 = .ok (.iload_n 2, 1) := by decide +kernel
theorem dX2_give_75 : decode cX2_give 75 = .ok (.iaload, 1) := by decide +kernel
theorem dX2_give_76 : decode cX2_give 76 = .ok (.invokestatic 115, 3) := by decide +kernel
theorem dX2_give_79 : decode cX2_give 79 = .ok (.putfield 49, 3) := by decide +kernel
theorem dX2_give_82 : decode cX2_give 82 = .ok (.iinc 2 1, 3) := by decide +kernel
theorem dX2_give_85 : decode cX2_give 85 = .ok (.goto (-83), 3) := by decide +kernel
theorem dX2_give_88 : decode cX2_give 88 = .ok (.return_, 1) := by decide +kernel
theorem dX2_causesOfRow_0 : decode cX2_causesOfRow 0 = .ok (.aload_n 0, 1) := by decide +kernel
theorem dX2_causesOfRow_1 : decode cX2_causesOfRow 1 = .ok (.iload_n 1, 1) := by decide +kernel
theorem dX2_causesOfRow_2 : decode cX2_causesOfRow 2 = .ok (.invokevirtual 121, 3) := by decide +kernel
theorem dX2_causesOfRow_5 : decode cX2_causesOfRow 5 = .ok (.aload_n 2, 1) := by decide +kernel
theorem dX2_causesOfRow_6 : decode cX2_causesOfRow 6 = .ok (.getfield 124, 3) := by decide +kernel
theorem dX2_causesOfRow_9 : decode cX2_causesOfRow 9 = .ok (.ineg, 1) := by decide +kernel
theorem dX2_causesOfRow_10 : decode cX2_causesOfRow 10 = .ok (.istore 4, 2) := by decide +kernel
theorem dX2_causesOfRow_12 : decode cX2_causesOfRow 12 = .ok (.iconst 0, 1) := by decide +kernel
theorem dX2_causesOfRow_13 : decode cX2_causesOfRow 13 = .ok (.istore 5, 2) := by decide +kernel
theorem dX2_causesOfRow_15 : decode cX2_causesOfRow 15 = .ok (.iload 5, 2) := by decide +kernel
theorem dX2_causesOfRow_17 : decode cX2_causesOfRow 17 = .ok (.aload_n 0, 1) := by decide +kernel
theorem dX2_causesOfRow_18 : decode cX2_causesOfRow 18 = .ok (.getfield 39, 3) := by decide +kernel
theorem dX2_causesOfRow_21 : decode cX2_causesOfRow 21 = .ok (.if_icmp .ge 24, 3) := by decide +kernel
theorem dX2_causesOfRow_24 : decode cX2_causesOfRow 24 = .ok (.iload 4, 2) := by decide +kernel
theorem dX2_causesOfRow_26 : decode cX2_causesOfRow 26 = .ok (.aload_n 0, 1) := by decide +kernel
theorem dX2_causesOfRow_27 : decode cX2_causesOfRow 27 = .ok (.getfield 9, 3) := by decide +kernel
theorem dX2_causesOfRow_30 : decode cX2_causesOfRow 30 = .ok (.iload 5, 2) := by decide +kernel
theorem dX2_causesOfRow_32 : decode cX2_causesOfRow 32 = .ok (.iaload, 1) := by decide +kernel
theorem dX2_causesOfRow_33 : decode cX2_causesOfRow 33 = .ok (.invokestatic 103, 3) := by decide +kernel
theorem dX2_causesOfRow_36 : decode cX2_causesOfRow 36 = .ok (.iadd, 1) := by decide +kernel
theorem dX2_causesOfRow_37 : decode cX2_causesOfRow 37 = .ok (.istore 4, 2) := by decide +kernel
theorem dX2_causesOfRow_39 : decode cX2_causesOfRow 39 = .ok (.iinc 5 1, 3) := by decide +kernel
theorem dX2_causesOfRow_42 : decode cX2_causesOfRow 42 = .ok (.goto (-27), 3) := by decide +kernel
theorem dX2_causesOfRow_45 : decode cX2_causesOfRow 45 = .ok (.iload 4, 2) := by decide +kernel
theorem dX2_causesOfRow_47 : decode cX2_causesOfRow 47 = .ok (.iconst (-1), 1) := by decide +kernel
theorem dX2_causesOfRow_48 : decode cX2_causesOfRow 48 = .ok (.if_icmp .lt 9, 3) := by decide +kernel
theorem dX2_causesOfRow_51 : decode cX2_causesOfRow 51 = .ok (.iload 4, 2) := by decide +kernel
theorem dX2_causesOfRow_53 : decode cX2_causesOfRow 53 = .ok (.iconst 1, 1) := by decide +kernel
theorem dX2_causesOfRow_54 : decode cX2_causesOfRow 54 = .ok (.if_icmp .le 5, 3) := by decide +kernel
theorem dX2_causesOfRow_57 : decode cX2_causesOfRow 57 = .ok (.iconst 0, 1) := by decide +kernel
theorem dX2_causesOfRow_58 : decode cX2_causesOfRow 58 = .ok (.ireturn, 1) := by decide +kernel
theorem dX2_causesOfRow_59 : decode cX2_causesOfRow 59 = .ok (.aload_n 0, 1) := by decide +kernel
theorem dX2_causesOfRow_60 : decode cX2_causesOfRow 60 = .ok (.aload_n 3, 1) := by decide +kernel
theorem dX2_causesOfRow_61 : decode cX2_causesOfRow 61 = .ok (.invokevirtual 127, 3) := by decide +kernel
theorem dX2_causesOfRow_64 : decode cX2_causesOfRow 64 = .ok (.aload_n 0, 1) := by decide +kernel
theorem dX2_causesOfRow_65 : decode cX2_causesOfRow 65 = .ok (.getfield 18, 3) := by decide +kernel
theorem dX2_causesOfRow_68 : decode cX2_causesOfRow 68 = .ok (.aload_n 0, 1) := by decide +kernel
theorem dX2_causesOfRow_69 : decode cX2_causesOfRow 69 = .ok (.getfield 39, 3) := by decide +kernel
theorem dX2_causesOfRow_72 : decode cX2_causesOfRow 72 = .ok (.iaload, 1) := by decide +kernel
theorem dX2_causesOfRow_73 : decode cX2_causesOfRow 73 = .ok (.invokestatic 131, 3) := by decide +kernel
theorem dX2_causesOfRow_76 : decode cX2_causesOfRow 76 = .ok (.aload_n 2, 1) := by decide +kernel
theorem dX2_causesOfRow_77 : decode cX2_causesOfRow 77 = .ok (.getfield 134, 3) := by decide +kernel
theorem dX2_causesOfRow_80 : decode cX2_causesOfRow 80 = .ok (.if_icmp .ne 7, 3) := by decide +kernel
theorem dX2_causesOfRow_83 : decode cX2_causesOfRow 83 = .ok (.iconst 1, 1) := by decide +kernel
theorem dX2_causesOfRow_84 : decode cX2_causesOfRow 84 = .ok (.goto 4, 3) := by decide +kernel
theorem dX2_causesOfRow_87 : decode cX2_causesOfRow 87 = .ok (.iconst 0, 1) := by decide +kernel
theorem dX2_causesOfRow_88 : decode cX2_causesOfRow 88 = .ok (.istore 5, 2) := by decide +kernel
theorem dX2_causesOfRow_90 : decode cX2_causesOfRow 90 = .ok (.iload 4, 2) := by decide +kernel
theorem dX2_causesOfRow_92 : decode cX2_causesOfRow 92 = .ok (.ifCond .eq 14, 3) := by decide +kernel
theorem dX2_causesOfRow_95 : decode cX2_causesOfRow 95 = .ok (.iload 5, 2) := by decide +kernel
theorem dX2_causesOfRow_97 : decode cX2_causesOfRow 97 = .ok (.ifCond .eq 7, 3) := by decide +kernel
theorem dX2_causesOfRow_100 : decode cX2_causesOfRow 100 = .ok (.iconst 2, 1) := by decide +kernel
theorem dX2_causesOfRow_101 : decode cX2_causesOfRow 101 = .ok (.goto 4, 3) := by decide +kernel
theorem dX2_causesOfRow_104 : decode cX2_causesOfRow 104 = .ok (.iconst 0, 1) := by decide +kernel
theorem dX2_causesOfRow_105 : decode cX2_causesOfRow 105 = .ok (.ireturn, 1) := by decide +kernel
theorem dX2_causesOfRow_106 : decode cX2_causesOfRow 106 = .ok (.aload_n 0, 1) := by decide +kernel
theorem dX2_causesOfRow_107 : decode cX2_causesOfRow 107 = .ok (.aload_n 3, 1) := by decide +kernel
theorem dX2_causesOfRow_108 : decode cX2_causesOfRow 108 = .ok (.invokevirtual 137, 3) := by decide +kernel
theorem dX2_causesOfRow_111 : decode cX2_causesOfRow 111 = .ok (.iload 5, 2) := by decide +kernel
theorem dX2_causesOfRow_113 : decode cX2_causesOfRow 113 = .ok (.ifCond .eq 7, 3) := by decide +kernel
theorem dX2_causesOfRow_116 : decode cX2_causesOfRow 116 = .ok (.iconst 1, 1) := by decide +kernel
theorem dX2_causesOfRow_117 : decode cX2_causesOfRow 117 = .ok (.goto 4, 3) := by decide +kernel
theorem dX2_causesOfRow_120 : decode cX2_causesOfRow 120 = .ok (.iconst 0, 1) := by decide +kernel
theorem dX2_causesOfRow_121 : decode cX2_causesOfRow 121 = .ok (.aload_n 0, 1) := by decide +kernel
theorem dX2_causesOfRow_122 : decode cX2_causesOfRow 122 = .ok (.aload_n 2, 1) := by decide +kernel
theorem dX2_causesOfRow_123 : decode cX2_causesOfRow 123 = .ok (.getfield 134, 3) := by decide +kernel
theorem dX2_causesOfRow_126 : decode cX2_causesOfRow 126 = .ok (.invokevirtual 140, 3) := by decide +kernel
theorem dX2_causesOfRow_129 : decode cX2_causesOfRow 129 = .ok (.ifCond .eq 7, 3) := by decide +kernel
theorem dX2_causesOfRow_132 : decode cX2_causesOfRow 132 = .ok (.iconst 4, 1) := by decide +kernel
theorem dX2_causesOfRow_133 : decode cX2_causesOfRow 133 = .ok (.goto 4, 3) := by decide +kernel
theorem dX2_causesOfRow_136 : decode cX2_causesOfRow 136 = .ok (.iconst 0, 1) := by decide +kernel
theorem dX2_causesOfRow_137 : decode cX2_causesOfRow 137 = .ok (.ior, 1) := by decide +kernel
theorem dX2_causesOfRow_138 : decode cX2_causesOfRow 138 = .ok (.ireturn, 1) := by decide +kernel
theorem dX2_runPlain_0 : decode cX2_runPlain 0 = .ok (.aload_n 0, 1) := by decide +kernel
theorem dX2_runPlain_1 : decode cX2_runPlain 1 = .ok (.getfield 46, 3) := by decide +kernel
theorem dX2_runPlain_4 : decode cX2_runPlain 4 = .ok (.istore_n 2, 1) := by decide +kernel
theorem dX2_runPlain_5 : decode cX2_runPlain 5 = .ok (.iload_n 2, 1) := by decide +kernel
theorem dX2_runPlain_6 : decode cX2_runPlain 6 = .ok (.aload_n 0, 1) := by decide +kernel
theorem dX2_runPlain_7 : decode cX2_runPlain 7 = .ok (.getfield 39, 3) := by decide +kernel
theorem dX2_runPlain_10 : decode cX2_runPlain 10 = .ok (.if_icmp .ge 33, 3) := by decide +kernel
theorem dX2_runPlain_13 : decode cX2_runPlain 13 = .ok (.aload_n 0, 1) := by decide +kernel
theorem dX2_runPlain_14 : decode cX2_runPlain 14 = .ok (.getfield 18, 3) := by decide +kernel
theorem dX2_runPlain_17 : decode cX2_runPlain 17 = .ok (.iload_n 2, 1) := by decide +kernel
theorem dX2_runPlain_18 : decode cX2_runPlain 18 = .ok (.iconst 1, 1) := by decide +kernel
theorem dX2_runPlain_19 : decode cX2_runPlain 19 = .ok (.iadd, 1) := by decide +kernel
theorem dX2_runPlain_20 : decode cX2_runPlain 20 = .ok (.aload_n 1, 1) := by decide +kernel
theorem dX2_runPlain_21 : decode cX2_runPlain 21 = .ok (.aload_n 0, 1) := by decide +kernel
theorem dX2_runPlain_22 : decode cX2_runPlain 22 = .ok (.getfield 18, 3) := by decide +kernel
theorem dX2_runPlain_25 : decode cX2_runPlain 25 = .ok (.iload_n 2, 1) := by decide +kernel
theorem dX2_runPlain_26 : decode cX2_runPlain 26 = .ok (.iaload, 1) := by decide +kernel
theorem dX2_runPlain_27 : decode cX2_runPlain 27 = .ok (.aload_n 0, 1) := by decide +kernel
theorem dX2_runPlain_28 : decode cX2_runPlain 28 = .ok (.getfield 9, 3) := by decide +kernel
theorem dX2_runPlain_31 : decode cX2_runPlain 31 = .ok (.iload_n 2, 1) := by decide +kernel
theorem dX2_runPlain_32 : decode cX2_runPlain 32 = .ok (.iaload, 1) := by decide +kernel
theorem dX2_runPlain_33 : decode cX2_runPlain 33 = .ok (.invokevirtual 144, 3) := by decide +kernel
theorem dX2_runPlain_36 : decode cX2_runPlain 36 = .ok (.iastore, 1) := by decide +kernel
theorem dX2_runPlain_37 : decode cX2_runPlain 37 = .ok (.iinc 2 1, 3) := by decide +kernel
theorem dX2_runPlain_40 : decode cX2_runPlain 40 = .ok (.goto (-35), 3) := by decide +kernel
theorem dX2_runPlain_43 : decode cX2_runPlain 43 = .ok (.aload_n 0, 1) := by decide +kernel
theorem dX2_runPlain_44 : decode cX2_runPlain 44 = .ok (.aload_n 0, 1) := by decide +kernel
theorem dX2_runPlain_45 : decode cX2_runPlain 45 = .ok (.getfield 39, 3) := by decide +kernel
theorem dX2_runPlain_48 : decode cX2_runPlain 48 = .ok (.putfield 46, 3) := by decide +kernel
theorem dX2_runPlain_51 : decode cX2_runPlain 51 = .ok (.return_, 1) := by decide +kernel
theorem dX2_runPosted_0 : decode cX2_runPosted 0 = .ok (.aload_n 0, 1) := by decide +kernel
theorem dX2_runPosted_1 : decode cX2_runPosted 1 = .ok (.getfield 49, 3) := by decide +kernel
theorem dX2_runPosted_4 : decode cX2_runPosted 4 = .ok (.istore_n 2, 1) := by decide +kernel
theorem dX2_runPosted_5 : decode cX2_runPosted 5 = .ok (.iload_n 2, 1) := by decide +kernel
theorem dX2_runPosted_6 : decode cX2_runPosted 6 = .ok (.aload_n 0, 1) := by decide +kernel
theorem dX2_runPosted_7 : decode cX2_runPosted 7 = .ok (.getfield 39, 3) := by decide +kernel
theorem dX2_runPosted_10 : decode cX2_runPosted 10 = .ok (.if_icmp .ge 68, 3) := by decide +kernel
theorem dX2_runPosted_13 : decode cX2_runPosted 13 = .ok (.aload_n 0, 1) := by decide +kernel
theorem dX2_runPosted_14 : decode cX2_runPosted 14 = .ok (.getfield 26, 3) := by decide +kernel
theorem dX2_runPosted_17 : decode cX2_runPosted 17 = .ok (.iload_n 2, 1) := by decide +kernel
theorem dX2_runPosted_18 : decode cX2_runPosted 18 = .ok (.iconst 1, 1) := by decide +kernel
theorem dX2_runPosted_19 : decode cX2_runPosted 19 = .ok (.iadd, 1) := by decide +kernel
theorem dX2_runPosted_20 : decode cX2_runPosted 20 = .ok (.iconst 0, 1) := by decide +kernel
theorem dX2_runPosted_21 : decode cX2_runPosted 21 = .ok (.iastore, 1) := by decide +kernel
theorem dX2_runPosted_22 : decode cX2_runPosted 22 = .ok (.iconst 0, 1) := by decide +kernel
theorem dX2_runPosted_23 : decode cX2_runPosted 23 = .ok (.istore_n 3, 1) := by decide +kernel
theorem dX2_runPosted_24 : decode cX2_runPosted 24 = .ok (.iload_n 3, 1) := by decide +kernel
theorem dX2_runPosted_25 : decode cX2_runPosted 25 = .ok (.aload_n 0, 1) := by decide +kernel
theorem dX2_runPosted_26 : decode cX2_runPosted 26 = .ok (.getfield 26, 3) := by decide +kernel
theorem dX2_runPosted_29 : decode cX2_runPosted 29 = .ok (.iload_n 2, 1) := by decide +kernel
theorem dX2_runPosted_30 : decode cX2_runPosted 30 = .ok (.iaload, 1) := by decide +kernel
theorem dX2_runPosted_31 : decode cX2_runPosted 31 = .ok (.if_icmp .ge 34, 3) := by decide +kernel
theorem dX2_runPosted_34 : decode cX2_runPosted 34 = .ok (.aload_n 0, 1) := by decide +kernel
theorem dX2_runPosted_35 : decode cX2_runPosted 35 = .ok (.iload_n 2, 1) := by decide +kernel
theorem dX2_runPosted_36 : decode cX2_runPosted 36 = .ok (.iconst 1, 1) := by decide +kernel
theorem dX2_runPosted_37 : decode cX2_runPosted 37 = .ok (.iadd, 1) := by decide +kernel
theorem dX2_runPosted_38 : decode cX2_runPosted 38 = .ok (.aload_n 1, 1) := by decide +kernel
theorem dX2_runPosted_39 : decode cX2_runPosted 39 = .ok (.aload_n 0, 1) := by decide +kernel
theorem dX2_runPosted_40 : decode cX2_runPosted 40 = .ok (.getfield 23, 3) := by decide +kernel
theorem dX2_runPosted_43 : decode cX2_runPosted 43 = .ok (.iload_n 2, 1) := by decide +kernel
theorem dX2_runPosted_44 : decode cX2_runPosted 44 = .ok (.aaload, 1) := by decide +kernel
theorem dX2_runPosted_45 : decode cX2_runPosted 45 = .ok (.iload_n 3, 1) := by decide +kernel
theorem dX2_runPosted_46 : decode cX2_runPosted 46 = .ok (.iaload, 1) := by decide +kernel
theorem dX2_runPosted_47 : decode cX2_runPosted 47 = .ok (.aload_n 0, 1) := by decide +kernel
theorem dX2_runPosted_48 : decode cX2_runPosted 48 = .ok (.getfield 9, 3) := by decide +kernel
theorem dX2_runPosted_51 : decode cX2_runPosted 51 = .ok (.iload_n 2, 1) := by decide +kernel
theorem dX2_runPosted_52 : decode cX2_runPosted 52 = .ok (.iaload, 1) := by decide +kernel
theorem dX2_runPosted_53 : decode cX2_runPosted 53 = .ok (.invokevirtual 144, 3) := by decide +kernel
theorem dX2_runPosted_56 : decode cX2_runPosted 56 = .ok (.invokevirtual 147, 3) := by decide +kernel
theorem dX2_runPosted_59 : decode cX2_runPosted 59 = .ok (.iinc 3 1, 3) := by decide +kernel
theorem dX2_runPosted_62 : decode cX2_runPosted 62 = .ok (.goto (-38), 3) := by decide +kernel
theorem dX2_runPosted_65 : decode cX2_runPosted 65 = .ok (.aload_n 0, 1) := by decide +kernel
theorem dX2_runPosted_66 : decode cX2_runPosted 66 = .ok (.iload_n 2, 1) := by decide +kernel
theorem dX2_runPosted_67 : decode cX2_runPosted 67 = .ok (.iconst 1, 1) := by decide +kernel
theorem dX2_runPosted_68 : decode cX2_runPosted 68 = .ok (.iadd, 1) := by decide +kernel
theorem dX2_runPosted_69 : decode cX2_runPosted 69 = .ok (.invokevirtual 99, 3) := by decide +kernel
theorem dX2_runPosted_72 : decode cX2_runPosted 72 = .ok (.iinc 2 1, 3) := by decide +kernel
theorem dX2_runPosted_75 : decode cX2_runPosted 75 = .ok (.goto (-70), 3) := by decide +kernel
theorem dX2_runPosted_78 : decode cX2_runPosted 78 = .ok (.aload_n 0, 1) := by decide +kernel
theorem dX2_runPosted_79 : decode cX2_runPosted 79 = .ok (.aload_n 0, 1) := by decide +kernel
theorem dX2_runPosted_80 : decode cX2_runPosted 80 = .ok (.getfield 39, 3) := by decide +kernel
theorem dX2_runPosted_83 : decode cX2_runPosted 83 = .ok (.putfield 49, 3) := by decide +kernel
theorem dX2_runPosted_86 : decode cX2_runPosted 86 = .ok (.return_, 1) := by decide +kernel
theorem dX2_postFromAfar_0 : decode cX2_postFromAfar 0 = .ok (.aload_n 0, 1) := by decide +kernel
theorem dX2_postFromAfar_1 : decode cX2_postFromAfar 1 = .ok (.getfield 18, 3) := by decide +kernel
theorem dX2_postFromAfar_4 : decode cX2_postFromAfar 4 = .ok (.iload_n 1, 1) := by decide +kernel
theorem dX2_postFromAfar_5 : decode cX2_postFromAfar 5 = .ok (.iaload, 1) := by decide +kernel
theorem dX2_postFromAfar_6 : decode cX2_postFromAfar 6 = .ok (.invokestatic 131, 3) := by decide +kernel
theorem dX2_postFromAfar_9 : decode cX2_postFromAfar 9 = .ok (.istore_n 2, 1) := by decide +kernel
theorem dX2_postFromAfar_10 : decode cX2_postFromAfar 10 = .ok (.iconst 1, 1) := by decide +kernel
theorem dX2_postFromAfar_11 : decode cX2_postFromAfar 11 = .ok (.istore_n 3, 1) := by decide +kernel
theorem dX2_postFromAfar_12 : decode cX2_postFromAfar 12 = .ok (.iload_n 3, 1) := by decide +kernel
theorem dX2_postFromAfar_13 : decode cX2_postFromAfar 13 = .ok (.iconst 3, 1) := by decide +kernel
theorem dX2_postFromAfar_14 : decode cX2_postFromAfar 14 = .ok (.if_icmp .gt 61, 3) := by decide +kernel
theorem dX2_postFromAfar_17 : decode cX2_postFromAfar 17 = .ok (.iload_n 2, 1) := by decide +kernel
theorem dX2_postFromAfar_18 : decode cX2_postFromAfar 18 = .ok (.iload_n 3, 1) := by decide +kernel
theorem dX2_postFromAfar_19 : decode cX2_postFromAfar 19 = .ok (.isub, 1) := by decide +kernel
theorem dX2_postFromAfar_20 : decode cX2_postFromAfar 20 = .ok (.bipush (-99), 2) := by decide +kernel
theorem dX2_postFromAfar_22 : decode cX2_postFromAfar 22 = .ok (.invokestatic 151, 3) := by decide +kernel
theorem dX2_postFromAfar_25 : decode cX2_postFromAfar 25 = .ok (.istore 4, 2) := by decide +kernel
theorem dX2_postFromAfar_27 : decode cX2_postFromAfar 27 = .ok (.iload_n 2, 1) := by decide +kernel
theorem dX2_postFromAfar_28 : decode cX2_postFromAfar 28 = .ok (.iload_n 3, 1) := by decide +kernel
theorem dX2_postFromAfar_29 : decode cX2_postFromAfar 29 = .ok (.iadd, 1) := by decide +kernel
theorem dX2_postFromAfar_30 : decode cX2_postFromAfar 30 = .ok (.bipush 99, 2) := by decide +kernel
theorem dX2_postFromAfar_32 : decode cX2_postFromAfar 32 = .ok (.invokestatic 115, 3) := by decide +kernel
theorem dX2_postFromAfar_35 : decode cX2_postFromAfar 35 = .ok (.istore 5, 2) := by decide +kernel
theorem dX2_postFromAfar_37 : decode cX2_postFromAfar 37 = .ok (.aload_n 0, 1) := by decide +kernel
theorem dX2_postFromAfar_38 : decode cX2_postFromAfar 38 = .ok (.iload_n 1, 1) := by decide +kernel
theorem dX2_postFromAfar_39 : decode cX2_postFromAfar 39 = .ok (.aload_n 0, 1) := by decide +kernel
theorem dX2_postFromAfar_40 : decode cX2_postFromAfar 40 = .ok (.getfield 18, 3) := by decide +kernel
theorem dX2_postFromAfar_43 : decode cX2_postFromAfar 43 = .ok (.iload_n 1, 1) := by decide +kernel
theorem dX2_postFromAfar_44 : decode cX2_postFromAfar 44 = .ok (.iaload, 1) := by decide +kernel
theorem dX2_postFromAfar_45 : decode cX2_postFromAfar 45 = .ok (.iload 4, 2) := by decide +kernel
theorem dX2_postFromAfar_47 : decode cX2_postFromAfar 47 = .ok (.iadd, 1) := by decide +kernel
theorem dX2_postFromAfar_48 : decode cX2_postFromAfar 48 = .ok (.iload_n 2, 1) := by decide +kernel
theorem dX2_postFromAfar_49 : decode cX2_postFromAfar 49 = .ok (.isub, 1) := by decide +kernel
theorem dX2_postFromAfar_50 : decode cX2_postFromAfar 50 = .ok (.invokevirtual 147, 3) := by decide +kernel
theorem dX2_postFromAfar_53 : decode cX2_postFromAfar 53 = .ok (.aload_n 0, 1) := by decide +kernel
theorem dX2_postFromAfar_54 : decode cX2_postFromAfar 54 = .ok (.iload_n 1, 1) := by decide +kernel
theorem dX2_postFromAfar_55 : decode cX2_postFromAfar 55 = .ok (.aload_n 0, 1) := by decide +kernel
theorem dX2_postFromAfar_56 : decode cX2_postFromAfar 56 = .ok (.getfield 18, 3) := by decide +kernel
theorem dX2_postFromAfar_59 : decode cX2_postFromAfar 59 = .ok (.iload_n 1, 1) := by decide +kernel
theorem dX2_postFromAfar_60 : decode cX2_postFromAfar 60 = .ok (.iaload, 1) := by decide +kernel
theorem dX2_postFromAfar_61 : decode cX2_postFromAfar 61 = .ok (.iload 5, 2) := by decide +kernel
theorem dX2_postFromAfar_63 : decode cX2_postFromAfar 63 = .ok (.iadd, 1) := by decide +kernel
theorem dX2_postFromAfar_64 : decode cX2_postFromAfar 64 = .ok (.iload_n 2, 1) := by decide +kernel
theorem dX2_postFromAfar_65 : decode cX2_postFromAfar 65 = .ok (.isub, 1) := by decide +kernel
theorem dX2_postFromAfar_66 : decode cX2_postFromAfar 66 = .ok (.invokevirtual 147, 3) := by decide +kernel
theorem dX2_postFromAfar_69 : decode cX2_postFromAfar 69 = .ok (.iinc 3 1, 3) := by decide +kernel
theorem dX2_postFromAfar_72 : decode cX2_postFromAfar 72 = .ok (.goto (-60), 3) := by decide +kernel
theorem dX2_postFromAfar_75 : decode cX2_postFromAfar 75 = .ok (.return_, 1) := by decide +kernel
theorem dX2_addPosted_0 : decode cX2_addPosted 0 = .ok (.aload_n 0, 1) := by decide +kernel
theorem dX2_addPosted_1 : decode cX2_addPosted 1 = .ok (.getfield 26, 3) := by decide +kernel
theorem dX2_addPosted_4 : decode cX2_addPosted 4 = .ok (.iload_n 1, 1) := by decide +kernel
theorem dX2_addPosted_5 : decode cX2_addPosted 5 = .ok (.iaload, 1) := by decide +kernel
theorem dX2_addPosted_6 : decode cX2_addPosted 6 = .ok (.istore_n 3, 1) := by decide +kernel
theorem dX2_addPosted_7 : decode cX2_addPosted 7 = .ok (.iconst 0, 1) := by decide +kernel
theorem dX2_addPosted_8 : decode cX2_addPosted 8 = .ok (.istore 4, 2) := by decide +kernel
theorem dX2_addPosted_10 : decode cX2_addPosted 10 = .ok (.iload 4, 2) := by decide +kernel
theorem dX2_addPosted_12 : decode cX2_addPosted 12 = .ok (.iload_n 3, 1) := by decide +kernel
theorem dX2_addPosted_13 : decode cX2_addPosted 13 = .ok (.if_icmp .ge 23, 3) := by decide +kernel
theorem dX2_addPosted_16 : decode cX2_addPosted 16 = .ok (.aload_n 0, 1) := by decide +kernel
theorem dX2_addPosted_17 : decode cX2_addPosted 17 = .ok (.getfield 23, 3) := by decide +kernel
theorem dX2_addPosted_20 : decode cX2_addPosted 20 = .ok (.iload_n 1, 1) := by decide +kernel
theorem dX2_addPosted_21 : decode cX2_addPosted 21 = .ok (.aaload, 1) := by decide +kernel
theorem dX2_addPosted_22 : decode cX2_addPosted 22 = .ok (.iload 4, 2) := by decide +kernel
theorem dX2_addPosted_24 : decode cX2_addPosted 24 = .ok (.iaload, 1) := by decide +kernel
theorem dX2_addPosted_25 : decode cX2_addPosted 25 = .ok (.iload_n 2, 1) := by decide +kernel
theorem dX2_addPosted_26 : decode cX2_addPosted 26 = .ok (.if_icmp .ne 4, 3) := by decide +kernel
theorem dX2_addPosted_29 : decode cX2_addPosted 29 = .ok (.return_, 1) := by decide +kernel
theorem dX2_addPosted_30 : decode cX2_addPosted 30 = .ok (.iinc 4 1, 3) := by decide +kernel
theorem dX2_addPosted_33 : decode cX2_addPosted 33 = .ok (.goto (-23), 3) := by decide +kernel
theorem dX2_addPosted_36 : decode cX2_addPosted 36 = .ok (.iload_n 3, 1) := by decide +kernel
theorem dX2_addPosted_37 : decode cX2_addPosted 37 = .ok (.bipush 78, 2) := by decide +kernel
theorem dX2_addPosted_39 : decode cX2_addPosted 39 = .ok (.if_icmp .ge 22, 3) := by decide +kernel
theorem dX2_addPosted_42 : decode cX2_addPosted 42 = .ok (.aload_n 0, 1) := by decide +kernel
theorem dX2_addPosted_43 : decode cX2_addPosted 43 = .ok (.getfield 23, 3) := by decide +kernel
theorem dX2_addPosted_46 : decode cX2_addPosted 46 = .ok (.iload_n 1, 1) := by decide +kernel
theorem dX2_addPosted_47 : decode cX2_addPosted 47 = .ok (.aaload, 1) := by decide +kernel
theorem dX2_addPosted_48 : decode cX2_addPosted 48 = .ok (.iload_n 3, 1) := by decide +kernel
theorem dX2_addPosted_49 : decode cX2_addPosted 49 = .ok (.iload_n 2, 1) := by decide +kernel
theorem dX2_addPosted_50 : decode cX2_addPosted 50 = .ok (.iastore, 1) := by decide +kernel
theorem dX2_addPosted_51 : decode cX2_addPosted 51 = .ok (.aload_n 0, 1) := by decide +kernel
theorem dX2_addPosted_52 : decode cX2_addPosted 52 = .ok (.getfield 26, 3) := by decide +kernel
theorem dX2_addPosted_55 : decode cX2_addPosted 55 = .ok (.iload_n 1, 1) := by decide +kernel
theorem dX2_addPosted_56 : decode cX2_addPosted 56 = .ok (.dup2, 1) := by decide +kernel
theorem dX2_addPosted_57 : decode cX2_addPosted 57 = .ok (.iaload, 1) := by decide +kernel
theorem dX2_addPosted_58 : decode cX2_addPosted 58 = .ok (.iconst 1, 1) := by decide +kernel
theorem dX2_addPosted_59 : decode cX2_addPosted 59 = .ok (.iadd, 1) := by decide +kernel
theorem dX2_addPosted_60 : decode cX2_addPosted 60 = .ok (.iastore, 1) := by decide +kernel
theorem dX2_addPosted_61 : decode cX2_addPosted 61 = .ok (.return_, 1) := by decide +kernel
theorem dX2_isPostedTo_0 : decode cX2_isPostedTo 0 = .ok (.iconst 0, 1) := by decide +kernel
theorem dX2_isPostedTo_1 : decode cX2_isPostedTo 1 = .ok (.istore_n 2, 1) := by decide +kernel
theorem dX2_isPostedTo_2 : decode cX2_isPostedTo 2 = .ok (.iload_n 2, 1) := by decide +kernel
theorem dX2_isPostedTo_3 : decode cX2_isPostedTo 3 = .ok (.aload_n 0, 1) := by decide +kernel
theorem dX2_isPostedTo_4 : decode cX2_isPostedTo 4 = .ok (.getfield 26, 3) := by decide +kernel
theorem dX2_isPostedTo_7 : decode cX2_isPostedTo 7 = .ok (.aload_n 0, 1) := by decide +kernel
theorem dX2_isPostedTo_8 : decode cX2_isPostedTo 8 = .ok (.getfield 39, 3) := by decide +kernel
theorem dX2_isPostedTo_11 : decode cX2_isPostedTo 11 = .ok (.iaload, 1) := by decide +kernel
theorem dX2_isPostedTo_12 : decode cX2_isPostedTo 12 = .ok (.if_icmp .ge 29, 3) := by decide +kernel
theorem dX2_isPostedTo_15 : decode cX2_isPostedTo 15 = .ok (.aload_n 0, 1) := by decide +kernel
theorem dX2_isPostedTo_16 : decode cX2_isPostedTo 16 = .ok (.getfield 23, 3) := by decide +kernel
theorem dX2_isPostedTo_19 : decode cX2_isPostedTo 19 = .ok (.aload_n 0, 1) := by decide +kernel
theorem dX2_isPostedTo_20 : decode cX2_isPostedTo 20 = .ok (.getfield 39, 3) := by decide +kernel
theorem dX2_isPostedTo_23 : decode cX2_isPostedTo 23 = .ok (.aaload, 1) := by decide +kernel
theorem dX2_isPostedTo_24 : decode cX2_isPostedTo 24 = .ok (.iload_n 2, 1) := by decide +kernel
theorem dX2_isPostedTo_25 : decode cX2_isPostedTo 25 = .ok (.iaload, 1) := by decide +kernel
theorem dX2_isPostedTo_26 : decode cX2_isPostedTo 26 = .ok (.invokestatic 131, 3) := by decide +kernel
theorem dX2_isPostedTo_29 : decode cX2_isPostedTo 29 = .ok (.iload_n 1, 1) := by decide +kernel
theorem dX2_isPostedTo_30 : decode cX2_isPostedTo 30 = .ok (.if_icmp .ne 5, 3) := by decide +kernel
theorem dX2_isPostedTo_33 : decode cX2_isPostedTo 33 = .ok (.iconst 1, 1) := by decide +kernel
theorem dX2_isPostedTo_34 : decode cX2_isPostedTo 34 = .ok (.ireturn, 1) := by decide +kernel
theorem dX2_isPostedTo_35 : decode cX2_isPostedTo 35 = .ok (.iinc 2 1, 3) := by decide +kernel
theorem dX2_isPostedTo_38 : decode cX2_isPostedTo 38 = .ok (.goto (-36), 3) := by decide +kernel
theorem dX2_isPostedTo_41 : decode cX2_isPostedTo 41 = .ok (.iconst 0, 1) := by decide +kernel
theorem dX2_isPostedTo_42 : decode cX2_isPostedTo 42 = .ok (.ireturn, 1) := by decide +kernel
theorem dX2_fewestPages_0 : decode cX2_fewestPages 0 = .ok (.iconst 0, 1) := by decide +kernel
theorem dX2_fewestPages_1 : decode cX2_fewestPages 1 = .ok (.istore_n 2, 1) := by decide +kernel
theorem dX2_fewestPages_2 : decode cX2_fewestPages 2 = .ok (.iload_n 2, 1) := by decide +kernel
theorem dX2_fewestPages_3 : decode cX2_fewestPages 3 = .ok (.getstatic 154, 3) := by decide +kernel
theorem dX2_fewestPages_6 : decode cX2_fewestPages 6 = .ok (.arraylength, 1) := by decide +kernel
theorem dX2_fewestPages_7 : decode cX2_fewestPages 7 = .ok (.if_icmp .ge 42, 3) := by decide +kernel
theorem dX2_fewestPages_10 : decode cX2_fewestPages 10 = .ok (.getstatic 154, 3) := by decide +kernel
theorem dX2_fewestPages_13 : decode cX2_fewestPages 13 = .ok (.iload_n 2, 1) := by decide +kernel
theorem dX2_fewestPages_14 : decode cX2_fewestPages 14 = .ok (.iaload, 1) := by decide +kernel
theorem dX2_fewestPages_15 : decode cX2_fewestPages 15 = .ok (.iconst 1, 1) := by decide +kernel
theorem dX2_fewestPages_16 : decode cX2_fewestPages 16 = .ok (.aload_n 0, 1) := by decide +kernel
theorem dX2_fewestPages_17 : decode cX2_fewestPages 17 = .ok (.getfield 43, 3) := by decide +kernel
theorem dX2_fewestPages_20 : decode cX2_fewestPages 20 = .ok (.ishl, 1) := by decide +kernel
theorem dX2_fewestPages_21 : decode cX2_fewestPages 21 = .ok (.if_icmp .ge 22, 3) := by decide +kernel
theorem dX2_fewestPages_24 : decode cX2_fewestPages 24 = .ok (.aload_n 0, 1) := by decide +kernel
theorem dX2_fewestPages_25 : decode cX2_fewestPages 25 = .ok (.getstatic 154, 3) := by decide +kernel
theorem dX2_fewestPages_28 : decode cX2_fewestPages 28 = .ok (.iload_n 2, 1) := by decide +kernel
theorem dX2_fewestPages_29 : decode cX2_fewestPages 29 = .ok (.iaload, 1) := by decide +kernel
theorem dX2_fewestPages_30 : decode cX2_fewestPages 30 = .ok (.iload_n 1, 1) := by decide +kernel
theorem dX2_fewestPages_31 : decode cX2_fewestPages 31 = .ok (.invokevirtual 157, 3) := by decide +kernel
theorem dX2_fewestPages_34 : decode cX2_fewestPages 34 = .ok (.ifCond .eq 9, 3) := by decide +kernel
theorem dX2_fewestPages_37 : decode cX2_fewestPages 37 = .ok (.getstatic 154, 3) := by decide +kernel
theorem dX2_fewestPages_40 : decode cX2_fewestPages 40 = .ok (.iload_n 2, 1) := by decide +kernel
theorem dX2_fewestPages_41 : decode cX2_fewestPages 41 = .ok (.iaload, 1) := by decide +kernel
theorem dX2_fewestPages_42 : decode cX2_fewestPages 42 = .ok (.ireturn, 1) := by decide +kernel
theorem dX2_fewestPages_43 : decode cX2_fewestPages 43 = .ok (.iinc 2 1, 3) := by decide +kernel
theorem dX2_fewestPages_46 : decode cX2_fewestPages 46 = .ok (.goto (-44), 3) := by decide +kernel
theorem dX2_fewestPages_49 : decode cX2_fewestPages 49 = .ok (.iconst 0, 1) := by decide +kernel
theorem dX2_fewestPages_50 : decode cX2_fewestPages 50 = .ok (.ireturn, 1) := by decide +kernel
theorem dX2_settles_0 : decode cX2_settles 0 = .ok (.iconst 0, 1) := by decide +kernel
theorem dX2_settles_1 : decode cX2_settles 1 = .ok (.istore_n 3, 1) := by decide +kernel
theorem dX2_settles_2 : decode cX2_settles 2 = .ok (.iconst 0, 1) := by decide +kernel
theorem dX2_settles_3 : decode cX2_settles 3 = .ok (.istore 4, 2) := by decide +kernel
theorem dX2_settles_5 : decode cX2_settles 5 = .ok (.iload 4, 2) := by decide +kernel
theorem dX2_settles_7 : decode cX2_settles 7 = .ok (.aload_n 0, 1) := by decide +kernel
theorem dX2_settles_8 : decode cX2_settles 8 = .ok (.getfield 43, 3) := by decide +kernel
theorem dX2_settles_11 : decode cX2_settles 11 = .ok (.if_icmp .ge 28, 3) := by decide +kernel
theorem dX2_settles_14 : decode cX2_settles 14 = .ok (.iload_n 3, 1) := by decide +kernel
theorem dX2_settles_15 : decode cX2_settles 15 = .ok (.iload_n 1, 1) := by decide +kernel
theorem dX2_settles_16 : decode cX2_settles 16 = .ok (.iload 4, 2) := by decide +kernel
theorem dX2_settles_18 : decode cX2_settles 18 = .ok (.ishr, 1) := by decide +kernel
theorem dX2_settles_19 : decode cX2_settles 19 = .ok (.iconst 1, 1) := by decide +kernel
theorem dX2_settles_20 : decode cX2_settles 20 = .ok (.iand, 1) := by decide +kernel
theorem dX2_settles_21 : decode cX2_settles 21 = .ok (.bipush 7, 2) := by decide +kernel
theorem dX2_settles_23 : decode cX2_settles 23 = .ok (.imul, 1) := by decide +kernel
theorem dX2_settles_24 : decode cX2_settles 24 = .ok (.aload_n 0, 1) := by decide +kernel
theorem dX2_settles_25 : decode cX2_settles 25 = .ok (.iload 4, 2) := by decide +kernel
theorem dX2_settles_27 : decode cX2_settles 27 = .ok (.invokevirtual 112, 3) := by decide +kernel
theorem dX2_settles_30 : decode cX2_settles 30 = .ok (.ishl, 1) := by decide +kernel
theorem dX2_settles_31 : decode cX2_settles 31 = .ok (.ior, 1) := by decide +kernel
theorem dX2_settles_32 : decode cX2_settles 32 = .ok (.istore_n 3, 1) := by decide +kernel
theorem dX2_settles_33 : decode cX2_settles 33 = .ok (.iinc 4 1, 3) := by decide +kernel
theorem dX2_settles_36 : decode cX2_settles 36 = .ok (.goto (-31), 3) := by decide +kernel
theorem dX2_settles_39 : decode cX2_settles 39 = .ok (.aload_n 0, 1) := by decide +kernel
theorem dX2_settles_40 : decode cX2_settles 40 = .ok (.getfield 36, 3) := by decide +kernel
theorem dX2_settles_43 : decode cX2_settles 43 = .ok (.iconst 0, 1) := by decide +kernel
theorem dX2_settles_44 : decode cX2_settles 44 = .ok (.invokestatic 161, 3) := by decide +kernel
theorem dX2_settles_47 : decode cX2_settles 47 = .ok (.iconst 0, 1) := by decide +kernel
theorem dX2_settles_48 : decode cX2_settles 48 = .ok (.istore 4, 2) := by decide +kernel
theorem dX2_settles_50 : decode cX2_settles 50 = .ok (.iload 4, 2) := by decide +kernel
theorem dX2_settles_52 : decode cX2_settles 52 = .ok (.iload_n 2, 1) := by decide +kernel
theorem dX2_settles_53 : decode cX2_settles 53 = .ok (.if_icmp .ge 64, 3) := by decide +kernel
theorem dX2_settles_56 : decode cX2_settles 56 = .ok (.aload_n 0, 1) := by decide +kernel
theorem dX2_settles_57 : decode cX2_settles 57 = .ok (.getfield 32, 3) := by decide +kernel
theorem dX2_settles_60 : decode cX2_settles 60 = .ok (.iload 4, 2) := by decide +kernel
theorem dX2_settles_62 : decode cX2_settles 62 = .ok (.baload, 1) := by decide +kernel
theorem dX2_settles_63 : decode cX2_settles 63 = .ok (.istore 5, 2) := by decide +kernel
theorem dX2_settles_65 : decode cX2_settles 65 = .ok (.aload_n 0, 1) := by decide +kernel
theorem dX2_settles_66 : decode cX2_settles 66 = .ok (.getfield 36, 3) := by decide +kernel
theorem dX2_settles_69 : decode cX2_settles 69 = .ok (.iload 4, 2) := by decide +kernel
theorem dX2_settles_71 : decode cX2_settles 71 = .ok (.iload_n 3, 1) := by decide +kernel
theorem dX2_settles_72 : decode cX2_settles 72 = .ok (.iand, 1) := by decide +kernel
theorem dX2_settles_73 : decode cX2_settles 73 = .ok (.baload, 1) := by decide +kernel
theorem dX2_settles_74 : decode cX2_settles 74 = .ok (.istore 6, 2) := by decide +kernel
theorem dX2_settles_76 : decode cX2_settles 76 = .ok (.iload 5, 2) := by decide +kernel
theorem dX2_settles_78 : decode cX2_settles 78 = .ok (.ifCond .eq 17, 3) := by decide +kernel
theorem dX2_settles_81 : decode cX2_settles 81 = .ok (.iload 6, 2) := by decide +kernel
theorem dX2_settles_83 : decode cX2_settles 83 = .ok (.ifCond .eq 12, 3) := by decide +kernel
theorem dX2_settles_86 : decode cX2_settles 86 = .ok (.iload 5, 2) := by decide +kernel
theorem dX2_settles_88 : decode cX2_settles 88 = .ok (.iload 6, 2) := by decide +kernel
theorem dX2_settles_90 : decode cX2_settles 90 = .ok (.if_icmp .eq 5, 3) := by decide +kernel
theorem dX2_settles_93 : decode cX2_settles 93 = .ok (.iconst 0, 1) := by decide +kernel
theorem dX2_settles_94 : decode cX2_settles 94 = .ok (.ireturn, 1) := by decide +kernel
theorem dX2_settles_95 : decode cX2_settles 95 = .ok (.iload 5, 2) := by decide +kernel
theorem dX2_settles_97 : decode cX2_settles 97 = .ok (.ifCond .eq 14, 3) := by decide +kernel
theorem dX2_settles_100 : decode cX2_settles 100 = .ok (.aload_n 0, 1) := by decide +kernel
theorem dX2_settles_101 : decode cX2_settles 101 = .ok (.getfield 36, 3) := by decide +kernel
theorem dX2_settles_104 : decode cX2_settles 104 = .ok (.iload 4, 2) := by decide +kernel
theorem dX2_settles_106 : decode cX2_settles 106 = .ok (.iload_n 3, 1) := by decide +kernel
theorem dX2_settles_107 : decode cX2_settles 107 = .ok (.iand, 1) := by decide +kernel
theorem dX2_settles_108 : decode cX2_settles 108 = .ok (.iload 5, 2) := by decide +kernel
theorem dX2_settles_110 : decode cX2_settles 110 = .ok (.bastore, 1) := by decide +kernel
theorem dX2_settles_111 : decode cX2_settles 111 = .ok (.iinc 4 1, 3) := by decide +kernel
theorem dX2_settles_114 : decode cX2_settles 114 = .ok (.goto (-64), 3) := by decide +kernel
theorem dX2_settles_117 : decode cX2_settles 117 = .ok (.iconst 1, 1) := by decide +kernel
theorem dX2_settles_118 : decode cX2_settles 118 = .ok (.ireturn, 1) := by decide +kernel
theorem dX3_init_0 : decode cX3_init 0 = .ok (.aload_n 0, 1) := by decide +kernel
theorem dX3_init_1 : decode cX3_init 1 = .ok (.invokespecial 3, 3) := by decide +kernel
theorem dX3_init_4 : decode cX3_init 4 = .ok (.aload_n 0, 1) := by decide +kernel
theorem dX3_init_5 : decode cX3_init 5 = .ok (.sipush 256, 3) := by decide +kernel
theorem dX3_init_8 : decode cX3_init 8 = .ok (.newarray .int, 2) := by decide +kernel
theorem dX3_init_10 : decode cX3_init 10 = .ok (.putfield 9, 3) := by decide +kernel
theorem dX3_init_13 : decode cX3_init 13 = .ok (.return_, 1) := by decide +kernel
theorem dX3_fewestLines_0 : decode cX3_fewestLines 0 = .ok (.iload_n 3, 1) := by decide +kernel
theorem dX3_fewestLines_1 : decode cX3_fewestLines 1 = .ok (.invokestatic 15, 3) := by decide +kernel
theorem dX3_fewestLines_4 : decode cX3_fewestLines 4 = .ok (.istore 4, 2) := by decide +kernel
theorem dX3_fewestLines_6 : decode cX3_fewestLines 6 = .ok (.aload_n 0, 1) := by decide +kernel
theorem dX3_fewestLines_7 : decode cX3_fewestLines 7 = .ok (.iload_n 3, 1) := by decide +kernel
theorem dX3_fewestLines_8 : decode cX3_fewestLines 8 = .ok (.invokevirtual 21, 3) := by decide +kernel
theorem dX3_fewestLines_11 : decode cX3_fewestLines 11 = .ok (.istore 5, 2) := by decide +kernel
theorem dX3_fewestLines_13 : decode cX3_fewestLines 13 = .ok (.iconst 0, 1) := by decide +kernel
theorem dX3_fewestLines_14 : decode cX3_fewestLines 14 = .ok (.istore 6, 2) := by decide +kernel
theorem dX3_fewestLines_16 : decode cX3_fewestLines 16 = .ok (.iload 6, 2) := by decide +kernel
theorem dX3_fewestLines_18 : decode cX3_fewestLines 18 = .ok (.iload 4, 2) := by decide +kernel
theorem dX3_fewestLines_20 : decode cX3_fewestLines 20 = .ok (.if_icmp .gt 91, 3) := by decide +kernel
theorem dX3_fewestLines_23 : decode cX3_fewestLines 23 = .ok (.iconst 0, 1) := by decide +kernel
theorem dX3_fewestLines_24 : decode cX3_fewestLines 24 = .ok (.istore 7, 2) := by decide +kernel
theorem dX3_fewestLines_26 : decode cX3_fewestLines 26 = .ok (.iload 7, 2) := by decide +kernel
theorem dX3_fewestLines_28 : decode cX3_fewestLines 28 = .ok (.iload 5, 2) := by decide +kernel
theorem dX3_fewestLines_30 : decode cX3_fewestLines 30 = .ok (.if_icmp .ge 75, 3) := by decide +kernel
theorem dX3_fewestLines_33 : decode cX3_fewestLines 33 = .ok (.aload_n 0, 1) := by decide +kernel
theorem dX3_fewestLines_34 : decode cX3_fewestLines 34 = .ok (.getfield 9, 3) := by decide +kernel
theorem dX3_fewestLines_37 : decode cX3_fewestLines 37 = .ok (.iload 7, 2) := by decide +kernel
theorem dX3_fewestLines_39 : decode cX3_fewestLines 39 = .ok (.iaload, 1) := by decide +kernel
theorem dX3_fewestLines_40 : decode cX3_fewestLines 40 = .ok (.istore 8, 2) := by decide +kernel
theorem dX3_fewestLines_42 : decode cX3_fewestLines 42 = .ok (.iload 7, 2) := by decide +kernel
theorem dX3_fewestLines_44 : decode cX3_fewestLines 44 = .ok (.invokestatic 15, 3) := by decide +kernel
theorem dX3_fewestLines_47 : decode cX3_fewestLines 47 = .ok (.iload 6, 2) := by decide +kernel
theorem dX3_fewestLines_49 : decode cX3_fewestLines 49 = .ok (.if_icmp .ne 50, 3) := by decide +kernel
theorem dX3_fewestLines_52 : decode cX3_fewestLines 52 = .ok (.iload 8, 2) := by decide +kernel
theorem dX3_fewestLines_54 : decode cX3_fewestLines 54 = .ok (.iconst (-1), 1) := by decide +kernel
theorem dX3_fewestLines_55 : decode cX3_fewestLines 55 = .ok (.if_icmp .ne 6, 3) := by decide +kernel
theorem dX3_fewestLines_58 : decode cX3_fewestLines 58 = .ok (.goto 41, 3) := by decide +kernel
theorem dX3_fewestLines_61 : decode cX3_fewestLines 61 = .ok (.aload_n 1, 1) := by decide +kernel
theorem dX3_fewestLines_62 : decode cX3_fewestLines 62 = .ok (.iload 8, 2) := by decide +kernel
theorem dX3_fewestLines_64 : decode cX3_fewestLines 64 = .ok (.putfield 24, 3) := by decide +kernel
theorem dX3_fewestLines_67 : decode cX3_fewestLines 67 = .ok (.aload_n 2, 1) := by decide +kernel
theorem dX3_fewestLines_68 : decode cX3_fewestLines 68 = .ok (.aload_n 1, 1) := by decide +kernel
theorem dX3_fewestLines_69 : decode cX3_fewestLines 69 = .ok (.iconst 4, 1) := by decide +kernel
theorem dX3_fewestLines_70 : decode cX3_fewestLines 70 = .ok (.invokevirtual 30, 3) := by decide +kernel
theorem dX3_fewestLines_73 : decode cX3_fewestLines 73 = .ok (.istore 9, 2) := by decide +kernel
theorem dX3_fewestLines_75 : decode cX3_fewestLines 75 = .ok (.iload 9, 2) := by decide +kernel
theorem dX3_fewestLines_77 : decode cX3_fewestLines 77 = .ok (.iconst (-1), 1) := by decide +kernel
theorem dX3_fewestLines_78 : decode cX3_fewestLines 78 = .ok (.if_icmp .ne 6, 3) := by decide +kernel
theorem dX3_fewestLines_81 : decode cX3_fewestLines 81 = .ok (.iload 8, 2) := by decide +kernel
theorem dX3_fewestLines_83 : decode cX3_fewestLines 83 = .ok (.ireturn, 1) := by decide +kernel
theorem dX3_fewestLines_84 : decode cX3_fewestLines 84 = .ok (.aload_n 0, 1) := by decide +kernel
theorem dX3_fewestLines_85 : decode cX3_fewestLines 85 = .ok (.iload 8, 2) := by decide +kernel
theorem dX3_fewestLines_87 : decode cX3_fewestLines 87 = .ok (.aload_n 2, 1) := by decide +kernel
theorem dX3_fewestLines_88 : decode cX3_fewestLines 88 = .ok (.aload_n 1, 1) := by decide +kernel
theorem dX3_fewestLines_89 : decode cX3_fewestLines 89 = .ok (.iload 9, 2) := by decide +kernel
theorem dX3_fewestLines_91 : decode cX3_fewestLines 91 = .ok (.invokevirtual 36, 3) := by decide +kernel
theorem dX3_fewestLines_94 : decode cX3_fewestLines 94 = .ok (.iload 5, 2) := by decide +kernel
theorem dX3_fewestLines_96 : decode cX3_fewestLines 96 = .ok (.invokevirtual 39, 3) := by decide +kernel
theorem dX3_fewestLines_99 : decode cX3_fewestLines 99 = .ok (.iinc 7 1, 3) := by decide +kernel
theorem dX3_fewestLines_102 : decode cX3_fewestLines 102 = .ok (.goto (-76), 3) := by decide +kernel
theorem dX3_fewestLines_105 : decode cX3_fewestLines 105 = .ok (.iinc 6 1, 3) := by decide +kernel
theorem dX3_fewestLines_108 : decode cX3_fewestLines 108 = .ok (.goto (-92), 3) := by decide +kernel
theorem dX3_fewestLines_111 : decode cX3_fewestLines 111 = .ok (.iconst (-1), 1) := by decide +kernel
theorem dX3_fewestLines_112 : decode cX3_fewestLines 112 = .ok (.ireturn, 1) := by decide +kernel
theorem dX3_tellChoices_0 : decode cX3_tellChoices 0 = .ok (.iconst 1, 1) := by decide +kernel
theorem dX3_tellChoices_1 : decode cX3_tellChoices 1 = .ok (.istore_n 2, 1) := by decide +kernel
theorem dX3_tellChoices_2 : decode cX3_tellChoices 2 = .ok (.aload_n 0, 1) := by decide +kernel
theorem dX3_tellChoices_3 : decode cX3_tellChoices 3 = .ok (.getfield 9, 3) := by decide +kernel
theorem dX3_tellChoices_6 : decode cX3_tellChoices 6 = .ok (.iconst 0, 1) := by decide +kernel
theorem dX3_tellChoices_7 : decode cX3_tellChoices 7 = .ok (.iconst 0, 1) := by decide +kernel
theorem dX3_tellChoices_8 : decode cX3_tellChoices 8 = .ok (.iastore, 1) := by decide +kernel
theorem dX3_tellChoices_9 : decode cX3_tellChoices 9 = .ok (.iconst 0, 1) := by decide +kernel
theorem dX3_tellChoices_10 : decode cX3_tellChoices 10 = .ok (.istore_n 3, 1) := by decide +kernel
theorem dX3_tellChoices_11 : decode cX3_tellChoices 11 = .ok (.iload_n 3, 1) := by decide +kernel
theorem dX3_tellChoices_12 : decode cX3_tellChoices 12 = .ok (.bipush 16, 2) := by decide +kernel
theorem dX3_tellChoices_14 : decode cX3_tellChoices 14 = .ok (.if_icmp .ge 79, 3) := by decide +kernel
theorem dX3_tellChoices_17 : decode cX3_tellChoices 17 = .ok (.iload_n 1, 1) := by decide +kernel
theorem dX3_tellChoices_18 : decode cX3_tellChoices 18 = .ok (.iload_n 3, 1) := by decide +kernel
theorem dX3_tellChoices_19 : decode cX3_tellChoices 19 = .ok (.ishr, 1) := by decide +kernel
theorem dX3_tellChoices_20 : decode cX3_tellChoices 20 = .ok (.iconst 1, 1) := by decide +kernel
theorem dX3_tellChoices_21 : decode cX3_tellChoices 21 = .ok (.iand, 1) := by decide +kernel
theorem dX3_tellChoices_22 : decode cX3_tellChoices 22 = .ok (.ifCond .ne 6, 3) := by decide +kernel
theorem dX3_tellChoices_25 : decode cX3_tellChoices 25 = .ok (.goto 62, 3) := by decide +kernel
theorem dX3_tellChoices_28 : decode cX3_tellChoices 28 = .ok (.iconst 0, 1) := by decide +kernel
theorem dX3_tellChoices_29 : decode cX3_tellChoices 29 = .ok (.istore 4, 2) := by decide +kernel
theorem dX3_tellChoices_31 : decode cX3_tellChoices 31 = .ok (.iload 4, 2) := by decide +kernel
theorem dX3_tellChoices_33 : decode cX3_tellChoices 33 = .ok (.iload_n 2, 1) := by decide +kernel
theorem dX3_tellChoices_34 : decode cX3_tellChoices 34 = .ok (.if_icmp .ge 41, 3) := by decide +kernel
theorem dX3_tellChoices_37 : decode cX3_tellChoices 37 = .ok (.iload_n 2, 1) := by decide +kernel
theorem dX3_tellChoices_38 : decode cX3_tellChoices 38 = .ok (.iload 4, 2) := by decide +kernel
theorem dX3_tellChoices_40 : decode cX3_tellChoices 40 = .ok (.iadd, 1) := by decide +kernel
theorem dX3_tellChoices_41 : decode cX3_tellChoices 41 = .ok (.aload_n 0, 1) := by decide +kernel
theorem dX3_tellChoices_42 : decode cX3_tellChoices 42 = .ok (.getfield 9, 3) := by decide +kernel
theorem dX3_tellChoices_45 : decode cX3_tellChoices 45 = .ok (.arraylength, 1) := by decide +kernel
theorem dX3_tellChoices_46 : decode cX3_tellChoices 46 = .ok (.if_icmp .ge 29, 3) := by decide +kernel
theorem dX3_tellChoices_49 : decode cX3_tellChoices 49 = .ok (.aload_n 0, 1) := by decide +kernel
theorem dX3_tellChoices_50 : decode cX3_tellChoices 50 = .ok (.getfield 9, 3) := by decide +kernel
theorem dX3_tellChoices_53 : decode cX3_tellChoices 53 = .ok (.iload_n 2, 1) := by decide +kernel
theorem dX3_tellChoices_54 : decode cX3_tellChoices 54 = .ok (.iload 4, 2) := by decide +kernel
theorem dX3_tellChoices_56 : decode cX3_tellChoices 56 = .ok (.iadd, 1) := by decide +kernel
theorem dX3_tellChoices_57 : decode cX3_tellChoices 57 = .ok (.aload_n 0, 1) := by decide +kernel
theorem dX3_tellChoices_58 : decode cX3_tellChoices 58 = .ok (.getfield 9, 3) := by decide +kernel
theorem dX3_tellChoices_61 : decode cX3_tellChoices 61 = .ok (.iload 4, 2) := by decide +kernel
theorem dX3_tellChoices_63 : decode cX3_tellChoices 63 = .ok (.iaload, 1) := by decide +kernel
theorem dX3_tellChoices_64 : decode cX3_tellChoices 64 = .ok (.iconst 1, 1) := by decide +kernel
theorem dX3_tellChoices_65 : decode cX3_tellChoices 65 = .ok (.iload_n 3, 1) := by decide +kernel
theorem dX3_tellChoices_66 : decode cX3_tellChoices 66 = .ok (.ishl, 1) := by decide +kernel
theorem dX3_tellChoices_67 : decode cX3_tellChoices 67 = .ok (.ior, 1) := by decide +kernel
theorem dX3_tellChoices_68 : decode cX3_tellChoices 68 = .ok (.iastore, 1) := by decide +kernel
theorem dX3_tellChoices_69 : decode cX3_tellChoices 69 = .ok (.iinc 4 1, 3) := by decide +kernel
theorem dX3_tellChoices_72 : decode cX3_tellChoices 72 = .ok (.goto (-41), 3) := by decide +kernel
theorem dX3_tellChoices_75 : decode cX3_tellChoices 75 = .ok (.iconst 2, 1) := by decide +kernel
theorem dX3_tellChoices_76 : decode cX3_tellChoices 76 = .ok (.iload_n 2, 1) := by decide +kernel
theorem dX3_tellChoices_77 : decode cX3_tellChoices 77 = .ok (.imul, 1) := by decide +kernel
theorem dX3_tellChoices_78 : decode cX3_tellChoices 78 = .ok (.aload_n 0, 1) := by decide +kernel
theorem dX3_tellChoices_79 : decode cX3_tellChoices 79 = .ok (.getfield 9, 3) := by decide +kernel
theorem dX3_tellChoices_82 : decode cX3_tellChoices 82 = .ok (.arraylength, 1) := by decide +kernel
theorem dX3_tellChoices_83 : decode cX3_tellChoices 83 = .ok (.invokestatic 43, 3) := by decide +kernel
theorem dX3_tellChoices_86 : decode cX3_tellChoices 86 = .ok (.istore_n 2, 1) := by decide +kernel
theorem dX3_tellChoices_87 : decode cX3_tellChoices 87 = .ok (.iinc 3 1, 3) := by decide +kernel
theorem dX3_tellChoices_90 : decode cX3_tellChoices 90 = .ok (.goto (-79), 3) := by decide +kernel
theorem dX3_tellChoices_93 : decode cX3_tellChoices 93 = .ok (.iload_n 2, 1) := by decide +kernel
theorem dX3_tellChoices_94 : decode cX3_tellChoices 94 = .ok (.ireturn, 1) := by decide +kernel
theorem dX3_ruleOut_0 : decode cX3_ruleOut 0 = .ok (.iconst 0, 1) := by decide +kernel
theorem dX3_ruleOut_1 : decode cX3_ruleOut 1 = .ok (.istore 4, 2) := by decide +kernel
theorem dX3_ruleOut_3 : decode cX3_ruleOut 3 = .ok (.iload 4, 2) := by decide +kernel
theorem dX3_ruleOut_5 : decode cX3_ruleOut 5 = .ok (.iload_n 3, 1) := by decide +kernel
theorem dX3_ruleOut_6 : decode cX3_ruleOut 6 = .ok (.if_icmp .ge 42, 3) := by decide +kernel
theorem dX3_ruleOut_9 : decode cX3_ruleOut 9 = .ok (.aload_n 0, 1) := by decide +kernel
theorem dX3_ruleOut_10 : decode cX3_ruleOut 10 = .ok (.getfield 9, 3) := by decide +kernel
theorem dX3_ruleOut_13 : decode cX3_ruleOut 13 = .ok (.iload 4, 2) := by decide +kernel
theorem dX3_ruleOut_15 : decode cX3_ruleOut 15 = .ok (.iaload, 1) := by decide +kernel
theorem dX3_ruleOut_16 : decode cX3_ruleOut 16 = .ok (.iconst (-1), 1) := by decide +kernel
theorem dX3_ruleOut_17 : decode cX3_ruleOut 17 = .ok (.if_icmp .eq 25, 3) := by decide +kernel
theorem dX3_ruleOut_20 : decode cX3_ruleOut 20 = .ok (.aload_n 0, 1) := by decide +kernel
theorem dX3_ruleOut_21 : decode cX3_ruleOut 21 = .ok (.getfield 9, 3) := by decide +kernel
theorem dX3_ruleOut_24 : decode cX3_ruleOut 24 = .ok (.iload 4, 2) := by decide +kernel
theorem dX3_ruleOut_26 : decode cX3_ruleOut 26 = .ok (.iaload, 1) := by decide +kernel
theorem dX3_ruleOut_27 : decode cX3_ruleOut 27 = .ok (.iload_n 1, 1) := by decide +kernel
theorem dX3_ruleOut_28 : decode cX3_ruleOut 28 = .ok (.ixor, 1) := by decide +kernel
theorem dX3_ruleOut_29 : decode cX3_ruleOut 29 = .ok (.iload_n 2, 1) := by decide +kernel
theorem dX3_ruleOut_30 : decode cX3_ruleOut 30 = .ok (.iand, 1) := by decide +kernel
theorem dX3_ruleOut_31 : decode cX3_ruleOut 31 = .ok (.ifCond .ne 11, 3) := by decide +kernel
theorem dX3_ruleOut_34 : decode cX3_ruleOut 34 = .ok (.aload_n 0, 1) := by decide +kernel
theorem dX3_ruleOut_35 : decode cX3_ruleOut 35 = .ok (.getfield 9, 3) := by decide +kernel
theorem dX3_ruleOut_38 : decode cX3_ruleOut 38 = .ok (.iload 4, 2) := by decide +kernel
theorem dX3_ruleOut_40 : decode cX3_ruleOut 40 = .ok (.iconst (-1), 1) := by decide +kernel
theorem dX3_ruleOut_41 : decode cX3_ruleOut 41 = .ok (.iastore, 1) := by decide +kernel
theorem dX3_ruleOut_42 : decode cX3_ruleOut 42 = .ok (.iinc 4 1, 3) := by decide +kernel
theorem dX3_ruleOut_45 : decode cX3_ruleOut 45 = .ok (.goto (-42), 3) := by decide +kernel
theorem dX3_ruleOut_48 : decode cX3_ruleOut 48 = .ok (.return_, 1) := by decide +kernel
theorem dX4_init_0 : decode cX4_init 0 = .ok (.aload_n 0, 1) := by decide +kernel
theorem dX4_init_1 : decode cX4_init 1 = .ok (.invokespecial 3, 3) := by decide +kernel
theorem dX4_init_4 : decode cX4_init 4 = .ok (.aload_n 0, 1) := by decide +kernel
theorem dX4_init_5 : decode cX4_init 5 = .ok (.iconst 4, 1) := by decide +kernel
theorem dX4_init_6 : decode cX4_init 6 = .ok (.newarray .int, 2) := by decide +kernel
theorem dX4_init_8 : decode cX4_init 8 = .ok (.putfield 9, 3) := by decide +kernel
theorem dX4_init_11 : decode cX4_init 11 = .ok (.aload_n 0, 1) := by decide +kernel
theorem dX4_init_12 : decode cX4_init 12 = .ok (.iconst 0, 1) := by decide +kernel
theorem dX4_init_13 : decode cX4_init 13 = .ok (.putfield 15, 3) := by decide +kernel
theorem dX4_init_16 : decode cX4_init 16 = .ok (.aload_n 0, 1) := by decide +kernel
theorem dX4_init_17 : decode cX4_init 17 = .ok (.aload_n 1, 1) := by decide +kernel
theorem dX4_init_18 : decode cX4_init 18 = .ok (.putfield 19, 3) := by decide +kernel
theorem dX4_init_21 : decode cX4_init 21 = .ok (.aload_n 0, 1) := by decide +kernel
theorem dX4_init_22 : decode cX4_init 22 = .ok (.aload_n 1, 1) := by decide +kernel
theorem dX4_init_23 : decode cX4_init 23 = .ok (.putfield 23, 3) := by decide +kernel
theorem dX4_init_26 : decode cX4_init 26 = .ok (.return_, 1) := by decide +kernel
theorem dX4_set_0 : decode cX4_set 0 = .ok (.aload_n 1, 1) := by decide +kernel
theorem dX4_set_1 : decode cX4_set 1 = .ok (.invokevirtual 26, 3) := by decide +kernel
theorem dX4_set_4 : decode cX4_set 4 = .ok (.aload_n 2, 1) := by decide +kernel
theorem dX4_set_5 : decode cX4_set 5 = .ok (.invokevirtual 26, 3) := by decide +kernel
theorem dX4_set_8 : decode cX4_set 8 = .ok (.aload_n 0, 1) := by decide +kernel
theorem dX4_set_9 : decode cX4_set 9 = .ok (.aload_n 1, 1) := by decide +kernel
theorem dX4_set_10 : decode cX4_set 10 = .ok (.putfield 19, 3) := by decide +kernel
theorem dX4_set_13 : decode cX4_set 13 = .ok (.aload_n 0, 1) := by decide +kernel
theorem dX4_set_14 : decode cX4_set 14 = .ok (.aload_n 2, 1) := by decide +kernel
theorem dX4_set_15 : decode cX4_set 15 = .ok (.putfield 23, 3) := by decide +kernel
theorem dX4_set_18 : decode cX4_set 18 = .ok (.aload_n 0, 1) := by decide +kernel
theorem dX4_set_19 : decode cX4_set 19 = .ok (.iload_n 3, 1) := by decide +kernel
theorem dX4_set_20 : decode cX4_set 20 = .ok (.putfield 15, 3) := by decide +kernel
theorem dX4_set_23 : decode cX4_set 23 = .ok (.return_, 1) := by decide +kernel
theorem dX4_lineOf_0 : decode cX4_lineOf 0 = .ok (.iload_n 2, 1) := by decide +kernel
theorem dX4_lineOf_1 : decode cX4_lineOf 1 = .ok (.bipush 7, 2) := by decide +kernel
theorem dX4_lineOf_3 : decode cX4_lineOf 3 = .ok (.iand, 1) := by decide +kernel
theorem dX4_lineOf_4 : decode cX4_lineOf 4 = .ok (.iconst 1, 1) := by decide +kernel
theorem dX4_lineOf_5 : decode cX4_lineOf 5 = .ok (.ishl, 1) := by decide +kernel
theorem dX4_lineOf_6 : decode cX4_lineOf 6 = .ok (.iload_n 1, 1) := by decide +kernel
theorem dX4_lineOf_7 : decode cX4_lineOf 7 = .ok (.bipush 24, 2) := by decide +kernel
theorem dX4_lineOf_9 : decode cX4_lineOf 9 = .ok (.ishr, 1) := by decide +kernel
theorem dX4_lineOf_10 : decode cX4_lineOf 10 = .ok (.iconst 1, 1) := by decide +kernel
theorem dX4_lineOf_11 : decode cX4_lineOf 11 = .ok (.iand, 1) := by decide +kernel
theorem dX4_lineOf_12 : decode cX4_lineOf 12 = .ok (.ior, 1) := by decide +kernel
theorem dX4_lineOf_13 : decode cX4_lineOf 13 = .ok (.ireturn, 1) := by decide +kernel
theorem dX4_after_0 : decode cX4_after 0 = .ok (.aload_n 0, 1) := by decide +kernel
theorem dX4_after_1 : decode cX4_after 1 = .ok (.iload_n 1, 1) := by decide +kernel
theorem dX4_after_2 : decode cX4_after 2 = .ok (.iload_n 2, 1) := by decide +kernel
theorem dX4_after_3 : decode cX4_after 3 = .ok (.invokevirtual 31, 3) := by decide +kernel
theorem dX4_after_6 : decode cX4_after 6 = .ok (.istore_n 3, 1) := by decide +kernel
theorem dX4_after_7 : decode cX4_after 7 = .ok (.aload_n 0, 1) := by decide +kernel
theorem dX4_after_8 : decode cX4_after 8 = .ok (.getfield 15, 3) := by decide +kernel
theorem dX4_after_11 : decode cX4_after 11 = .ok (.iload_n 3, 1) := by decide +kernel
theorem dX4_after_12 : decode cX4_after 12 = .ok (.ishr, 1) := by decide +kernel
theorem dX4_after_13 : decode cX4_after 13 = .ok (.iconst 1, 1) := by decide +kernel
theorem dX4_after_14 : decode cX4_after 14 = .ok (.iand, 1) := by decide +kernel
theorem dX4_after_15 : decode cX4_after 15 = .ok (.iconst 1, 1) := by decide +kernel
theorem dX4_after_16 : decode cX4_after 16 = .ok (.if_icmp .ne 10, 3) := by decide +kernel
theorem dX4_after_19 : decode cX4_after 19 = .ok (.aload_n 0, 1) := by decide +kernel
theorem dX4_after_20 : decode cX4_after 20 = .ok (.getfield 23, 3) := by decide +kernel
theorem dX4_after_23 : decode cX4_after 23 = .ok (.goto 7, 3) := by decide +kernel
theorem dX4_after_26 : decode cX4_after 26 = .ok (.aload_n 0, 1) := by decide +kernel
theorem dX4_after_27 : decode cX4_after 27 = .ok (.getfield 19, 3) := by decide +kernel
theorem dX4_after_30 : decode cX4_after 30 = .ok (.astore 4, 2) := by decide +kernel
theorem dX4_after_32 : decode cX4_after 32 = .ok (.aload 4, 2) := by decide +kernel
theorem dX4_after_34 : decode cX4_after 34 = .ok (.getfield 35, 3) := by decide +kernel
theorem dX4_after_37 : decode cX4_after 37 = .ok (.iload_n 3, 1) := by decide +kernel
theorem dX4_after_38 : decode cX4_after 38 = .ok (.iaload, 1) := by decide +kernel
theorem dX4_after_39 : decode cX4_after 39 = .ok (.ifCond .ne 5, 3) := by decide +kernel
theorem dX4_after_42 : decode cX4_after 42 = .ok (.iload_n 1, 1) := by decide +kernel
theorem dX4_after_43 : decode cX4_after 43 = .ok (.ireturn, 1) := by decide +kernel
theorem dX4_after_44 : decode cX4_after 44 = .ok (.aload_n 0, 1) := by decide +kernel
theorem dX4_after_45 : decode cX4_after 45 = .ok (.getfield 9, 3) := by decide +kernel
theorem dX4_after_48 : decode cX4_after 48 = .ok (.iconst 0, 1) := by decide +kernel
theorem dX4_after_49 : decode cX4_after 49 = .ok (.iload_n 1, 1) := by decide +kernel
theorem dX4_after_50 : decode cX4_after 50 = .ok (.bipush 16, 2) := by decide +kernel
theorem dX4_after_52 : decode cX4_after 52 = .ok (.ishr, 1) := by decide +kernel
theorem dX4_after_53 : decode cX4_after 53 = .ok (.sipush 255, 3) := by decide +kernel
theorem dX4_after_56 : decode cX4_after 56 = .ok (.iand, 1) := by decide +kernel
theorem dX4_after_57 : decode cX4_after 57 = .ok (.bipush 99, 2) := by decide +kernel
theorem dX4_after_59 : decode cX4_after 59 = .ok (.isub, 1) := by decide +kernel
theorem dX4_after_60 : decode cX4_after 60 = .ok (.iastore, 1) := by decide +kernel
theorem dX4_after_61 : decode cX4_after 61 = .ok (.aload_n 0, 1) := by decide +kernel
theorem dX4_after_62 : decode cX4_after 62 = .ok (.getfield 9, 3) := by decide +kernel
theorem dX4_after_65 : decode cX4_after 65 = .ok (.iconst 1, 1) := by decide +kernel
theorem dX4_after_66 : decode cX4_after 66 = .ok (.iload_n 1, 1) := by decide +kernel
theorem dX4_after_67 : decode cX4_after 67 = .ok (.bipush 8, 2) := by decide +kernel
theorem dX4_after_69 : decode cX4_after 69 = .ok (.ishr, 1) := by decide +kernel
theorem dX4_after_70 : decode cX4_after 70 = .ok (.sipush 255, 3) := by decide +kernel
theorem dX4_after_73 : decode cX4_after 73 = .ok (.iand, 1) := by decide +kernel
theorem dX4_after_74 : decode cX4_after 74 = .ok (.bipush 99, 2) := by decide +kernel
theorem dX4_after_76 : decode cX4_after 76 = .ok (.isub, 1) := by decide +kernel
theorem dX4_after_77 : decode cX4_after 77 = .ok (.iastore, 1) := by decide +kernel
theorem dX4_after_78 : decode cX4_after 78 = .ok (.aload_n 0, 1) := by decide +kernel
theorem dX4_after_79 : decode cX4_after 79 = .ok (.getfield 9, 3) := by decide +kernel
theorem dX4_after_82 : decode cX4_after 82 = .ok (.iconst 2, 1) := by decide +kernel
theorem dX4_after_83 : decode cX4_after 83 = .ok (.iload_n 1, 1) := by decide +kernel
theorem dX4_after_84 : decode cX4_after 84 = .ok (.sipush 255, 3) := by decide +kernel
theorem dX4_after_87 : decode cX4_after 87 = .ok (.iand, 1) := by decide +kernel
theorem dX4_after_88 : decode cX4_after 88 = .ok (.bipush 99, 2) := by decide +kernel
theorem dX4_after_90 : decode cX4_after 90 = .ok (.isub, 1) := by decide +kernel
theorem dX4_after_91 : decode cX4_after 91 = .ok (.iastore, 1) := by decide +kernel
theorem dX4_after_92 : decode cX4_after 92 = .ok (.iload_n 1, 1) := by decide +kernel
theorem dX4_after_93 : decode cX4_after 93 = .ok (.invokestatic 38, 3) := by decide +kernel
theorem dX4_after_96 : decode cX4_after 96 = .ok (.istore 5, 2) := by decide +kernel
theorem dX4_after_98 : decode cX4_after 98 = .ok (.aload 4, 2) := by decide +kernel
theorem dX4_after_100 : decode cX4_after 100 = .ok (.getfield 42, 3) := by decide +kernel
theorem dX4_after_103 : decode cX4_after 103 = .ok (.iload_n 3, 1) := by decide +kernel
theorem dX4_after_104 : decode cX4_after 104 = .ok (.iaload, 1) := by decide +kernel
theorem dX4_after_105 : decode cX4_after 105 = .ok (.aload 4, 2) := by decide +kernel
theorem dX4_after_107 : decode cX4_after 107 = .ok (.getfield 35, 3) := by decide +kernel
theorem dX4_after_110 : decode cX4_after 110 = .ok (.iload_n 3, 1) := by decide +kernel
theorem dX4_after_111 : decode cX4_after 111 = .ok (.iaload, 1) := by decide +kernel
theorem dX4_after_112 : decode cX4_after 112 = .ok (.iadd, 1) := by decide +kernel
theorem dX4_after_113 : decode cX4_after 113 = .ok (.bipush 120, 2) := by decide +kernel
theorem dX4_after_115 : decode cX4_after 115 = .ok (.invokestatic 45, 3) := by decide +kernel
theorem dX4_after_118 : decode cX4_after 118 = .ok (.istore 6, 2) := by decide +kernel
theorem dX4_after_120 : decode cX4_after 120 = .ok (.aload 4, 2) := by decide +kernel
theorem dX4_after_122 : decode cX4_after 122 = .ok (.getfield 42, 3) := by decide +kernel
theorem dX4_after_125 : decode cX4_after 125 = .ok (.iload_n 3, 1) := by decide +kernel
theorem dX4_after_126 : decode cX4_after 126 = .ok (.iaload, 1) := by decide +kernel
theorem dX4_after_127 : decode cX4_after 127 = .ok (.istore 7, 2) := by decide +kernel
theorem dX4_after_129 : decode cX4_after 129 = .ok (.iload 7, 2) := by decide +kernel
theorem dX4_after_131 : decode cX4_after 131 = .ok (.iload 6, 2) := by decide +kernel
theorem dX4_after_133 : decode cX4_after 133 = .ok (.if_icmp .ge 43, 3) := by decide +kernel
theorem dX4_after_136 : decode cX4_after 136 = .ok (.aload 4, 2) := by decide +kernel
theorem dX4_after_138 : decode cX4_after 138 = .ok (.getfield 50, 3) := by decide +kernel
theorem dX4_after_141 : decode cX4_after 141 = .ok (.iload 7, 2) := by decide +kernel
theorem dX4_after_143 : decode cX4_after 143 = .ok (.iaload, 1) := by decide +kernel
theorem dX4_after_144 : decode cX4_after 144 = .ok (.istore 8, 2) := by decide +kernel
theorem dX4_after_146 : decode cX4_after 146 = .ok (.iload 8, 2) := by decide +kernel
theorem dX4_after_148 : decode cX4_after 148 = .ok (.bipush 6, 2) := by decide +kernel
theorem dX4_after_150 : decode cX4_after 150 = .ok (.ishr, 1) := by decide +kernel
theorem dX4_after_151 : decode cX4_after 151 = .ok (.iconst 3, 1) := by decide +kernel
theorem dX4_after_152 : decode cX4_after 152 = .ok (.if_icmp .ne 12, 3) := by decide +kernel
theorem dX4_after_155 : decode cX4_after 155 = .ok (.iload 8, 2) := by decide +kernel
theorem dX4_after_157 : decode cX4_after 157 = .ok (.iconst 1, 1) := by decide +kernel
theorem dX4_after_158 : decode cX4_after 158 = .ok (.iand, 1) := by decide +kernel
theorem dX4_after_159 : decode cX4_after 159 = .ok (.istore 5, 2) := by decide +kernel
theorem dX4_after_161 : decode cX4_after 161 = .ok (.goto 9, 3) := by decide +kernel
theorem dX4_after_164 : decode cX4_after 164 = .ok (.aload_n 0, 1) := by decide +kernel
theorem dX4_after_165 : decode cX4_after 165 = .ok (.iload 8, 2) := by decide +kernel
theorem dX4_after_167 : decode cX4_after 167 = .ok (.invokevirtual 53, 3) := by decide +kernel
theorem dX4_after_170 : decode cX4_after 170 = .ok (.iinc 7 1, 3) := by decide +kernel
theorem dX4_after_173 : decode cX4_after 173 = .ok (.goto (-44), 3) := by decide +kernel
theorem dX4_after_176 : decode cX4_after 176 = .ok (.iload 5, 2) := by decide +kernel
theorem dX4_after_178 : decode cX4_after 178 = .ok (.bipush 24, 2) := by decide +kernel
theorem dX4_after_180 : decode cX4_after 180 = .ok (.ishl, 1) := by decide +kernel
theorem dX4_after_181 : decode cX4_after 181 = .ok (.aload_n 0, 1) := by decide +kernel
theorem dX4_after_182 : decode cX4_after 182 = .ok (.getfield 9, 3) := by decide +kernel
theorem dX4_after_185 : decode cX4_after 185 = .ok (.iconst 0, 1) := by decide +kernel
theorem dX4_after_186 : decode cX4_after 186 = .ok (.iaload, 1) := by decide +kernel
theorem dX4_after_187 : decode cX4_after 187 = .ok (.bipush 99, 2) := by decide +kernel
theorem dX4_after_189 : decode cX4_after 189 = .ok (.iadd, 1) := by decide +kernel
theorem dX4_after_190 : decode cX4_after 190 = .ok (.bipush 16, 2) := by decide +kernel
theorem dX4_after_192 : decode cX4_after 192 = .ok (.ishl, 1) := by decide +kernel
theorem dX4_after_193 : decode cX4_after 193 = .ok (.ior, 1) := by decide +kernel
theorem dX4_after_194 : decode cX4_after 194 = .ok (.aload_n 0, 1) := by decide +kernel
theorem dX4_after_195 : decode cX4_after 195 = .ok (.getfield 9, 3) := by decide +kernel
theorem dX4_after_198 : decode cX4_after 198 = .ok (.iconst 1, 1) := by decide +kernel
theorem dX4_after_199 : decode cX4_after 199 = .ok (.iaload, 1) := by decide +kernel
theorem dX4_after_200 : decode cX4_after 200 = .ok (.bipush 99, 2) := by decide +kernel
theorem dX4_after_202 : decode cX4_after 202 = .ok (.iadd, 1) := by decide +kernel
theorem dX4_after_203 : decode cX4_after 203 = .ok (.bipush 8, 2) := by decide +kernel
theorem dX4_after_205 : decode cX4_after 205 = .ok (.ishl, 1) := by decide +kernel
theorem dX4_after_206 : decode cX4_after 206 = .ok (.ior, 1) := by decide +kernel
theorem dX4_after_207 : decode cX4_after 207 = .ok (.aload_n 0, 1) := by decide +kernel
theorem dX4_after_208 : decode cX4_after 208 = .ok (.getfield 9, 3) := by decide +kernel
theorem dX4_after_211 : decode cX4_after 211 = .ok (.iconst 2, 1) := by decide +kernel
theorem dX4_after_212 : decode cX4_after 212 = .ok (.iaload, 1) := by decide +kernel
theorem dX4_after_213 : decode cX4_after 213 = .ok (.bipush 99, 2) := by decide +kernel
theorem dX4_after_215 : decode cX4_after 215 = .ok (.iadd, 1) := by decide +kernel
theorem dX4_after_216 : decode cX4_after 216 = .ok (.ior, 1) := by decide +kernel
theorem dX4_after_217 : decode cX4_after 217 = .ok (.ireturn, 1) := by decide +kernel
theorem dX4_act_0 : decode cX4_act 0 = .ok (.iload_n 1, 1) := by decide +kernel
theorem dX4_act_1 : decode cX4_act 1 = .ok (.iconst 4, 1) := by decide +kernel
theorem dX4_act_2 : decode cX4_act 2 = .ok (.ishr, 1) := by decide +kernel
theorem dX4_act_3 : decode cX4_act 3 = .ok (.iconst 3, 1) := by decide +kernel
theorem dX4_act_4 : decode cX4_act 4 = .ok (.iand, 1) := by decide +kernel
theorem dX4_act_5 : decode cX4_act 5 = .ok (.istore_n 2, 1) := by decide +kernel
theorem dX4_act_6 : decode cX4_act 6 = .ok (.iload_n 1, 1) := by decide +kernel
theorem dX4_act_7 : decode cX4_act 7 = .ok (.bipush 15, 2) := by decide +kernel
theorem dX4_act_9 : decode cX4_act 9 = .ok (.iand, 1) := by decide +kernel
theorem dX4_act_10 : decode cX4_act 10 = .ok (.istore_n 3, 1) := by decide +kernel
theorem dX4_act_11 : decode cX4_act 11 = .ok (.iload_n 3, 1) := by decide +kernel
theorem dX4_act_12 : decode cX4_act 12 = .ok (.bipush 10, 2) := by decide +kernel
theorem dX4_act_14 : decode cX4_act 14 = .ok (.if_icmp .lt 15, 3) := by decide +kernel
theorem dX4_act_17 : decode cX4_act 17 = .ok (.aload_n 0, 1) := by decide +kernel
theorem dX4_act_18 : decode cX4_act 18 = .ok (.getfield 9, 3) := by decide +kernel
theorem dX4_act_21 : decode cX4_act 21 = .ok (.iload_n 3, 1) := by decide +kernel
theorem dX4_act_22 : decode cX4_act 22 = .ok (.bipush 10, 2) := by decide +kernel
theorem dX4_act_24 : decode cX4_act 24 = .ok (.isub, 1) := by decide +kernel
theorem dX4_act_25 : decode cX4_act 25 = .ok (.iconst 3, 1) := by decide +kernel
theorem dX4_act_26 : decode cX4_act 26 = .ok (.iand, 1) := by decide +kernel
theorem dX4_act_27 : decode cX4_act 27 = .ok (.iaload, 1) := by decide +kernel
theorem dX4_act_28 : decode cX4_act 28 = .ok (.istore_n 3, 1) := by decide +kernel
theorem dX4_act_29 : decode cX4_act 29 = .ok (.iload_n 1, 1) := by decide +kernel
theorem dX4_act_30 : decode cX4_act 30 = .ok (.bipush 6, 2) := by decide +kernel
theorem dX4_act_32 : decode cX4_act 32 = .ok (.ishr, 1) := by decide +kernel
theorem dX4_act_33 : decode cX4_act 33 = .ok (.ifCond .ne 15, 3) := by decide +kernel
theorem dX4_act_36 : decode cX4_act 36 = .ok (.aload_n 0, 1) := by decide +kernel
theorem dX4_act_37 : decode cX4_act 37 = .ok (.getfield 9, 3) := by decide +kernel
theorem dX4_act_40 : decode cX4_act 40 = .ok (.iload_n 2, 1) := by decide +kernel
theorem dX4_act_41 : decode cX4_act 41 = .ok (.iaload, 1) := by decide +kernel
theorem dX4_act_42 : decode cX4_act 42 = .ok (.iload_n 3, 1) := by decide +kernel
theorem dX4_act_43 : decode cX4_act 43 = .ok (.iadd, 1) := by decide +kernel
theorem dX4_act_44 : decode cX4_act 44 = .ok (.istore_n 3, 1) := by decide +kernel
theorem dX4_act_45 : decode cX4_act 45 = .ok (.goto 20, 3) := by decide +kernel
theorem dX4_act_48 : decode cX4_act 48 = .ok (.iload_n 1, 1) := by decide +kernel
theorem dX4_act_49 : decode cX4_act 49 = .ok (.bipush 6, 2) := by decide +kernel
theorem dX4_act_51 : decode cX4_act 51 = .ok (.ishr, 1) := by decide +kernel
theorem dX4_act_52 : decode cX4_act 52 = .ok (.iconst 1, 1) := by decide +kernel
theorem dX4_act_53 : decode cX4_act 53 = .ok (.if_icmp .ne 12, 3) := by decide +kernel
theorem dX4_act_56 : decode cX4_act 56 = .ok (.aload_n 0, 1) := by decide +kernel
theorem dX4_act_57 : decode cX4_act 57 = .ok (.getfield 9, 3) := by decide +kernel
theorem dX4_act_60 : decode cX4_act 60 = .ok (.iload_n 2, 1) := by decide +kernel
theorem dX4_act_61 : decode cX4_act 61 = .ok (.iaload, 1) := by decide +kernel
theorem dX4_act_62 : decode cX4_act 62 = .ok (.iload_n 3, 1) := by decide +kernel
theorem dX4_act_63 : decode cX4_act 63 = .ok (.isub, 1) := by decide +kernel
theorem dX4_act_64 : decode cX4_act 64 = .ok (.istore_n 3, 1) := by decide +kernel
theorem dX4_act_65 : decode cX4_act 65 = .ok (.aload_n 0, 1) := by decide +kernel
theorem dX4_act_66 : decode cX4_act 66 = .ok (.getfield 9, 3) := by decide +kernel
theorem dX4_act_69 : decode cX4_act 69 = .ok (.iload_n 2, 1) := by decide +kernel
theorem dX4_act_70 : decode cX4_act 70 = .ok (.iload_n 3, 1) := by decide +kernel
theorem dX4_act_71 : decode cX4_act 71 = .ok (.bipush 99, 2) := by decide +kernel
theorem dX4_act_73 : decode cX4_act 73 = .ok (.if_icmp .le 8, 3) := by decide +kernel
theorem dX4_act_76 : decode cX4_act 76 = .ok (.bipush 99, 2) := by decide +kernel
theorem dX4_act_78 : decode cX4_act 78 = .ok (.goto 15, 3) := by decide +kernel
theorem dX4_act_81 : decode cX4_act 81 = .ok (.iload_n 3, 1) := by decide +kernel
theorem dX4_act_82 : decode cX4_act 82 = .ok (.bipush (-99), 2) := by decide +kernel
theorem dX4_act_84 : decode cX4_act 84 = .ok (.if_icmp .ge 8, 3) := by decide +kernel
theorem dX4_act_87 : decode cX4_act 87 = .ok (.bipush (-99), 2) := by decide +kernel
theorem dX4_act_89 : decode cX4_act 89 = .ok (.goto 4, 3) := by decide +kernel
theorem dX4_act_92 : decode cX4_act 92 = .ok (.iload_n 3, 1) := by decide +kernel
theorem dX4_act_93 : decode cX4_act 93 = .ok (.iastore, 1) := by decide +kernel
theorem dX4_act_94 : decode cX4_act 94 = .ok (.return_, 1) := by decide +kernel
theorem dX5_init_0 : decode cX5_init 0 = .ok (.aload_n 0, 1) := by decide +kernel
theorem dX5_init_1 : decode cX5_init 1 = .ok (.invokespecial 3, 3) := by decide +kernel
theorem dX5_init_4 : decode cX5_init 4 = .ok (.aload_n 0, 1) := by decide +kernel
theorem dX5_init_5 : decode cX5_init 5 = .ok (.bipush 40, 2) := by decide +kernel
theorem dX5_init_7 : decode cX5_init 7 = .ok (.newarray .int, 2) := by decide +kernel
theorem dX5_init_9 : decode cX5_init 9 = .ok (.putfield 9, 3) := by decide +kernel
theorem dX5_init_12 : decode cX5_init 12 = .ok (.aload_n 0, 1) := by decide +kernel
theorem dX5_init_13 : decode cX5_init 13 = .ok (.bipush 40, 2) := by decide +kernel
theorem dX5_init_15 : decode cX5_init 15 = .ok (.newarray .int, 2) := by decide +kernel
theorem dX5_init_17 : decode cX5_init 17 = .ok (.putfield 15, 3) := by decide +kernel
theorem dX5_init_20 : decode cX5_init 20 = .ok (.aload_n 0, 1) := by decide +kernel
theorem dX5_init_21 : decode cX5_init 21 = .ok (.bipush 40, 2) := by decide +kernel
theorem dX5_init_23 : decode cX5_init 23 = .ok (.newarray .int, 2) := by decide +kernel
theorem dX5_init_25 : decode cX5_init 25 = .ok (.putfield 18, 3) := by decide +kernel
theorem dX5_init_28 : decode cX5_init 28 = .ok (.aload_n 0, 1) := by decide +kernel
theorem dX5_init_29 : decode cX5_init 29 = .ok (.iconst 0, 1) := by decide +kernel
theorem dX5_init_30 : decode cX5_init 30 = .ok (.putfield 21, 3) := by decide +kernel
theorem dX5_init_33 : decode cX5_init 33 = .ok (.aload_n 0, 1) := by decide +kernel
theorem dX5_init_34 : decode cX5_init 34 = .ok (.iconst 1, 1) := by decide +kernel
theorem dX5_init_35 : decode cX5_init 35 = .ok (.putfield 25, 3) := by decide +kernel
theorem dX5_init_38 : decode cX5_init 38 = .ok (.return_, 1) := by decide +kernel
theorem dX5_add_0 : decode cX5_add 0 = .ok (.aload_n 0, 1) := by decide +kernel
theorem dX5_add_1 : decode cX5_add 1 = .ok (.getfield 21, 3) := by decide +kernel
theorem dX5_add_4 : decode cX5_add 4 = .ok (.bipush 40, 2) := by decide +kernel
theorem dX5_add_6 : decode cX5_add 6 = .ok (.if_icmp .lt 6, 3) := by decide +kernel
theorem dX5_add_9 : decode cX5_add 9 = .ok (.bipush (-4), 2) := by decide +kernel
theorem dX5_add_11 : decode cX5_add 11 = .ok (.ireturn, 1) := by decide +kernel
theorem dX5_add_12 : decode cX5_add 12 = .ok (.aload_n 0, 1) := by decide +kernel
theorem dX5_add_13 : decode cX5_add 13 = .ok (.getfield 9, 3) := by decide +kernel
theorem dX5_add_16 : decode cX5_add 16 = .ok (.aload_n 0, 1) := by decide +kernel
theorem dX5_add_17 : decode cX5_add 17 = .ok (.getfield 21, 3) := by decide +kernel
theorem dX5_add_20 : decode cX5_add 20 = .ok (.iload_n 1, 1) := by decide +kernel
theorem dX5_add_21 : decode cX5_add 21 = .ok (.iastore, 1) := by decide +kernel
theorem dX5_add_22 : decode cX5_add 22 = .ok (.aload_n 0, 1) := by decide +kernel
theorem dX5_add_23 : decode cX5_add 23 = .ok (.getfield 15, 3) := by decide +kernel
theorem dX5_add_26 : decode cX5_add 26 = .ok (.aload_n 0, 1) := by decide +kernel
theorem dX5_add_27 : decode cX5_add 27 = .ok (.getfield 21, 3) := by decide +kernel
theorem dX5_add_30 : decode cX5_add 30 = .ok (.iload_n 2, 1) := by decide +kernel
theorem dX5_add_31 : decode cX5_add 31 = .ok (.iastore, 1) := by decide +kernel
theorem dX5_add_32 : decode cX5_add 32 = .ok (.aload_n 0, 1) := by decide +kernel
theorem dX5_add_33 : decode cX5_add 33 = .ok (.getfield 18, 3) := by decide +kernel
theorem dX5_add_36 : decode cX5_add 36 = .ok (.aload_n 0, 1) := by decide +kernel
theorem dX5_add_37 : decode cX5_add 37 = .ok (.getfield 21, 3) := by decide +kernel
theorem dX5_add_40 : decode cX5_add 40 = .ok (.iload_n 3, 1) := by decide +kernel
theorem dX5_add_41 : decode cX5_add 41 = .ok (.iastore, 1) := by decide +kernel
theorem dX5_add_42 : decode cX5_add 42 = .ok (.aload_n 0, 1) := by decide +kernel
theorem dX5_add_43 : decode cX5_add 43 = .ok (.dup, 1) := by decide +kernel
theorem dX5_add_44 : decode cX5_add 44 = .ok (.getfield 21, 3) := by decide +kernel
theorem dX5_add_47 : decode cX5_add 47 = .ok (.iconst 1, 1) := by decide +kernel
theorem dX5_add_48 : decode cX5_add 48 = .ok (.iadd, 1) := by decide +kernel
theorem dX5_add_49 : decode cX5_add 49 = .ok (.putfield 21, 3) := by decide +kernel
theorem dX5_add_52 : decode cX5_add 52 = .ok (.aload_n 0, 1) := by decide +kernel
theorem dX5_add_53 : decode cX5_add 53 = .ok (.getfield 21, 3) := by decide +kernel
theorem dX5_add_56 : decode cX5_add 56 = .ok (.ireturn, 1) := by decide +kernel
theorem dX5_hasAny_0 : decode cX5_hasAny 0 = .ok (.iconst 0, 1) := by decide +kernel
theorem dX5_hasAny_1 : decode cX5_hasAny 1 = .ok (.istore_n 3, 1) := by decide +kernel
theorem dX5_hasAny_2 : decode cX5_hasAny 2 = .ok (.iload_n 3, 1) := by decide +kernel
theorem dX5_hasAny_3 : decode cX5_hasAny 3 = .ok (.aload_n 0, 1) := by decide +kernel
theorem dX5_hasAny_4 : decode cX5_hasAny 4 = .ok (.getfield 21, 3) := by decide +kernel
theorem dX5_hasAny_7 : decode cX5_hasAny 7 = .ok (.if_icmp .ge 31, 3) := by decide +kernel
theorem dX5_hasAny_10 : decode cX5_hasAny 10 = .ok (.aload_n 0, 1) := by decide +kernel
theorem dX5_hasAny_11 : decode cX5_hasAny 11 = .ok (.getfield 9, 3) := by decide +kernel
theorem dX5_hasAny_14 : decode cX5_hasAny 14 = .ok (.iload_n 3, 1) := by decide +kernel
theorem dX5_hasAny_15 : decode cX5_hasAny 15 = .ok (.iaload, 1) := by decide +kernel
theorem dX5_hasAny_16 : decode cX5_hasAny 16 = .ok (.iload_n 1, 1) := by decide +kernel
theorem dX5_hasAny_17 : decode cX5_hasAny 17 = .ok (.if_icmp .ne 15, 3) := by decide +kernel
theorem dX5_hasAny_20 : decode cX5_hasAny 20 = .ok (.aload_n 0, 1) := by decide +kernel
theorem dX5_hasAny_21 : decode cX5_hasAny 21 = .ok (.getfield 15, 3) := by decide +kernel
theorem dX5_hasAny_24 : decode cX5_hasAny 24 = .ok (.iload_n 3, 1) := by decide +kernel
theorem dX5_hasAny_25 : decode cX5_hasAny 25 = .ok (.iaload, 1) := by decide +kernel
theorem dX5_hasAny_26 : decode cX5_hasAny 26 = .ok (.iload_n 2, 1) := by decide +kernel
theorem dX5_hasAny_27 : decode cX5_hasAny 27 = .ok (.if_icmp .gt 5, 3) := by decide +kernel
theorem dX5_hasAny_30 : decode cX5_hasAny 30 = .ok (.iconst 1, 1) := by decide +kernel
theorem dX5_hasAny_31 : decode cX5_hasAny 31 = .ok (.ireturn, 1) := by decide +kernel
theorem dX5_hasAny_32 : decode cX5_hasAny 32 = .ok (.iinc 3 1, 3) := by decide +kernel
theorem dX5_hasAny_35 : decode cX5_hasAny 35 = .ok (.goto (-33), 3) := by decide +kernel
theorem dX5_hasAny_38 : decode cX5_hasAny 38 = .ok (.iconst 0, 1) := by decide +kernel
theorem dX5_hasAny_39 : decode cX5_hasAny 39 = .ok (.ireturn, 1) := by decide +kernel
theorem dX5_withInterest_0 : decode cX5_withInterest 0 = .ok (.iconst 0, 1) := by decide +kernel
theorem dX5_withInterest_1 : decode cX5_withInterest 1 = .ok (.istore_n 3, 1) := by decide +kernel
theorem dX5_withInterest_2 : decode cX5_withInterest 2 = .ok (.iconst 0, 1) := by decide +kernel
theorem dX5_withInterest_3 : decode cX5_withInterest 3 = .ok (.istore 4, 2) := by decide +kernel
theorem dX5_withInterest_5 : decode cX5_withInterest 5 = .ok (.iload 4, 2) := by decide +kernel
theorem dX5_withInterest_7 : decode cX5_withInterest 7 = .ok (.aload_n 0, 1) := by decide +kernel
theorem dX5_withInterest_8 : decode cX5_withInterest 8 = .ok (.getfield 21, 3) := by decide +kernel
theorem dX5_withInterest_11 : decode cX5_withInterest 11 = .ok (.if_icmp .ge 75, 3) := by decide +kernel
theorem dX5_withInterest_14 : decode cX5_withInterest 14 = .ok (.aload_n 0, 1) := by decide +kernel
theorem dX5_withInterest_15 : decode cX5_withInterest 15 = .ok (.getfield 9, 3) := by decide +kernel
theorem dX5_withInterest_18 : decode cX5_withInterest 18 = .ok (.iload 4, 2) := by decide +kernel
theorem dX5_withInterest_20 : decode cX5_withInterest 20 = .ok (.iaload, 1) := by decide +kernel
theorem dX5_withInterest_21 : decode cX5_withInterest 21 = .ok (.iload_n 1, 1) := by decide +kernel
theorem dX5_withInterest_22 : decode cX5_withInterest 22 = .ok (.if_icmp .ne 58, 3) := by decide +kernel
theorem dX5_withInterest_25 : decode cX5_withInterest 25 = .ok (.aload_n 0, 1) := by decide +kernel
theorem dX5_withInterest_26 : decode cX5_withInterest 26 = .ok (.getfield 15, 3) := by decide +kernel
theorem dX5_withInterest_29 : decode cX5_withInterest 29 = .ok (.iload 4, 2) := by decide +kernel
theorem dX5_withInterest_31 : decode cX5_withInterest 31 = .ok (.iaload, 1) := by decide +kernel
theorem dX5_withInterest_32 : decode cX5_withInterest 32 = .ok (.iload_n 2, 1) := by decide +kernel
theorem dX5_withInterest_33 : decode cX5_withInterest 33 = .ok (.if_icmp .gt 47, 3) := by decide +kernel
theorem dX5_withInterest_36 : decode cX5_withInterest 36 = .ok (.iload_n 2, 1) := by decide +kernel
theorem dX5_withInterest_37 : decode cX5_withInterest 37 = .ok (.aload_n 0, 1) := by decide +kernel
theorem dX5_withInterest_38 : decode cX5_withInterest 38 = .ok (.getfield 15, 3) := by decide +kernel
theorem dX5_withInterest_41 : decode cX5_withInterest 41 = .ok (.iload 4, 2) := by decide +kernel
theorem dX5_withInterest_43 : decode cX5_withInterest 43 = .ok (.iaload, 1) := by decide +kernel
theorem dX5_withInterest_44 : decode cX5_withInterest 44 = .ok (.isub, 1) := by decide +kernel
theorem dX5_withInterest_45 : decode cX5_withInterest 45 = .ok (.bipush 10, 2) := by decide +kernel
theorem dX5_withInterest_47 : decode cX5_withInterest 47 = .ok (.idiv, 1) := by decide +kernel
theorem dX5_withInterest_48 : decode cX5_withInterest 48 = .ok (.istore 5, 2) := by decide +kernel
theorem dX5_withInterest_50 : decode cX5_withInterest 50 = .ok (.iload_n 3, 1) := by decide +kernel
theorem dX5_withInterest_51 : decode cX5_withInterest 51 = .ok (.aload_n 0, 1) := by decide +kernel
theorem dX5_withInterest_52 : decode cX5_withInterest 52 = .ok (.getfield 18, 3) := by decide +kernel
theorem dX5_withInterest_55 : decode cX5_withInterest 55 = .ok (.iload 4, 2) := by decide +kernel
theorem dX5_withInterest_57 : decode cX5_withInterest 57 = .ok (.iaload, 1) := by decide +kernel
theorem dX5_withInterest_58 : decode cX5_withInterest 58 = .ok (.aload_n 0, 1) := by decide +kernel
theorem dX5_withInterest_59 : decode cX5_withInterest 59 = .ok (.getfield 18, 3) := by decide +kernel
theorem dX5_withInterest_62 : decode cX5_withInterest 62 = .ok (.iload 4, 2) := by decide +kernel
theorem dX5_withInterest_64 : decode cX5_withInterest 64 = .ok (.iaload, 1) := by decide +kernel
theorem dX5_withInterest_65 : decode cX5_withInterest 65 = .ok (.aload_n 0, 1) := by decide +kernel
theorem dX5_withInterest_66 : decode cX5_withInterest 66 = .ok (.getfield 25, 3) := by decide +kernel
theorem dX5_withInterest_69 : decode cX5_withInterest 69 = .ok (.imul, 1) := by decide +kernel
theorem dX5_withInterest_70 : decode cX5_withInterest 70 = .ok (.iload 5, 2) := by decide +kernel
theorem dX5_withInterest_72 : decode cX5_withInterest 72 = .ok (.imul, 1) := by decide +kernel
theorem dX5_withInterest_73 : decode cX5_withInterest 73 = .ok (.sipush 1000, 3) := by decide +kernel
theorem dX5_withInterest_76 : decode cX5_withInterest 76 = .ok (.idiv, 1) := by decide +kernel
theorem dX5_withInterest_77 : decode cX5_withInterest 77 = .ok (.iadd, 1) := by decide +kernel
theorem dX5_withInterest_78 : decode cX5_withInterest 78 = .ok (.iadd, 1) := by decide +kernel
theorem dX5_withInterest_79 : decode cX5_withInterest 79 = .ok (.istore_n 3, 1) := by decide +kernel
theorem dX5_withInterest_80 : decode cX5_withInterest 80 = .ok (.iinc 4 1, 3) := by decide +kernel
theorem dX5_withInterest_83 : decode cX5_withInterest 83 = .ok (.goto (-78), 3) := by decide +kernel
theorem dX5_withInterest_86 : decode cX5_withInterest 86 = .ok (.iload_n 3, 1) := by decide +kernel
theorem dX5_withInterest_87 : decode cX5_withInterest 87 = .ok (.ireturn, 1) := by decide +kernel
theorem dX6_init_0 : decode cX6_init 0 = .ok (.aload_n 0, 1) := by decide +kernel
theorem dX6_init_1 : decode cX6_init 1 = .ok (.invokespecial 3, 3) := by decide +kernel
theorem dX6_init_4 : decode cX6_init 4 = .ok (.aload_n 0, 1) := by decide +kernel
theorem dX6_init_5 : decode cX6_init 5 = .ok (.sipush 585, 3) := by decide +kernel
theorem dX6_init_8 : decode cX6_init 8 = .ok (.newarray .int, 2) := by decide +kernel
theorem dX6_init_10 : decode cX6_init 10 = .ok (.putfield 11, 3) := by decide +kernel
theorem dX6_init_13 : decode cX6_init 13 = .ok (.aload_n 0, 1) := by decide +kernel
theorem dX6_init_14 : decode cX6_init 14 = .ok (.sipush 585, 3) := by decide +kernel
theorem dX6_init_17 : decode cX6_init 17 = .ok (.newarray .int, 2) := by decide +kernel
theorem dX6_init_19 : decode cX6_init 19 = .ok (.putfield 15, 3) := by decide +kernel
theorem dX6_init_22 : decode cX6_init 22 = .ok (.aload_n 0, 1) := by decide +kernel
theorem dX6_init_23 : decode cX6_init 23 = .ok (.sipush 585, 3) := by decide +kernel
theorem dX6_init_26 : decode cX6_init 26 = .ok (.newarray .int, 2) := by decide +kernel
theorem dX6_init_28 : decode cX6_init 28 = .ok (.putfield 18, 3) := by decide +kernel
theorem dX6_init_31 : decode cX6_init 31 = .ok (.aload_n 0, 1) := by decide +kernel
theorem dX6_init_32 : decode cX6_init 32 = .ok (.sipush 1024, 3) := by decide +kernel
theorem dX6_init_35 : decode cX6_init 35 = .ok (.newarray .int, 2) := by decide +kernel
theorem dX6_init_37 : decode cX6_init 37 = .ok (.putfield 21, 3) := by decide +kernel
theorem dX6_init_40 : decode cX6_init 40 = .ok (.aload_n 0, 1) := by decide +kernel
theorem dX6_init_41 : decode cX6_init 41 = .ok (.iconst 5, 1) := by decide +kernel
theorem dX6_init_42 : decode cX6_init 42 = .ok (.newarray .int, 2) := by decide +kernel
theorem dX6_init_44 : decode cX6_init 44 = .ok (.putfield 24, 3) := by decide +kernel
theorem dX6_init_47 : decode cX6_init 47 = .ok (.aload_n 0, 1) := by decide +kernel
theorem dX6_init_48 : decode cX6_init 48 = .ok (.iconst 0, 1) := by decide +kernel
theorem dX6_init_49 : decode cX6_init 49 = .ok (.putfield 27, 3) := by decide +kernel
theorem dX6_init_52 : decode cX6_init 52 = .ok (.return_, 1) := by decide +kernel
theorem dX6_find_0 : decode cX6_find 0 = .ok (.aload_n 0, 1) := by decide +kernel
theorem dX6_find_1 : decode cX6_find 1 = .ok (.getfield 21, 3) := by decide +kernel
theorem dX6_find_4 : decode cX6_find 4 = .ok (.iconst 0, 1) := by decide +kernel
theorem dX6_find_5 : decode cX6_find 5 = .ok (.invokestatic 31, 3) := by decide +kernel
theorem dX6_find_8 : decode cX6_find 8 = .ok (.aload_n 0, 1) := by decide +kernel
theorem dX6_find_9 : decode cX6_find 9 = .ok (.iconst 0, 1) := by decide +kernel
theorem dX6_find_10 : decode cX6_find 10 = .ok (.putfield 27, 3) := by decide +kernel
theorem dX6_find_13 : decode cX6_find 13 = .ok (.ldc 37, 2) := by decide +kernel
theorem dX6_find_15 : decode cX6_find 15 = .ok (.iconst 0, 1) := by decide +kernel
theorem dX6_find_16 : decode cX6_find 16 = .ok (.invokestatic 38, 3) := by decide +kernel
theorem dX6_find_19 : decode cX6_find 19 = .ok (.istore_n 3, 1) := by decide +kernel
theorem dX6_find_20 : decode cX6_find 20 = .ok (.aload_n 0, 1) := by decide +kernel
theorem dX6_find_21 : decode cX6_find 21 = .ok (.aload_n 0, 1) := by decide +kernel
theorem dX6_find_22 : decode cX6_find 22 = .ok (.iload_n 3, 1) := by decide +kernel
theorem dX6_find_23 : decode cX6_find 23 = .ok (.invokevirtual 42, 3) := by decide +kernel
theorem dX6_find_26 : decode cX6_find 26 = .ok (.iload_n 3, 1) := by decide +kernel
theorem dX6_find_27 : decode cX6_find 27 = .ok (.iconst 0, 1) := by decide +kernel
theorem dX6_find_28 : decode cX6_find 28 = .ok (.iconst 0, 1) := by decide +kernel
theorem dX6_find_29 : decode cX6_find 29 = .ok (.invokevirtual 46, 3) := by decide +kernel
theorem dX6_find_32 : decode cX6_find 32 = .ok (.aload_n 1, 1) := by decide +kernel
theorem dX6_find_33 : decode cX6_find 33 = .ok (.ldc 37, 2) := by decide +kernel
theorem dX6_find_35 : decode cX6_find 35 = .ok (.iconst 0, 1) := by decide +kernel
theorem dX6_find_36 : decode cX6_find 36 = .ok (.invokestatic 50, 3) := by decide +kernel
theorem dX6_find_39 : decode cX6_find 39 = .ok (.ifCond .eq 13, 3) := by decide +kernel
theorem dX6_find_42 : decode cX6_find 42 = .ok (.aload_n 0, 1) := by decide +kernel
theorem dX6_find_43 : decode cX6_find 43 = .ok (.getfield 24, 3) := by decide +kernel
theorem dX6_find_46 : decode cX6_find 46 = .ok (.iconst 0, 1) := by decide +kernel
theorem dX6_find_47 : decode cX6_find 47 = .ok (.bipush 7, 2) := by decide +kernel
theorem dX6_find_49 : decode cX6_find 49 = .ok (.iastore, 1) := by decide +kernel
theorem dX6_find_50 : decode cX6_find 50 = .ok (.iconst 1, 1) := by decide +kernel
theorem dX6_find_51 : decode cX6_find 51 = .ok (.ireturn, 1) := by decide +kernel
theorem dX6_find_52 : decode cX6_find 52 = .ok (.iconst 0, 1) := by decide +kernel
theorem dX6_find_53 : decode cX6_find 53 = .ok (.istore 4, 2) := by decide +kernel
theorem dX6_find_55 : decode cX6_find 55 = .ok (.iconst 2, 1) := by decide +kernel
theorem dX6_find_56 : decode cX6_find 56 = .ok (.istore 5, 2) := by decide +kernel
theorem dX6_find_58 : decode cX6_find 58 = .ok (.iload 5, 2) := by decide +kernel
theorem dX6_find_60 : decode cX6_find 60 = .ok (.iload_n 2, 1) := by decide +kernel
theorem dX6_find_61 : decode cX6_find 61 = .ok (.if_icmp .gt 75, 3) := by decide +kernel
theorem dX6_find_64 : decode cX6_find 64 = .ok (.aload_n 0, 1) := by decide +kernel
theorem dX6_find_65 : decode cX6_find 65 = .ok (.getfield 27, 3) := by decide +kernel
theorem dX6_find_68 : decode cX6_find 68 = .ok (.istore 6, 2) := by decide +kernel
theorem dX6_find_70 : decode cX6_find 70 = .ok (.iload 4, 2) := by decide +kernel
theorem dX6_find_72 : decode cX6_find 72 = .ok (.istore 7, 2) := by decide +kernel
theorem dX6_find_74 : decode cX6_find 74 = .ok (.iload 7, 2) := by decide +kernel
theorem dX6_find_76 : decode cX6_find 76 = .ok (.iload 6, 2) := by decide +kernel
theorem dX6_find_78 : decode cX6_find 78 = .ok (.if_icmp .ge 48, 3) := by decide +kernel
theorem dX6_find_81 : decode cX6_find 81 = .ok (.aload_n 0, 1) := by decide +kernel
theorem dX6_find_82 : decode cX6_find 82 = .ok (.aload_n 1, 1) := by decide +kernel
theorem dX6_find_83 : decode cX6_find 83 = .ok (.iload 7, 2) := by decide +kernel
theorem dX6_find_85 : decode cX6_find 85 = .ok (.iload 5, 2) := by decide +kernel
theorem dX6_find_87 : decode cX6_find 87 = .ok (.iload_n 2, 1) := by decide +kernel
theorem dX6_find_88 : decode cX6_find 88 = .ok (.if_icmp .ge 7, 3) := by decide +kernel
theorem dX6_find_91 : decode cX6_find 91 = .ok (.iconst 1, 1) := by decide +kernel
theorem dX6_find_92 : decode cX6_find 92 = .ok (.goto 4, 3) := by decide +kernel
theorem dX6_find_95 : decode cX6_find 95 = .ok (.iconst 0, 1) := by decide +kernel
theorem dX6_find_96 : decode cX6_find 96 = .ok (.invokevirtual 54, 3) := by decide +kernel
theorem dX6_find_99 : decode cX6_find 99 = .ok (.istore 8, 2) := by decide +kernel
theorem dX6_find_101 : decode cX6_find 101 = .ok (.iload 8, 2) := by decide +kernel
theorem dX6_find_103 : decode cX6_find 103 = .ok (.iconst (-1), 1) := by decide +kernel
theorem dX6_find_104 : decode cX6_find 104 = .ok (.if_icmp .eq 16, 3) := by decide +kernel
theorem dX6_find_107 : decode cX6_find 107 = .ok (.aload_n 0, 1) := by decide +kernel
theorem dX6_find_108 : decode cX6_find 108 = .ok (.iload 7, 2) := by decide +kernel
theorem dX6_find_110 : decode cX6_find 110 = .ok (.iload 8, 2) := by decide +kernel
theorem dX6_find_112 : decode cX6_find 112 = .ok (.iload 5, 2) := by decide +kernel
theorem dX6_find_114 : decode cX6_find 114 = .ok (.invokevirtual 58, 3) := by decide +kernel
theorem dX6_find_117 : decode cX6_find 117 = .ok (.iload 5, 2) := by decide +kernel
theorem dX6_find_119 : decode cX6_find 119 = .ok (.ireturn, 1) := by decide +kernel
theorem dX6_find_120 : decode cX6_find 120 = .ok (.iinc 7 1, 3) := by decide +kernel
theorem dX6_find_123 : decode cX6_find 123 = .ok (.goto (-49), 3) := by decide +kernel
theorem dX6_find_126 : decode cX6_find 126 = .ok (.iload 6, 2) := by decide +kernel
theorem dX6_find_128 : decode cX6_find 128 = .ok (.istore 4, 2) := by decide +kernel
theorem dX6_find_130 : decode cX6_find 130 = .ok (.iinc 5 1, 3) := by decide +kernel
theorem dX6_find_133 : decode cX6_find 133 = .ok (.goto (-75), 3) := by decide +kernel
theorem dX6_find_136 : decode cX6_find 136 = .ok (.iconst (-1), 1) := by decide +kernel
theorem dX6_find_137 : decode cX6_find 137 = .ok (.ireturn, 1) := by decide +kernel
theorem dX6_linesOfRow_0 : decode cX6_linesOfRow 0 = .ok (.ldc 37, 2) := by decide +kernel
theorem dX6_linesOfRow_2 : decode cX6_linesOfRow 2 = .ok (.istore_n 3, 1) := by decide +kernel
theorem dX6_linesOfRow_3 : decode cX6_linesOfRow 3 = .ok (.iconst 0, 1) := by decide +kernel
theorem dX6_linesOfRow_4 : decode cX6_linesOfRow 4 = .ok (.istore 4, 2) := by decide +kernel
theorem dX6_linesOfRow_6 : decode cX6_linesOfRow 6 = .ok (.iconst 0, 1) := by decide +kernel
theorem dX6_linesOfRow_7 : decode cX6_linesOfRow 7 = .ok (.istore 5, 2) := by decide +kernel
theorem dX6_linesOfRow_9 : decode cX6_linesOfRow 9 = .ok (.iload 5, 2) := by decide +kernel
theorem dX6_linesOfRow_11 : decode cX6_linesOfRow 11 = .ok (.iload_n 2, 1) := by decide +kernel
theorem dX6_linesOfRow_12 : decode cX6_linesOfRow 12 = .ok (.if_icmp .ge 47, 3) := by decide +kernel
theorem dX6_linesOfRow_15 : decode cX6_linesOfRow 15 = .ok (.iload 5, 2) := by decide +kernel
theorem dX6_linesOfRow_17 : decode cX6_linesOfRow 17 = .ok (.iconst 5, 1) := by decide +kernel
theorem dX6_linesOfRow_18 : decode cX6_linesOfRow 18 = .ok (.if_icmp .ge 41, 3) := by decide +kernel
theorem dX6_linesOfRow_21 : decode cX6_linesOfRow 21 = .ok (.iload 4, 2) := by decide +kernel
theorem dX6_linesOfRow_23 : decode cX6_linesOfRow 23 = .ok (.iconst 1, 1) := by decide +kernel
theorem dX6_linesOfRow_24 : decode cX6_linesOfRow 24 = .ok (.aload_n 1, 1) := by decide +kernel
theorem dX6_linesOfRow_25 : decode cX6_linesOfRow 25 = .ok (.iload_n 3, 1) := by decide +kernel
theorem dX6_linesOfRow_26 : decode cX6_linesOfRow 26 = .ok (.aload_n 0, 1) := by decide +kernel
theorem dX6_linesOfRow_27 : decode cX6_linesOfRow 27 = .ok (.getfield 24, 3) := by decide +kernel
theorem dX6_linesOfRow_30 : decode cX6_linesOfRow 30 = .ok (.iload 5, 2) := by decide +kernel
theorem dX6_linesOfRow_32 : decode cX6_linesOfRow 32 = .ok (.iaload, 1) := by decide +kernel
theorem dX6_linesOfRow_33 : decode cX6_linesOfRow 33 = .ok (.invokevirtual 62, 3) := by decide +kernel
theorem dX6_linesOfRow_36 : decode cX6_linesOfRow 36 = .ok (.ishl, 1) := by decide +kernel
theorem dX6_linesOfRow_37 : decode cX6_linesOfRow 37 = .ok (.ior, 1) := by decide +kernel
theorem dX6_linesOfRow_38 : decode cX6_linesOfRow 38 = .ok (.istore 4, 2) := by decide +kernel
theorem dX6_linesOfRow_40 : decode cX6_linesOfRow 40 = .ok (.aload_n 1, 1) := by decide +kernel
theorem dX6_linesOfRow_41 : decode cX6_linesOfRow 41 = .ok (.iload_n 3, 1) := by decide +kernel
theorem dX6_linesOfRow_42 : decode cX6_linesOfRow 42 = .ok (.aload_n 0, 1) := by decide +kernel
theorem dX6_linesOfRow_43 : decode cX6_linesOfRow 43 = .ok (.getfield 24, 3) := by decide +kernel
theorem dX6_linesOfRow_46 : decode cX6_linesOfRow 46 = .ok (.iload 5, 2) := by decide +kernel
theorem dX6_linesOfRow_48 : decode cX6_linesOfRow 48 = .ok (.iaload, 1) := by decide +kernel
theorem dX6_linesOfRow_49 : decode cX6_linesOfRow 49 = .ok (.invokevirtual 67, 3) := by decide +kernel
theorem dX6_linesOfRow_52 : decode cX6_linesOfRow 52 = .ok (.istore_n 3, 1) := by decide +kernel
theorem dX6_linesOfRow_53 : decode cX6_linesOfRow 53 = .ok (.iinc 5 1, 3) := by decide +kernel
theorem dX6_linesOfRow_56 : decode cX6_linesOfRow 56 = .ok (.goto (-47), 3) := by decide +kernel
theorem dX6_linesOfRow_59 : decode cX6_linesOfRow 59 = .ok (.iload 4, 2) := by decide +kernel
theorem dX6_linesOfRow_61 : decode cX6_linesOfRow 61 = .ok (.ireturn, 1) := by decide +kernel
theorem dX6_goOnFrom_0 : decode cX6_goOnFrom 0 = .ok (.iconst 0, 1) := by decide +kernel
theorem dX6_goOnFrom_1 : decode cX6_goOnFrom 1 = .ok (.istore 4, 2) := by decide +kernel
theorem dX6_goOnFrom_3 : decode cX6_goOnFrom 3 = .ok (.iload 4, 2) := by decide +kernel
theorem dX6_goOnFrom_5 : decode cX6_goOnFrom 5 = .ok (.bipush 8, 2) := by decide +kernel
theorem dX6_goOnFrom_7 : decode cX6_goOnFrom 7 = .ok (.if_icmp .ge 102, 3) := by decide +kernel
theorem dX6_goOnFrom_10 : decode cX6_goOnFrom 10 = .ok (.aload_n 1, 1) := by decide +kernel
theorem dX6_goOnFrom_11 : decode cX6_goOnFrom 11 = .ok (.aload_n 0, 1) := by decide +kernel
theorem dX6_goOnFrom_12 : decode cX6_goOnFrom 12 = .ok (.getfield 11, 3) := by decide +kernel
theorem dX6_goOnFrom_15 : decode cX6_goOnFrom 15 = .ok (.iload_n 2, 1) := by decide +kernel
theorem dX6_goOnFrom_16 : decode cX6_goOnFrom 16 = .ok (.iaload, 1) := by decide +kernel
theorem dX6_goOnFrom_17 : decode cX6_goOnFrom 17 = .ok (.invokestatic 70, 3) := by decide +kernel
theorem dX6_goOnFrom_20 : decode cX6_goOnFrom 20 = .ok (.iload 4, 2) := by decide +kernel
theorem dX6_goOnFrom_22 : decode cX6_goOnFrom 22 = .ok (.invokevirtual 67, 3) := by decide +kernel
theorem dX6_goOnFrom_25 : decode cX6_goOnFrom 25 = .ok (.istore 5, 2) := by decide +kernel
theorem dX6_goOnFrom_27 : decode cX6_goOnFrom 27 = .ok (.aload_n 0, 1) := by decide +kernel
theorem dX6_goOnFrom_28 : decode cX6_goOnFrom 28 = .ok (.getfield 11, 3) := by decide +kernel
theorem dX6_goOnFrom_31 : decode cX6_goOnFrom 31 = .ok (.iload_n 2, 1) := by decide +kernel
theorem dX6_goOnFrom_32 : decode cX6_goOnFrom 32 = .ok (.iaload, 1) := by decide +kernel
theorem dX6_goOnFrom_33 : decode cX6_goOnFrom 33 = .ok (.invokestatic 73, 3) := by decide +kernel
theorem dX6_goOnFrom_36 : decode cX6_goOnFrom 36 = .ok (.iload 4, 2) := by decide +kernel
theorem dX6_goOnFrom_38 : decode cX6_goOnFrom 38 = .ok (.invokestatic 76, 3) := by decide +kernel
theorem dX6_goOnFrom_41 : decode cX6_goOnFrom 41 = .ok (.iadd, 1) := by decide +kernel
theorem dX6_goOnFrom_42 : decode cX6_goOnFrom 42 = .ok (.istore 6, 2) := by decide +kernel
theorem dX6_goOnFrom_44 : decode cX6_goOnFrom 44 = .ok (.iload 5, 2) := by decide +kernel
theorem dX6_goOnFrom_46 : decode cX6_goOnFrom 46 = .ok (.iload 6, 2) := by decide +kernel
theorem dX6_goOnFrom_48 : decode cX6_goOnFrom 48 = .ok (.invokestatic 38, 3) := by decide +kernel
theorem dX6_goOnFrom_51 : decode cX6_goOnFrom 51 = .ok (.istore 7, 2) := by decide +kernel
theorem dX6_goOnFrom_53 : decode cX6_goOnFrom 53 = .ok (.aload_n 0, 1) := by decide +kernel
theorem dX6_goOnFrom_54 : decode cX6_goOnFrom 54 = .ok (.iload 7, 2) := by decide +kernel
theorem dX6_goOnFrom_56 : decode cX6_goOnFrom 56 = .ok (.invokevirtual 42, 3) := by decide +kernel
theorem dX6_goOnFrom_59 : decode cX6_goOnFrom 59 = .ok (.istore 8, 2) := by decide +kernel
theorem dX6_goOnFrom_61 : decode cX6_goOnFrom 61 = .ok (.aload_n 0, 1) := by decide +kernel
theorem dX6_goOnFrom_62 : decode cX6_goOnFrom 62 = .ok (.getfield 21, 3) := by decide +kernel
theorem dX6_goOnFrom_65 : decode cX6_goOnFrom 65 = .ok (.iload 8, 2) := by decide +kernel
theorem dX6_goOnFrom_67 : decode cX6_goOnFrom 67 = .ok (.iaload, 1) := by decide +kernel
theorem dX6_goOnFrom_68 : decode cX6_goOnFrom 68 = .ok (.ifCond .eq 6, 3) := by decide +kernel
theorem dX6_goOnFrom_71 : decode cX6_goOnFrom 71 = .ok (.goto 32, 3) := by decide +kernel
theorem dX6_goOnFrom_74 : decode cX6_goOnFrom 74 = .ok (.aload_n 1, 1) := by decide +kernel
theorem dX6_goOnFrom_75 : decode cX6_goOnFrom 75 = .ok (.iload 5, 2) := by decide +kernel
theorem dX6_goOnFrom_77 : decode cX6_goOnFrom 77 = .ok (.iload 6, 2) := by decide +kernel
theorem dX6_goOnFrom_79 : decode cX6_goOnFrom 79 = .ok (.invokestatic 50, 3) := by decide +kernel
theorem dX6_goOnFrom_82 : decode cX6_goOnFrom 82 = .ok (.ifCond .eq 6, 3) := by decide +kernel
theorem dX6_goOnFrom_85 : decode cX6_goOnFrom 85 = .ok (.iload 4, 2) := by decide +kernel
theorem dX6_goOnFrom_87 : decode cX6_goOnFrom 87 = .ok (.ireturn, 1) := by decide +kernel
theorem dX6_goOnFrom_88 : decode cX6_goOnFrom 88 = .ok (.iload_n 3, 1) := by decide +kernel
theorem dX6_goOnFrom_89 : decode cX6_goOnFrom 89 = .ok (.ifCond .eq 14, 3) := by decide +kernel
theorem dX6_goOnFrom_92 : decode cX6_goOnFrom 92 = .ok (.aload_n 0, 1) := by decide +kernel
theorem dX6_goOnFrom_93 : decode cX6_goOnFrom 93 = .ok (.iload 8, 2) := by decide +kernel
theorem dX6_goOnFrom_95 : decode cX6_goOnFrom 95 = .ok (.iload 7, 2) := by decide +kernel
theorem dX6_goOnFrom_97 : decode cX6_goOnFrom 97 = .ok (.iload_n 2, 1) := by decide +kernel
theorem dX6_goOnFrom_98 : decode cX6_goOnFrom 98 = .ok (.iload 4, 2) := by decide +kernel
theorem dX6_goOnFrom_100 : decode cX6_goOnFrom 100 = .ok (.invokevirtual 46, 3) := by decide +kernel
theorem dX6_goOnFrom_103 : decode cX6_goOnFrom 103 = .ok (.iinc 4 1, 3) := by decide +kernel
theorem dX6_goOnFrom_106 : decode cX6_goOnFrom 106 = .ok (.goto (-103), 3) := by decide +kernel
theorem dX6_goOnFrom_109 : decode cX6_goOnFrom 109 = .ok (.iconst (-1), 1) := by decide +kernel
theorem dX6_goOnFrom_110 : decode cX6_goOnFrom 110 = .ok (.ireturn, 1) := by decide +kernel
theorem dX6_partsByBalance_0 : decode cX6_partsByBalance 0 = .ok (.aload_n 0, 1) := by decide +kernel
theorem dX6_partsByBalance_1 : decode cX6_partsByBalance 1 = .ok (.iload_n 1, 1) := by decide +kernel
theorem dX6_partsByBalance_2 : decode cX6_partsByBalance 2 = .ok (.bipush 7, 2) := by decide +kernel
theorem dX6_partsByBalance_4 : decode cX6_partsByBalance 4 = .ok (.invokevirtual 67, 3) := by decide +kernel
theorem dX6_partsByBalance_7 : decode cX6_partsByBalance 7 = .ok (.invokestatic 79, 3) := by decide +kernel
theorem dX6_partsByBalance_10 : decode cX6_partsByBalance 10 = .ok (.iload_n 2, 1) := by decide +kernel
theorem dX6_partsByBalance_11 : decode cX6_partsByBalance 11 = .ok (.if_icmp .eq 7, 3) := by decide +kernel
theorem dX6_partsByBalance_14 : decode cX6_partsByBalance 14 = .ok (.iconst 1, 1) := by decide +kernel
theorem dX6_partsByBalance_15 : decode cX6_partsByBalance 15 = .ok (.goto 4, 3) := by decide +kernel
theorem dX6_partsByBalance_18 : decode cX6_partsByBalance 18 = .ok (.iconst 0, 1) := by decide +kernel
theorem dX6_partsByBalance_19 : decode cX6_partsByBalance 19 = .ok (.ireturn, 1) := by decide +kernel
theorem dX6_tellRow_0 : decode cX6_tellRow 0 = .ok (.aload_n 0, 1) := by decide +kernel
theorem dX6_tellRow_1 : decode cX6_tellRow 1 = .ok (.getfield 24, 3) := by decide +kernel
theorem dX6_tellRow_4 : decode cX6_tellRow 4 = .ok (.iload_n 3, 1) := by decide +kernel
theorem dX6_tellRow_5 : decode cX6_tellRow 5 = .ok (.iconst 1, 1) := by decide +kernel
theorem dX6_tellRow_6 : decode cX6_tellRow 6 = .ok (.isub, 1) := by decide +kernel
theorem dX6_tellRow_7 : decode cX6_tellRow 7 = .ok (.bipush 7, 2) := by decide +kernel
theorem dX6_tellRow_9 : decode cX6_tellRow 9 = .ok (.iastore, 1) := by decide +kernel
theorem dX6_tellRow_10 : decode cX6_tellRow 10 = .ok (.aload_n 0, 1) := by decide +kernel
theorem dX6_tellRow_11 : decode cX6_tellRow 11 = .ok (.getfield 24, 3) := by decide +kernel
theorem dX6_tellRow_14 : decode cX6_tellRow 14 = .ok (.iload_n 3, 1) := by decide +kernel
theorem dX6_tellRow_15 : decode cX6_tellRow 15 = .ok (.iconst 2, 1) := by decide +kernel
theorem dX6_tellRow_16 : decode cX6_tellRow 16 = .ok (.isub, 1) := by decide +kernel
theorem dX6_tellRow_17 : decode cX6_tellRow 17 = .ok (.iload_n 2, 1) := by decide +kernel
theorem dX6_tellRow_18 : decode cX6_tellRow 18 = .ok (.iastore, 1) := by decide +kernel
theorem dX6_tellRow_19 : decode cX6_tellRow 19 = .ok (.iload_n 1, 1) := by decide +kernel
theorem dX6_tellRow_20 : decode cX6_tellRow 20 = .ok (.istore 4, 2) := by decide +kernel
theorem dX6_tellRow_22 : decode cX6_tellRow 22 = .ok (.iload_n 3, 1) := by decide +kernel
theorem dX6_tellRow_23 : decode cX6_tellRow 23 = .ok (.iconst 3, 1) := by decide +kernel
theorem dX6_tellRow_24 : decode cX6_tellRow 24 = .ok (.isub, 1) := by decide +kernel
theorem dX6_tellRow_25 : decode cX6_tellRow 25 = .ok (.istore 5, 2) := by decide +kernel
theorem dX6_tellRow_27 : decode cX6_tellRow 27 = .ok (.iload 5, 2) := by decide +kernel
theorem dX6_tellRow_29 : decode cX6_tellRow 29 = .ok (.ifCond .lt 32, 3) := by decide +kernel
theorem dX6_tellRow_32 : decode cX6_tellRow 32 = .ok (.aload_n 0, 1) := by decide +kernel
theorem dX6_tellRow_33 : decode cX6_tellRow 33 = .ok (.getfield 24, 3) := by decide +kernel
theorem dX6_tellRow_36 : decode cX6_tellRow 36 = .ok (.iload 5, 2) := by decide +kernel
theorem dX6_tellRow_38 : decode cX6_tellRow 38 = .ok (.aload_n 0, 1) := by decide +kernel
theorem dX6_tellRow_39 : decode cX6_tellRow 39 = .ok (.getfield 18, 3) := by decide +kernel
theorem dX6_tellRow_42 : decode cX6_tellRow 42 = .ok (.iload 4, 2) := by decide +kernel
theorem dX6_tellRow_44 : decode cX6_tellRow 44 = .ok (.iaload, 1) := by decide +kernel
theorem dX6_tellRow_45 : decode cX6_tellRow 45 = .ok (.iastore, 1) := by decide +kernel
theorem dX6_tellRow_46 : decode cX6_tellRow 46 = .ok (.aload_n 0, 1) := by decide +kernel
theorem dX6_tellRow_47 : decode cX6_tellRow 47 = .ok (.getfield 15, 3) := by decide +kernel
theorem dX6_tellRow_50 : decode cX6_tellRow 50 = .ok (.iload 4, 2) := by decide +kernel
theorem dX6_tellRow_52 : decode cX6_tellRow 52 = .ok (.iaload, 1) := by decide +kernel
theorem dX6_tellRow_53 : decode cX6_tellRow 53 = .ok (.istore 4, 2) := by decide +kernel
theorem dX6_tellRow_55 : decode cX6_tellRow 55 = .ok (.iinc 5 (-1), 3) := by decide +kernel
theorem dX6_tellRow_58 : decode cX6_tellRow 58 = .ok (.goto (-31), 3) := by decide +kernel
theorem dX6_tellRow_61 : decode cX6_tellRow 61 = .ok (.return_, 1) := by decide +kernel
theorem dX6_keep_0 : decode cX6_keep 0 = .ok (.aload_n 0, 1) := by decide +kernel
theorem dX6_keep_1 : decode cX6_keep 1 = .ok (.getfield 27, 3) := by decide +kernel
theorem dX6_keep_4 : decode cX6_keep 4 = .ok (.sipush 585, 3) := by decide +kernel
theorem dX6_keep_7 : decode cX6_keep 7 = .ok (.if_icmp .lt 4, 3) := by decide +kernel
theorem dX6_keep_10 : decode cX6_keep 10 = .ok (.return_, 1) := by decide +kernel
theorem dX6_keep_11 : decode cX6_keep 11 = .ok (.aload_n 0, 1) := by decide +kernel
theorem dX6_keep_12 : decode cX6_keep 12 = .ok (.getfield 11, 3) := by decide +kernel
theorem dX6_keep_15 : decode cX6_keep 15 = .ok (.aload_n 0, 1) := by decide +kernel
theorem dX6_keep_16 : decode cX6_keep 16 = .ok (.getfield 27, 3) := by decide +kernel
theorem dX6_keep_19 : decode cX6_keep 19 = .ok (.iload_n 2, 1) := by decide +kernel
theorem dX6_keep_20 : decode cX6_keep 20 = .ok (.iastore, 1) := by decide +kernel
theorem dX6_keep_21 : decode cX6_keep 21 = .ok (.aload_n 0, 1) := by decide +kernel
theorem dX6_keep_22 : decode cX6_keep 22 = .ok (.getfield 15, 3) := by decide +kernel
theorem dX6_keep_25 : decode cX6_keep 25 = .ok (.aload_n 0, 1) := by decide +kernel
theorem dX6_keep_26 : decode cX6_keep 26 = .ok (.getfield 27, 3) := by decide +kernel
theorem dX6_keep_29 : decode cX6_keep 29 = .ok (.iload_n 3, 1) := by decide +kernel
theorem dX6_keep_30 : decode cX6_keep 30 = .ok (.iastore, 1) := by decide +kernel
theorem dX6_keep_31 : decode cX6_keep 31 = .ok (.aload_n 0, 1) := by decide +kernel
theorem dX6_keep_32 : decode cX6_keep 32 = .ok (.getfield 18, 3) := by decide +kernel
theorem dX6_keep_35 : decode cX6_keep 35 = .ok (.aload_n 0, 1) := by decide +kernel
theorem dX6_keep_36 : decode cX6_keep 36 = .ok (.getfield 27, 3) := by decide +kernel
theorem dX6_keep_39 : decode cX6_keep 39 = .ok (.iload 4, 2) := by decide +kernel
theorem dX6_keep_41 : decode cX6_keep 41 = .ok (.iastore, 1) := by decide +kernel
theorem dX6_keep_42 : decode cX6_keep 42 = .ok (.aload_n 0, 1) := by decide +kernel
theorem dX6_keep_43 : decode cX6_keep 43 = .ok (.dup, 1) := by decide +kernel
theorem dX6_keep_44 : decode cX6_keep 44 = .ok (.getfield 27, 3) := by decide +kernel
theorem dX6_keep_47 : decode cX6_keep 47 = .ok (.iconst 1, 1) := by decide +kernel
theorem dX6_keep_48 : decode cX6_keep 48 = .ok (.iadd, 1) := by decide +kernel
theorem dX6_keep_49 : decode cX6_keep 49 = .ok (.putfield 27, 3) := by decide +kernel
theorem dX6_keep_52 : decode cX6_keep 52 = .ok (.aload_n 0, 1) := by decide +kernel
theorem dX6_keep_53 : decode cX6_keep 53 = .ok (.getfield 21, 3) := by decide +kernel
theorem dX6_keep_56 : decode cX6_keep 56 = .ok (.iload_n 1, 1) := by decide +kernel
theorem dX6_keep_57 : decode cX6_keep 57 = .ok (.aload_n 0, 1) := by decide +kernel
theorem dX6_keep_58 : decode cX6_keep 58 = .ok (.getfield 27, 3) := by decide +kernel
theorem dX6_keep_61 : decode cX6_keep 61 = .ok (.iastore, 1) := by decide +kernel
theorem dX6_keep_62 : decode cX6_keep 62 = .ok (.return_, 1) := by decide +kernel
theorem dX6_slotOf_0 : decode cX6_slotOf 0 = .ok (.iload_n 1, 1) := by decide +kernel
theorem dX6_slotOf_1 : decode cX6_slotOf 1 = .ok (.ldc 82, 2) := by decide +kernel
theorem dX6_slotOf_3 : decode cX6_slotOf 3 = .ok (.imul, 1) := by decide +kernel
theorem dX6_slotOf_4 : decode cX6_slotOf 4 = .ok (.bipush 22, 2) := by decide +kernel
theorem dX6_slotOf_6 : decode cX6_slotOf 6 = .ok (.iushr, 1) := by decide +kernel
theorem dX6_slotOf_7 : decode cX6_slotOf 7 = .ok (.istore_n 2, 1) := by decide +kernel
theorem dX6_slotOf_8 : decode cX6_slotOf 8 = .ok (.iconst 0, 1) := by decide +kernel
theorem dX6_slotOf_9 : decode cX6_slotOf 9 = .ok (.istore_n 3, 1) := by decide +kernel
theorem dX6_slotOf_10 : decode cX6_slotOf 10 = .ok (.iload_n 3, 1) := by decide +kernel
theorem dX6_slotOf_11 : decode cX6_slotOf 11 = .ok (.sipush 1024, 3) := by decide +kernel
theorem dX6_slotOf_14 : decode cX6_slotOf 14 = .ok (.if_icmp .ge 43, 3) := by decide +kernel
theorem dX6_slotOf_17 : decode cX6_slotOf 17 = .ok (.aload_n 0, 1) := by decide +kernel
theorem dX6_slotOf_18 : decode cX6_slotOf 18 = .ok (.getfield 21, 3) := by decide +kernel
theorem dX6_slotOf_21 : decode cX6_slotOf 21 = .ok (.iload_n 2, 1) := by decide +kernel
theorem dX6_slotOf_22 : decode cX6_slotOf 22 = .ok (.iaload, 1) := by decide +kernel
theorem dX6_slotOf_23 : decode cX6_slotOf 23 = .ok (.ifCond .eq 34, 3) := by decide +kernel
theorem dX6_slotOf_26 : decode cX6_slotOf 26 = .ok (.aload_n 0, 1) := by decide +kernel
theorem dX6_slotOf_27 : decode cX6_slotOf 27 = .ok (.getfield 11, 3) := by decide +kernel
theorem dX6_slotOf_30 : decode cX6_slotOf 30 = .ok (.aload_n 0, 1) := by decide +kernel
theorem dX6_slotOf_31 : decode cX6_slotOf 31 = .ok (.getfield 21, 3) := by decide +kernel
theorem dX6_slotOf_34 : decode cX6_slotOf 34 = .ok (.iload_n 2, 1) := by decide +kernel
theorem dX6_slotOf_35 : decode cX6_slotOf 35 = .ok (.iaload, 1) := by decide +kernel
theorem dX6_slotOf_36 : decode cX6_slotOf 36 = .ok (.iconst 1, 1) := by decide +kernel
theorem dX6_slotOf_37 : decode cX6_slotOf 37 = .ok (.isub, 1) := by decide +kernel
theorem dX6_slotOf_38 : decode cX6_slotOf 38 = .ok (.iaload, 1) := by decide +kernel
theorem dX6_slotOf_39 : decode cX6_slotOf 39 = .ok (.iload_n 1, 1) := by decide +kernel
theorem dX6_slotOf_40 : decode cX6_slotOf 40 = .ok (.if_icmp .eq 17, 3) := by decide +kernel
theorem dX6_slotOf_43 : decode cX6_slotOf 43 = .ok (.iload_n 2, 1) := by decide +kernel
theorem dX6_slotOf_44 : decode cX6_slotOf 44 = .ok (.iconst 1, 1) := by decide +kernel
theorem dX6_slotOf_45 : decode cX6_slotOf 45 = .ok (.iadd, 1) := by decide +kernel
theorem dX6_slotOf_46 : decode cX6_slotOf 46 = .ok (.sipush 1023, 3) := by decide +kernel
theorem dX6_slotOf_49 : decode cX6_slotOf 49 = .ok (.iand, 1) := by decide +kernel
theorem dX6_slotOf_50 : decode cX6_slotOf 50 = .ok (.istore_n 2, 1) := by decide +kernel
theorem dX6_slotOf_51 : decode cX6_slotOf 51 = .ok (.iinc 3 1, 3) := by decide +kernel
theorem dX6_slotOf_54 : decode cX6_slotOf 54 = .ok (.goto (-44), 3) := by decide +kernel
theorem dX6_slotOf_57 : decode cX6_slotOf 57 = .ok (.iload_n 2, 1) := by decide +kernel
theorem dX6_slotOf_58 : decode cX6_slotOf 58 = .ok (.ireturn, 1) := by decide +kernel
theorem dX6_keyOf_0 : decode cX6_keyOf 0 = .ok (.iload_n 1, 1) := by decide +kernel
theorem dX6_keyOf_1 : decode cX6_keyOf 1 = .ok (.bipush 8, 2) := by decide +kernel
theorem dX6_keyOf_3 : decode cX6_keyOf 3 = .ok (.iadd, 1) := by decide +kernel
theorem dX6_keyOf_4 : decode cX6_keyOf 4 = .ok (.bipush 25, 2) := by decide +kernel
theorem dX6_keyOf_6 : decode cX6_keyOf 6 = .ok (.ishl, 1) := by decide +kernel
theorem dX6_keyOf_7 : decode cX6_keyOf 7 = .ok (.iload_n 0, 1) := by decide +kernel
theorem dX6_keyOf_8 : decode cX6_keyOf 8 = .ok (.ior, 1) := by decide +kernel
theorem dX6_keyOf_9 : decode cX6_keyOf 9 = .ok (.ireturn, 1) := by decide +kernel
theorem dX6_stateOf_0 : decode cX6_stateOf 0 = .ok (.iload_n 0, 1) := by decide +kernel
theorem dX6_stateOf_1 : decode cX6_stateOf 1 = .ok (.ldc 83, 2) := by decide +kernel
theorem dX6_stateOf_3 : decode cX6_stateOf 3 = .ok (.iand, 1) := by decide +kernel
theorem dX6_stateOf_4 : decode cX6_stateOf 4 = .ok (.ireturn, 1) := by decide +kernel
theorem dX6_drawerOf_0 : decode cX6_drawerOf 0 = .ok (.iload_n 0, 1) := by decide +kernel
theorem dX6_drawerOf_1 : decode cX6_drawerOf 1 = .ok (.bipush 25, 2) := by decide +kernel
theorem dX6_drawerOf_3 : decode cX6_drawerOf 3 = .ok (.ishr, 1) := by decide +kernel
theorem dX6_drawerOf_4 : decode cX6_drawerOf 4 = .ok (.bipush 8, 2) := by decide +kernel
theorem dX6_drawerOf_6 : decode cX6_drawerOf 6 = .ok (.isub, 1) := by decide +kernel
theorem dX6_drawerOf_7 : decode cX6_drawerOf 7 = .ok (.ireturn, 1) := by decide +kernel
theorem dX7_init_0 : decode cX7_init 0 = .ok (.aload_n 0, 1) := by decide +kernel
theorem dX7_init_1 : decode cX7_init 1 = .ok (.invokespecial 3, 3) := by decide +kernel
theorem dX7_init_4 : decode cX7_init 4 = .ok (.aload_n 0, 1) := by decide +kernel
theorem dX7_init_5 : decode cX7_init 5 = .ok (.bipush 40, 2) := by decide +kernel
theorem dX7_init_7 : decode cX7_init 7 = .ok (.newarray .int, 2) := by decide +kernel
theorem dX7_init_9 : decode cX7_init 9 = .ok (.putfield 9, 3) := by decide +kernel
theorem dX7_init_12 : decode cX7_init 12 = .ok (.aload_n 0, 1) := by decide +kernel
theorem dX7_init_13 : decode cX7_init 13 = .ok (.iconst 1, 1) := by decide +kernel
theorem dX7_init_14 : decode cX7_init 14 = .ok (.putfield 15, 3) := by decide +kernel
theorem dX7_init_17 : decode cX7_init 17 = .ok (.aload_n 0, 1) := by decide +kernel
theorem dX7_init_18 : decode cX7_init 18 = .ok (.iconst 0, 1) := by decide +kernel
theorem dX7_init_19 : decode cX7_init 19 = .ok (.putfield 19, 3) := by decide +kernel
theorem dX7_init_22 : decode cX7_init 22 = .ok (.aload_n 0, 1) := by decide +kernel
theorem dX7_init_23 : decode cX7_init 23 = .ok (.iconst 0, 1) := by decide +kernel
theorem dX7_init_24 : decode cX7_init 24 = .ok (.putfield 23, 3) := by decide +kernel
theorem dX7_init_27 : decode cX7_init 27 = .ok (.return_, 1) := by decide +kernel
theorem dX7_renew_0 : decode cX7_renew 0 = .ok (.aload_n 0, 1) := by decide +kernel
theorem dX7_renew_1 : decode cX7_renew 1 = .ok (.getfield 9, 3) := by decide +kernel
theorem dX7_renew_4 : decode cX7_renew 4 = .ok (.iconst 0, 1) := by decide +kernel
theorem dX7_renew_5 : decode cX7_renew 5 = .ok (.invokestatic 26, 3) := by decide +kernel
theorem dX7_renew_8 : decode cX7_renew 8 = .ok (.aload_n 0, 1) := by decide +kernel
theorem dX7_renew_9 : decode cX7_renew 9 = .ok (.iconst 0, 1) := by decide +kernel
theorem dX7_renew_10 : decode cX7_renew 10 = .ok (.putfield 15, 3) := by decide +kernel
theorem dX7_renew_13 : decode cX7_renew 13 = .ok (.aload_n 0, 1) := by decide +kernel
theorem dX7_renew_14 : decode cX7_renew 14 = .ok (.iload_n 1, 1) := by decide +kernel
theorem dX7_renew_15 : decode cX7_renew 15 = .ok (.putfield 19, 3) := by decide +kernel
theorem dX7_renew_18 : decode cX7_renew 18 = .ok (.aload_n 0, 1) := by decide +kernel
theorem dX7_renew_19 : decode cX7_renew 19 = .ok (.iload_n 2, 1) := by decide +kernel
theorem dX7_renew_20 : decode cX7_renew 20 = .ok (.bipush 40, 2) := by decide +kernel
theorem dX7_renew_22 : decode cX7_renew 22 = .ok (.invokestatic 32, 3) := by decide +kernel
theorem dX7_renew_25 : decode cX7_renew 25 = .ok (.putfield 23, 3) := by decide +kernel
theorem dX7_renew_28 : decode cX7_renew 28 = .ok (.return_, 1) := by decide +kernel
theorem dX7_findingAt_0 : decode cX7_findingAt 0 = .ok (.aload_n 0, 1) := by decide +kernel
theorem dX7_findingAt_1 : decode cX7_findingAt 1 = .ok (.getfield 15, 3) := by decide +kernel
theorem dX7_findingAt_4 : decode cX7_findingAt 4 = .ok (.ifCond .eq 5, 3) := by decide +kernel
theorem dX7_findingAt_7 : decode cX7_findingAt 7 = .ok (.iconst 1, 1) := by decide +kernel
theorem dX7_findingAt_8 : decode cX7_findingAt 8 = .ok (.ireturn, 1) := by decide +kernel
theorem dX7_findingAt_9 : decode cX7_findingAt 9 = .ok (.iload_n 1, 1) := by decide +kernel
theorem dX7_findingAt_10 : decode cX7_findingAt 10 = .ok (.aload_n 0, 1) := by decide +kernel
theorem dX7_findingAt_11 : decode cX7_findingAt 11 = .ok (.getfield 19, 3) := by decide +kernel
theorem dX7_findingAt_14 : decode cX7_findingAt 14 = .ok (.if_icmp .eq 5, 3) := by decide +kernel
theorem dX7_findingAt_17 : decode cX7_findingAt 17 = .ok (.iconst 3, 1) := by decide +kernel
theorem dX7_findingAt_18 : decode cX7_findingAt 18 = .ok (.ireturn, 1) := by decide +kernel
theorem dX7_findingAt_19 : decode cX7_findingAt 19 = .ok (.iload_n 2, 1) := by decide +kernel
theorem dX7_findingAt_20 : decode cX7_findingAt 20 = .ok (.ifCond .lt 11, 3) := by decide +kernel
theorem dX7_findingAt_23 : decode cX7_findingAt 23 = .ok (.iload_n 2, 1) := by decide +kernel
theorem dX7_findingAt_24 : decode cX7_findingAt 24 = .ok (.aload_n 0, 1) := by decide +kernel
theorem dX7_findingAt_25 : decode cX7_findingAt 25 = .ok (.getfield 23, 3) := by decide +kernel
theorem dX7_findingAt_28 : decode cX7_findingAt 28 = .ok (.if_icmp .lt 7, 3) := by decide +kernel
theorem dX7_findingAt_31 : decode cX7_findingAt 31 = .ok (.iconst 2, 1) := by decide +kernel
theorem dX7_findingAt_32 : decode cX7_findingAt 32 = .ok (.goto 4, 3) := by decide +kernel
theorem dX7_findingAt_35 : decode cX7_findingAt 35 = .ok (.iconst 0, 1) := by decide +kernel
theorem dX7_findingAt_36 : decode cX7_findingAt 36 = .ok (.ireturn, 1) := by decide +kernel
theorem dX7_store_0 : decode cX7_store 0 = .ok (.iload_n 1, 1) := by decide +kernel
theorem dX7_store_1 : decode cX7_store 1 = .ok (.ifCond .lt 43, 3) := by decide +kernel
theorem dX7_store_4 : decode cX7_store 4 = .ok (.iload_n 1, 1) := by decide +kernel
theorem dX7_store_5 : decode cX7_store 5 = .ok (.aload_n 0, 1) := by decide +kernel
theorem dX7_store_6 : decode cX7_store 6 = .ok (.getfield 23, 3) := by decide +kernel
theorem dX7_store_9 : decode cX7_store 9 = .ok (.if_icmp .ge 35, 3) := by decide +kernel
theorem dX7_store_12 : decode cX7_store 12 = .ok (.aload_n 0, 1) := by decide +kernel
theorem dX7_store_13 : decode cX7_store 13 = .ok (.getfield 9, 3) := by decide +kernel
theorem dX7_store_16 : decode cX7_store 16 = .ok (.iload_n 1, 1) := by decide +kernel
theorem dX7_store_17 : decode cX7_store 17 = .ok (.aload_n 0, 1) := by decide +kernel
theorem dX7_store_18 : decode cX7_store 18 = .ok (.getfield 19, 3) := by decide +kernel
theorem dX7_store_21 : decode cX7_store 21 = .ok (.ifCond .ne 8, 3) := by decide +kernel
theorem dX7_store_24 : decode cX7_store 24 = .ok (.iload_n 2, 1) := by decide +kernel
theorem dX7_store_25 : decode cX7_store 25 = .ok (.i2b, 1) := by decide +kernel
theorem dX7_store_26 : decode cX7_store 26 = .ok (.goto 17, 3) := by decide +kernel
theorem dX7_store_29 : decode cX7_store 29 = .ok (.aload_n 0, 1) := by decide +kernel
theorem dX7_store_30 : decode cX7_store 30 = .ok (.getfield 19, 3) := by decide +kernel
theorem dX7_store_33 : decode cX7_store 33 = .ok (.iconst 1, 1) := by decide +kernel
theorem dX7_store_34 : decode cX7_store 34 = .ok (.if_icmp .ne 8, 3) := by decide +kernel
theorem dX7_store_37 : decode cX7_store 37 = .ok (.iload_n 2, 1) := by decide +kernel
theorem dX7_store_38 : decode cX7_store 38 = .ok (.i2s, 1) := by decide +kernel
theorem dX7_store_39 : decode cX7_store 39 = .ok (.goto 4, 3) := by decide +kernel
theorem dX7_store_42 : decode cX7_store 42 = .ok (.iload_n 2, 1) := by decide +kernel
theorem dX7_store_43 : decode cX7_store 43 = .ok (.iastore, 1) := by decide +kernel
theorem dX7_store_44 : decode cX7_store 44 = .ok (.return_, 1) := by decide +kernel
theorem dX7_hasItems_0 : decode cX7_hasItems 0 = .ok (.iload_n 1, 1) := by decide +kernel
theorem dX7_hasItems_1 : decode cX7_hasItems 1 = .ok (.ifCond .lt 29, 3) := by decide +kernel
theorem dX7_hasItems_4 : decode cX7_hasItems 4 = .ok (.iload_n 2, 1) := by decide +kernel
theorem dX7_hasItems_5 : decode cX7_hasItems 5 = .ok (.ifCond .lt 25, 3) := by decide +kernel
theorem dX7_hasItems_8 : decode cX7_hasItems 8 = .ok (.iload_n 2, 1) := by decide +kernel
theorem dX7_hasItems_9 : decode cX7_hasItems 9 = .ok (.aload_n 0, 1) := by decide +kernel
theorem dX7_hasItems_10 : decode cX7_hasItems 10 = .ok (.getfield 23, 3) := by decide +kernel
theorem dX7_hasItems_13 : decode cX7_hasItems 13 = .ok (.if_icmp .gt 17, 3) := by decide +kernel
theorem dX7_hasItems_16 : decode cX7_hasItems 16 = .ok (.iload_n 1, 1) := by decide +kernel
theorem dX7_hasItems_17 : decode cX7_hasItems 17 = .ok (.aload_n 0, 1) := by decide +kernel
theorem dX7_hasItems_18 : decode cX7_hasItems 18 = .ok (.getfield 23, 3) := by decide +kernel
theorem dX7_hasItems_21 : decode cX7_hasItems 21 = .ok (.iload_n 2, 1) := by decide +kernel
theorem dX7_hasItems_22 : decode cX7_hasItems 22 = .ok (.isub, 1) := by decide +kernel
theorem dX7_hasItems_23 : decode cX7_hasItems 23 = .ok (.if_icmp .gt 7, 3) := by decide +kernel
theorem dX7_hasItems_26 : decode cX7_hasItems 26 = .ok (.iconst 1, 1) := by decide +kernel
theorem dX7_hasItems_27 : decode cX7_hasItems 27 = .ok (.goto 4, 3) := by decide +kernel
theorem dX7_hasItems_30 : decode cX7_hasItems 30 = .ok (.iconst 0, 1) := by decide +kernel
theorem dX7_hasItems_31 : decode cX7_hasItems 31 = .ok (.ireturn, 1) := by decide +kernel
theorem dX7_holdsEvent_0 : decode cX7_holdsEvent 0 = .ok (.iload_n 1, 1) := by decide +kernel
theorem dX7_holdsEvent_1 : decode cX7_holdsEvent 1 = .ok (.ifCond .lt 35, 3) := by decide +kernel
theorem dX7_holdsEvent_4 : decode cX7_holdsEvent 4 = .ok (.iload_n 1, 1) := by decide +kernel
theorem dX7_holdsEvent_5 : decode cX7_holdsEvent 5 = .ok (.aload_n 0, 1) := by decide +kernel
theorem dX7_holdsEvent_6 : decode cX7_holdsEvent 6 = .ok (.getfield 23, 3) := by decide +kernel
theorem dX7_holdsEvent_9 : decode cX7_holdsEvent 9 = .ok (.if_icmp .ge 27, 3) := by decide +kernel
theorem dX7_holdsEvent_12 : decode cX7_holdsEvent 12 = .ok (.aload_n 0, 1) := by decide +kernel
theorem dX7_holdsEvent_13 : decode cX7_holdsEvent 13 = .ok (.getfield 9, 3) := by decide +kernel
theorem dX7_holdsEvent_16 : decode cX7_holdsEvent 16 = .ok (.iload_n 1, 1) := by decide +kernel
theorem dX7_holdsEvent_17 : decode cX7_holdsEvent 17 = .ok (.iaload, 1) := by decide +kernel
theorem dX7_holdsEvent_18 : decode cX7_holdsEvent 18 = .ok (.ifCond .lt 18, 3) := by decide +kernel
theorem dX7_holdsEvent_21 : decode cX7_holdsEvent 21 = .ok (.aload_n 0, 1) := by decide +kernel
theorem dX7_holdsEvent_22 : decode cX7_holdsEvent 22 = .ok (.getfield 9, 3) := by decide +kernel
theorem dX7_holdsEvent_25 : decode cX7_holdsEvent 25 = .ok (.iload_n 1, 1) := by decide +kernel
theorem dX7_holdsEvent_26 : decode cX7_holdsEvent 26 = .ok (.iaload, 1) := by decide +kernel
theorem dX7_holdsEvent_27 : decode cX7_holdsEvent 27 = .ok (.bipush 8, 2) := by decide +kernel
theorem dX7_holdsEvent_29 : decode cX7_holdsEvent 29 = .ok (.if_icmp .ge 7, 3) := by decide +kernel
theorem dX7_holdsEvent_32 : decode cX7_holdsEvent 32 = .ok (.iconst 1, 1) := by decide +kernel
theorem dX7_holdsEvent_33 : decode cX7_holdsEvent 33 = .ok (.goto 4, 3) := by decide +kernel
theorem dX7_holdsEvent_36 : decode cX7_holdsEvent 36 = .ok (.iconst 0, 1) := by decide +kernel
theorem dX7_holdsEvent_37 : decode cX7_holdsEvent 37 = .ok (.ireturn, 1) := by decide +kernel
theorem dX7_countEvents_0 : decode cX7_countEvents 0 = .ok (.iconst 0, 1) := by decide +kernel
theorem dX7_countEvents_1 : decode cX7_countEvents 1 = .ok (.istore_n 2, 1) := by decide +kernel
theorem dX7_countEvents_2 : decode cX7_countEvents 2 = .ok (.iconst 0, 1) := by decide +kernel
theorem dX7_countEvents_3 : decode cX7_countEvents 3 = .ok (.istore_n 3, 1) := by decide +kernel
theorem dX7_countEvents_4 : decode cX7_countEvents 4 = .ok (.iload_n 3, 1) := by decide +kernel
theorem dX7_countEvents_5 : decode cX7_countEvents 5 = .ok (.iload_n 1, 1) := by decide +kernel
theorem dX7_countEvents_6 : decode cX7_countEvents 6 = .ok (.if_icmp .ge 25, 3) := by decide +kernel
theorem dX7_countEvents_9 : decode cX7_countEvents 9 = .ok (.iload_n 2, 1) := by decide +kernel
theorem dX7_countEvents_10 : decode cX7_countEvents 10 = .ok (.aload_n 0, 1) := by decide +kernel
theorem dX7_countEvents_11 : decode cX7_countEvents 11 = .ok (.iload_n 3, 1) := by decide +kernel
theorem dX7_countEvents_12 : decode cX7_countEvents 12 = .ok (.invokevirtual 38, 3) := by decide +kernel
theorem dX7_countEvents_15 : decode cX7_countEvents 15 = .ok (.ifCond .eq 7, 3) := by decide +kernel
theorem dX7_countEvents_18 : decode cX7_countEvents 18 = .ok (.iconst 1, 1) := by decide +kernel
theorem dX7_countEvents_19 : decode cX7_countEvents 19 = .ok (.goto 4, 3) := by decide +kernel
theorem dX7_countEvents_22 : decode cX7_countEvents 22 = .ok (.iconst 0, 1) := by decide +kernel
theorem dX7_countEvents_23 : decode cX7_countEvents 23 = .ok (.iadd, 1) := by decide +kernel
theorem dX7_countEvents_24 : decode cX7_countEvents 24 = .ok (.istore_n 2, 1) := by decide +kernel
theorem dX7_countEvents_25 : decode cX7_countEvents 25 = .ok (.iinc 3 1, 3) := by decide +kernel
theorem dX7_countEvents_28 : decode cX7_countEvents 28 = .ok (.goto (-24), 3) := by decide +kernel
theorem dX7_countEvents_31 : decode cX7_countEvents 31 = .ok (.iload_n 2, 1) := by decide +kernel
theorem dX7_countEvents_32 : decode cX7_countEvents 32 = .ok (.ireturn, 1) := by decide +kernel
theorem dX8_init_0 : decode cX8_init 0 = .ok (.aload_n 0, 1) := by decide +kernel
theorem dX8_init_1 : decode cX8_init 1 = .ok (.invokespecial 3, 3) := by decide +kernel
theorem dX8_init_4 : decode cX8_init 4 = .ok (.aload_n 0, 1) := by decide +kernel
theorem dX8_init_5 : decode cX8_init 5 = .ok (.bipush 120, 2) := by decide +kernel
theorem dX8_init_7 : decode cX8_init 7 = .ok (.newarray .int, 2) := by decide +kernel
theorem dX8_init_9 : decode cX8_init 9 = .ok (.putfield 9, 3) := by decide +kernel
theorem dX8_init_12 : decode cX8_init 12 = .ok (.aload_n 0, 1) := by decide +kernel
theorem dX8_init_13 : decode cX8_init 13 = .ok (.bipush 120, 2) := by decide +kernel
theorem dX8_init_15 : decode cX8_init 15 = .ok (.newarray .int, 2) := by decide +kernel
theorem dX8_init_17 : decode cX8_init 17 = .ok (.putfield 15, 3) := by decide +kernel
theorem dX8_init_20 : decode cX8_init 20 = .ok (.aload_n 0, 1) := by decide +kernel
theorem dX8_init_21 : decode cX8_init 21 = .ok (.bipush 16, 2) := by decide +kernel
theorem dX8_init_23 : decode cX8_init 23 = .ok (.newarray .int, 2) := by decide +kernel
theorem dX8_init_25 : decode cX8_init 25 = .ok (.putfield 18, 3) := by decide +kernel
theorem dX8_init_28 : decode cX8_init 28 = .ok (.aload_n 0, 1) := by decide +kernel
theorem dX8_init_29 : decode cX8_init 29 = .ok (.bipush 16, 2) := by decide +kernel
theorem dX8_init_31 : decode cX8_init 31 = .ok (.newarray .int, 2) := by decide +kernel
theorem dX8_init_33 : decode cX8_init 33 = .ok (.putfield 21, 3) := by decide +kernel
theorem dX8_init_36 : decode cX8_init 36 = .ok (.aload_n 0, 1) := by decide +kernel
theorem dX8_init_37 : decode cX8_init 37 = .ok (.bipush 16, 2) := by decide +kernel
theorem dX8_init_39 : decode cX8_init 39 = .ok (.newarray .int, 2) := by decide +kernel
theorem dX8_init_41 : decode cX8_init 41 = .ok (.putfield 24, 3) := by decide +kernel
theorem dX8_init_44 : decode cX8_init 44 = .ok (.aload_n 0, 1) := by decide +kernel
theorem dX8_init_45 : decode cX8_init 45 = .ok (.bipush 16, 2) := by decide +kernel
theorem dX8_init_47 : decode cX8_init 47 = .ok (.newarray .int, 2) := by decide +kernel
theorem dX8_init_49 : decode cX8_init 49 = .ok (.putfield 27, 3) := by decide +kernel
theorem dX8_init_52 : decode cX8_init 52 = .ok (.aload_n 0, 1) := by decide +kernel
theorem dX8_init_53 : decode cX8_init 53 = .ok (.iconst 0, 1) := by decide +kernel
theorem dX8_init_54 : decode cX8_init 54 = .ok (.putfield 30, 3) := by decide +kernel
theorem dX8_init_57 : decode cX8_init 57 = .ok (.aload_n 0, 1) := by decide +kernel
theorem dX8_init_58 : decode cX8_init 58 = .ok (.iconst (-1), 1) := by decide +kernel
theorem dX8_init_59 : decode cX8_init 59 = .ok (.putfield 34, 3) := by decide +kernel
theorem dX8_init_62 : decode cX8_init 62 = .ok (.aload_n 0, 1) := by decide +kernel
theorem dX8_init_63 : decode cX8_init 63 = .ok (.iconst 0, 1) := by decide +kernel
theorem dX8_init_64 : decode cX8_init 64 = .ok (.putfield 37, 3) := by decide +kernel
theorem dX8_init_67 : decode cX8_init 67 = .ok (.aload_n 0, 1) := by decide +kernel
theorem dX8_init_68 : decode cX8_init 68 = .ok (.iconst 1, 1) := by decide +kernel
theorem dX8_init_69 : decode cX8_init 69 = .ok (.putfield 40, 3) := by decide +kernel
theorem dX8_init_72 : decode cX8_init 72 = .ok (.return_, 1) := by decide +kernel
theorem dX8_append_0 : decode cX8_append 0 = .ok (.aload_n 0, 1) := by decide +kernel
theorem dX8_append_1 : decode cX8_append 1 = .ok (.getfield 30, 3) := by decide +kernel
theorem dX8_append_4 : decode cX8_append 4 = .ok (.bipush 120, 2) := by decide +kernel
theorem dX8_append_6 : decode cX8_append 6 = .ok (.if_icmp .lt 6, 3) := by decide +kernel
theorem dX8_append_9 : decode cX8_append 9 = .ok (.bipush (-4), 2) := by decide +kernel
theorem dX8_append_11 : decode cX8_append 11 = .ok (.ireturn, 1) := by decide +kernel
theorem dX8_append_12 : decode cX8_append 12 = .ok (.aload_n 0, 1) := by decide +kernel
theorem dX8_append_13 : decode cX8_append 13 = .ok (.getfield 9, 3) := by decide +kernel
theorem dX8_append_16 : decode cX8_append 16 = .ok (.aload_n 0, 1) := by decide +kernel
theorem dX8_append_17 : decode cX8_append 17 = .ok (.getfield 30, 3) := by decide +kernel
theorem dX8_append_20 : decode cX8_append 20 = .ok (.iload_n 1, 1) := by decide +kernel
theorem dX8_append_21 : decode cX8_append 21 = .ok (.iastore, 1) := by decide +kernel
theorem dX8_append_22 : decode cX8_append 22 = .ok (.aload_n 0, 1) := by decide +kernel
theorem dX8_append_23 : decode cX8_append 23 = .ok (.dup, 1) := by decide +kernel
theorem dX8_append_24 : decode cX8_append 24 = .ok (.getfield 30, 3) := by decide +kernel
theorem dX8_append_27 : decode cX8_append 27 = .ok (.iconst 1, 1) := by decide +kernel
theorem dX8_append_28 : decode cX8_append 28 = .ok (.iadd, 1) := by decide +kernel
theorem dX8_append_29 : decode cX8_append 29 = .ok (.putfield 30, 3) := by decide +kernel
theorem dX8_append_32 : decode cX8_append 32 = .ok (.aload_n 0, 1) := by decide +kernel
theorem dX8_append_33 : decode cX8_append 33 = .ok (.iconst 0, 1) := by decide +kernel
theorem dX8_append_34 : decode cX8_append 34 = .ok (.putfield 40, 3) := by decide +kernel
theorem dX8_append_37 : decode cX8_append 37 = .ok (.aload_n 0, 1) := by decide +kernel
theorem dX8_append_38 : decode cX8_append 38 = .ok (.dup, 1) := by decide +kernel
theorem dX8_append_39 : decode cX8_append 39 = .ok (.getfield 37, 3) := by decide +kernel
theorem dX8_append_42 : decode cX8_append 42 = .ok (.iconst 1, 1) := by decide +kernel
theorem dX8_append_43 : decode cX8_append 43 = .ok (.iadd, 1) := by decide +kernel
theorem dX8_append_44 : decode cX8_append 44 = .ok (.putfield 37, 3) := by decide +kernel
theorem dX8_append_47 : decode cX8_append 47 = .ok (.aload_n 0, 1) := by decide +kernel
theorem dX8_append_48 : decode cX8_append 48 = .ok (.getfield 30, 3) := by decide +kernel
theorem dX8_append_51 : decode cX8_append 51 = .ok (.ireturn, 1) := by decide +kernel
theorem dX8_empty_0 : decode cX8_empty 0 = .ok (.aload_n 0, 1) := by decide +kernel
theorem dX8_empty_1 : decode cX8_empty 1 = .ok (.getfield 30, 3) := by decide +kernel
theorem dX8_empty_4 : decode cX8_empty 4 = .ok (.istore_n 1, 1) := by decide +kernel
theorem dX8_empty_5 : decode cX8_empty 5 = .ok (.aload_n 0, 1) := by decide +kernel
theorem dX8_empty_6 : decode cX8_empty 6 = .ok (.iconst 0, 1) := by decide +kernel
theorem dX8_empty_7 : decode cX8_empty 7 = .ok (.putfield 30, 3) := by decide +kernel
theorem dX8_empty_10 : decode cX8_empty 10 = .ok (.aload_n 0, 1) := by decide +kernel
theorem dX8_empty_11 : decode cX8_empty 11 = .ok (.iconst 0, 1) := by decide +kernel
theorem dX8_empty_12 : decode cX8_empty 12 = .ok (.putfield 40, 3) := by decide +kernel
theorem dX8_empty_15 : decode cX8_empty 15 = .ok (.aload_n 0, 1) := by decide +kernel
theorem dX8_empty_16 : decode cX8_empty 16 = .ok (.dup, 1) := by decide +kernel
theorem dX8_empty_17 : decode cX8_empty 17 = .ok (.getfield 37, 3) := by decide +kernel
theorem dX8_empty_20 : decode cX8_empty 20 = .ok (.iconst 1, 1) := by decide +kernel
theorem dX8_empty_21 : decode cX8_empty 21 = .ok (.iadd, 1) := by decide +kernel
theorem dX8_empty_22 : decode cX8_empty 22 = .ok (.putfield 37, 3) := by decide +kernel
theorem dX8_empty_25 : decode cX8_empty 25 = .ok (.iload_n 1, 1) := by decide +kernel
theorem dX8_empty_26 : decode cX8_empty 26 = .ok (.ireturn, 1) := by decide +kernel
theorem dX8_read_0 : decode cX8_read 0 = .ok (.aload_n 0, 1) := by decide +kernel
theorem dX8_read_1 : decode cX8_read 1 = .ok (.getfield 40, 3) := by decide +kernel
theorem dX8_read_4 : decode cX8_read 4 = .ok (.ifCond .eq 4, 3) := by decide +kernel
theorem dX8_read_7 : decode cX8_read 7 = .ok (.return_, 1) := by decide +kernel
theorem dX8_read_8 : decode cX8_read 8 = .ok (.aload_n 0, 1) := by decide +kernel
theorem dX8_read_9 : decode cX8_read 9 = .ok (.iconst 1, 1) := by decide +kernel
theorem dX8_read_10 : decode cX8_read 10 = .ok (.putfield 40, 3) := by decide +kernel
theorem dX8_read_13 : decode cX8_read 13 = .ok (.aload_n 0, 1) := by decide +kernel
theorem dX8_read_14 : decode cX8_read 14 = .ok (.getfield 21, 3) := by decide +kernel
theorem dX8_read_17 : decode cX8_read 17 = .ok (.iconst 0, 1) := by decide +kernel
theorem dX8_read_18 : decode cX8_read 18 = .ok (.invokestatic 44, 3) := by decide +kernel
theorem dX8_read_21 : decode cX8_read 21 = .ok (.aload_n 0, 1) := by decide +kernel
theorem dX8_read_22 : decode cX8_read 22 = .ok (.getfield 24, 3) := by decide +kernel
theorem dX8_read_25 : decode cX8_read 25 = .ok (.iconst 0, 1) := by decide +kernel
theorem dX8_read_26 : decode cX8_read 26 = .ok (.invokestatic 44, 3) := by decide +kernel
theorem dX8_read_29 : decode cX8_read 29 = .ok (.aload_n 0, 1) := by decide +kernel
theorem dX8_read_30 : decode cX8_read 30 = .ok (.getfield 27, 3) := by decide +kernel
theorem dX8_read_33 : decode cX8_read 33 = .ok (.iconst 0, 1) := by decide +kernel
theorem dX8_read_34 : decode cX8_read 34 = .ok (.invokestatic 44, 3) := by decide +kernel
theorem dX8_read_37 : decode cX8_read 37 = .ok (.aload_n 0, 1) := by decide +kernel
theorem dX8_read_38 : decode cX8_read 38 = .ok (.aload_n 0, 1) := by decide +kernel
theorem dX8_read_39 : decode cX8_read 39 = .ok (.invokevirtual 50, 3) := by decide +kernel
theorem dX8_read_42 : decode cX8_read 42 = .ok (.putfield 34, 3) := by decide +kernel
theorem dX8_read_45 : decode cX8_read 45 = .ok (.aload_n 0, 1) := by decide +kernel
theorem dX8_read_46 : decode cX8_read 46 = .ok (.getfield 34, 3) := by decide +kernel
theorem dX8_read_49 : decode cX8_read 49 = .ok (.iconst (-1), 1) := by decide +kernel
theorem dX8_read_50 : decode cX8_read 50 = .ok (.if_icmp .ne 7, 3) := by decide +kernel
theorem dX8_read_53 : decode cX8_read 53 = .ok (.aload_n 0, 1) := by decide +kernel
theorem dX8_read_54 : decode cX8_read 54 = .ok (.invokevirtual 54, 3) := by decide +kernel
theorem dX8_read_57 : decode cX8_read 57 = .ok (.return_, 1) := by decide +kernel
theorem dX8_tellsAlike_0 : decode cX8_tellsAlike 0 = .ok (.aload_n 0, 1) := by decide +kernel
theorem dX8_tellsAlike_1 : decode cX8_tellsAlike 1 = .ok (.getfield 24, 3) := by decide +kernel
theorem dX8_tellsAlike_4 : decode cX8_tellsAlike 4 = .ok (.iload_n 1, 1) := by decide +kernel
theorem dX8_tellsAlike_5 : decode cX8_tellsAlike 5 = .ok (.iaload, 1) := by decide +kernel
theorem dX8_tellsAlike_6 : decode cX8_tellsAlike 6 = .ok (.istore 4, 2) := by decide +kernel
theorem dX8_tellsAlike_8 : decode cX8_tellsAlike 8 = .ok (.aload_n 2, 1) := by decide +kernel
theorem dX8_tellsAlike_9 : decode cX8_tellsAlike 9 = .ok (.getfield 24, 3) := by decide +kernel
theorem dX8_tellsAlike_12 : decode cX8_tellsAlike 12 = .ok (.iload_n 3, 1) := by decide +kernel
theorem dX8_tellsAlike_13 : decode cX8_tellsAlike 13 = .ok (.iaload, 1) := by decide +kernel
theorem dX8_tellsAlike_14 : decode cX8_tellsAlike 14 = .ok (.istore 5, 2) := by decide +kernel
theorem dX8_tellsAlike_16 : decode cX8_tellsAlike 16 = .ok (.aload_n 0, 1) := by decide +kernel
theorem dX8_tellsAlike_17 : decode cX8_tellsAlike 17 = .ok (.getfield 27, 3) := by decide +kernel
theorem dX8_tellsAlike_20 : decode cX8_tellsAlike 20 = .ok (.iload_n 1, 1) := by decide +kernel
theorem dX8_tellsAlike_21 : decode cX8_tellsAlike 21 = .ok (.iaload, 1) := by decide +kernel
theorem dX8_tellsAlike_22 : decode cX8_tellsAlike 22 = .ok (.iload 4, 2) := by decide +kernel
theorem dX8_tellsAlike_24 : decode cX8_tellsAlike 24 = .ok (.isub, 1) := by decide +kernel
theorem dX8_tellsAlike_25 : decode cX8_tellsAlike 25 = .ok (.istore 6, 2) := by decide +kernel
theorem dX8_tellsAlike_27 : decode cX8_tellsAlike 27 = .ok (.aload_n 2, 1) := by decide +kernel
theorem dX8_tellsAlike_28 : decode cX8_tellsAlike 28 = .ok (.getfield 27, 3) := by decide +kernel
theorem dX8_tellsAlike_31 : decode cX8_tellsAlike 31 = .ok (.iload_n 3, 1) := by decide +kernel
theorem dX8_tellsAlike_32 : decode cX8_tellsAlike 32 = .ok (.iaload, 1) := by decide +kernel
theorem dX8_tellsAlike_33 : decode cX8_tellsAlike 33 = .ok (.iload 5, 2) := by decide +kernel
theorem dX8_tellsAlike_35 : decode cX8_tellsAlike 35 = .ok (.isub, 1) := by decide +kernel
theorem dX8_tellsAlike_36 : decode cX8_tellsAlike 36 = .ok (.iload 6, 2) := by decide +kernel
theorem dX8_tellsAlike_38 : decode cX8_tellsAlike 38 = .ok (.if_icmp .eq 5, 3) := by decide +kernel
theorem dX8_tellsAlike_41 : decode cX8_tellsAlike 41 = .ok (.iconst 0, 1) := by decide +kernel
theorem dX8_tellsAlike_42 : decode cX8_tellsAlike 42 = .ok (.ireturn, 1) := by decide +kernel
theorem dX8_tellsAlike_43 : decode cX8_tellsAlike 43 = .ok (.iconst 0, 1) := by decide +kernel
theorem dX8_tellsAlike_44 : decode cX8_tellsAlike 44 = .ok (.istore 7, 2) := by decide +kernel
theorem dX8_tellsAlike_46 : decode cX8_tellsAlike 46 = .ok (.iload 7, 2) := by decide +kernel
theorem dX8_tellsAlike_48 : decode cX8_tellsAlike 48 = .ok (.iload 6, 2) := by decide +kernel
theorem dX8_tellsAlike_50 : decode cX8_tellsAlike 50 = .ok (.if_icmp .ge 34, 3) := by decide +kernel
theorem dX8_tellsAlike_53 : decode cX8_tellsAlike 53 = .ok (.aload_n 0, 1) := by decide +kernel
theorem dX8_tellsAlike_54 : decode cX8_tellsAlike 54 = .ok (.getfield 9, 3) := by decide +kernel
theorem dX8_tellsAlike_57 : decode cX8_tellsAlike 57 = .ok (.iload 4, 2) := by decide +kernel
theorem dX8_tellsAlike_59 : decode cX8_tellsAlike 59 = .ok (.iload 7, 2) := by decide +kernel
theorem dX8_tellsAlike_61 : decode cX8_tellsAlike 61 = .ok (.iadd, 1) := by decide +kernel
theorem dX8_tellsAlike_62 : decode cX8_tellsAlike 62 = .ok (.iaload, 1) := by decide +kernel
theorem dX8_tellsAlike_63 : decode cX8_tellsAlike 63 = .ok (.aload_n 2, 1) := by decide +kernel
theorem dX8_tellsAlike_64 : decode cX8_tellsAlike 64 = .ok (.getfield 9, 3) := by decide +kernel
theorem dX8_tellsAlike_67 : decode cX8_tellsAlike 67 = .ok (.iload 5, 2) := by decide +kernel
theorem dX8_tellsAlike_69 : decode cX8_tellsAlike 69 = .ok (.iload 7, 2) := by decide +kernel
theorem dX8_tellsAlike_71 : decode cX8_tellsAlike 71 = .ok (.iadd, 1) := by decide +kernel
theorem dX8_tellsAlike_72 : decode cX8_tellsAlike 72 = .ok (.iaload, 1) := by decide +kernel
theorem dX8_tellsAlike_73 : decode cX8_tellsAlike 73 = .ok (.if_icmp .eq 5, 3) := by decide +kernel
theorem dX8_tellsAlike_76 : decode cX8_tellsAlike 76 = .ok (.iconst 0, 1) := by decide +kernel
theorem dX8_tellsAlike_77 : decode cX8_tellsAlike 77 = .ok (.ireturn, 1) := by decide +kernel
theorem dX8_tellsAlike_78 : decode cX8_tellsAlike 78 = .ok (.iinc 7 1, 3) := by decide +kernel
theorem dX8_tellsAlike_81 : decode cX8_tellsAlike 81 = .ok (.goto (-35), 3) := by decide +kernel
theorem dX8_tellsAlike_84 : decode cX8_tellsAlike 84 = .ok (.iconst 1, 1) := by decide +kernel
theorem dX8_tellsAlike_85 : decode cX8_tellsAlike 85 = .ok (.ireturn, 1) := by decide +kernel
theorem dX8_findFault_0 : decode cX8_findFault 0 = .ok (.iconst 0, 1) := by decide +kernel
theorem dX8_findFault_1 : decode cX8_findFault 1 = .ok (.istore_n 1, 1) := by decide +kernel
theorem dX8_findFault_2 : decode cX8_findFault 2 = .ok (.iconst 0, 1) := by decide +kernel
theorem dX8_findFault_3 : decode cX8_findFault 3 = .ok (.istore_n 2, 1) := by decide +kernel
theorem dX8_findFault_4 : decode cX8_findFault 4 = .ok (.iload_n 2, 1) := by decide +kernel
theorem dX8_findFault_5 : decode cX8_findFault 5 = .ok (.aload_n 0, 1) := by decide +kernel
theorem dX8_findFault_6 : decode cX8_findFault 6 = .ok (.getfield 30, 3) := by decide +kernel
theorem dX8_findFault_9 : decode cX8_findFault 9 = .ok (.if_icmp .ge 27, 3) := by decide +kernel
theorem dX8_findFault_12 : decode cX8_findFault 12 = .ok (.iload_n 1, 1) := by decide +kernel
theorem dX8_findFault_13 : decode cX8_findFault 13 = .ok (.aload_n 0, 1) := by decide +kernel
theorem dX8_findFault_14 : decode cX8_findFault 14 = .ok (.getfield 9, 3) := by decide +kernel
theorem dX8_findFault_17 : decode cX8_findFault 17 = .ok (.iload_n 2, 1) := by decide +kernel
theorem dX8_findFault_18 : decode cX8_findFault 18 = .ok (.iaload, 1) := by decide +kernel
theorem dX8_findFault_19 : decode cX8_findFault 19 = .ok (.invokestatic 57, 3) := by decide +kernel
theorem dX8_findFault_22 : decode cX8_findFault 22 = .ok (.istore_n 1, 1) := by decide +kernel
theorem dX8_findFault_23 : decode cX8_findFault 23 = .ok (.iload_n 1, 1) := by decide +kernel
theorem dX8_findFault_24 : decode cX8_findFault 24 = .ok (.iconst (-1), 1) := by decide +kernel
theorem dX8_findFault_25 : decode cX8_findFault 25 = .ok (.if_icmp .ne 5, 3) := by decide +kernel
theorem dX8_findFault_28 : decode cX8_findFault 28 = .ok (.iload_n 2, 1) := by decide +kernel
theorem dX8_findFault_29 : decode cX8_findFault 29 = .ok (.ireturn, 1) := by decide +kernel
theorem dX8_findFault_30 : decode cX8_findFault 30 = .ok (.iinc 2 1, 3) := by decide +kernel
theorem dX8_findFault_33 : decode cX8_findFault 33 = .ok (.goto (-29), 3) := by decide +kernel
theorem dX8_findFault_36 : decode cX8_findFault 36 = .ok (.aload_n 0, 1) := by decide +kernel
theorem dX8_findFault_37 : decode cX8_findFault 37 = .ok (.getfield 30, 3) := by decide +kernel
theorem dX8_findFault_40 : decode cX8_findFault 40 = .ok (.ifCond .eq 9, 3) := by decide +kernel
theorem dX8_findFault_43 : decode cX8_findFault 43 = .ok (.iload_n 1, 1) := by decide +kernel
theorem dX8_findFault_44 : decode cX8_findFault 44 = .ok (.bipush 7, 2) := by decide +kernel
theorem dX8_findFault_46 : decode cX8_findFault 46 = .ok (.if_icmp .ne 7, 3) := by decide +kernel
theorem dX8_findFault_49 : decode cX8_findFault 49 = .ok (.iconst (-1), 1) := by decide +kernel
theorem dX8_findFault_50 : decode cX8_findFault 50 = .ok (.goto 7, 3) := by decide +kernel
theorem dX8_findFault_53 : decode cX8_findFault 53 = .ok (.aload_n 0, 1) := by decide +kernel
theorem dX8_findFault_54 : decode cX8_findFault 54 = .ok (.getfield 30, 3) := by decide +kernel
