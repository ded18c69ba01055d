theorem dX0_init_0 : decode cX0_init 0 = .ok (.aload_n 0, 1) := by decide +kernel
theorem dX0_init_1 : decode cX0_init 1 = .ok (.invokespecial 3, 3) := by decide +kernel
theorem dX0_init_4 : decode cX0_init 4 = .ok (.return_, 1) := by decide +kernel
theorem dX0_renew_0 : decode cX0_renew 0 = .ok (.aload_n 0, 1) := by decide +kernel
theorem dX0_renew_1 : decode cX0_renew 1 = .ok (.iload_n 1, 1) := by decide +kernel
theorem dX0_renew_2 : decode cX0_renew 2 = .ok (.putfield 9, 3) := by decide +kernel
theorem dX0_renew_5 : decode cX0_renew 5 = .ok (.aload_n 0, 1) := by decide +kernel
theorem dX0_renew_6 : decode cX0_renew 6 = .ok (.bipush 10, 2) := by decide +kernel
theorem dX0_renew_8 : decode cX0_renew 8 = .ok (.putfield 15, 3) := by decide +kernel
theorem dX0_renew_11 : decode cX0_renew 11 = .ok (.aload_n 0, 1) := by decide +kernel
theorem dX0_renew_12 : decode cX0_renew 12 = .ok (.bipush 10, 2) := by decide +kernel
theorem dX0_renew_14 : decode cX0_renew 14 = .ok (.putfield 18, 3) := by decide +kernel
theorem dX0_renew_17 : decode cX0_renew 17 = .ok (.aload_n 0, 1) := by decide +kernel
theorem dX0_renew_18 : decode cX0_renew 18 = .ok (.iconst 0, 1) := by decide +kernel
theorem dX0_renew_19 : decode cX0_renew 19 = .ok (.putfield 21, 3) := by decide +kernel
theorem dX0_renew_22 : decode cX0_renew 22 = .ok (.aload_n 0, 1) := by decide +kernel
theorem dX0_renew_23 : decode cX0_renew 23 = .ok (.iconst 0, 1) := by decide +kernel
theorem dX0_renew_24 : decode cX0_renew 24 = .ok (.putfield 24, 3) := by decide +kernel
theorem dX0_renew_27 : decode cX0_renew 27 = .ok (.aload_n 0, 1) := by decide +kernel
theorem dX0_renew_28 : decode cX0_renew 28 = .ok (.iconst 0, 1) := by decide +kernel
theorem dX0_renew_29 : decode cX0_renew 29 = .ok (.putfield 27, 3) := by decide +kernel
theorem dX0_renew_32 : decode cX0_renew 32 = .ok (.return_, 1) := by decide +kernel
theorem dX0_take_0 : decode cX0_take 0 = .ok (.aload_n 0, 1) := by decide +kernel
theorem dX0_take_1 : decode cX0_take 1 = .ok (.aload_n 1, 1) := by decide +kernel
theorem dX0_take_2 : decode cX0_take 2 = .ok (.getfield 9, 3) := by decide +kernel
theorem dX0_take_5 : decode cX0_take 5 = .ok (.putfield 9, 3) := by decide +kernel
theorem dX0_take_8 : decode cX0_take 8 = .ok (.aload_n 0, 1) := by decide +kernel
theorem dX0_take_9 : decode cX0_take 9 = .ok (.aload_n 1, 1) := by decide +kernel
theorem dX0_take_10 : decode cX0_take 10 = .ok (.getfield 15, 3) := by decide +kernel
theorem dX0_take_13 : decode cX0_take 13 = .ok (.putfield 15, 3) := by decide +kernel
theorem dX0_take_16 : decode cX0_take 16 = .ok (.aload_n 0, 1) := by decide +kernel
theorem dX0_take_17 : decode cX0_take 17 = .ok (.aload_n 1, 1) := by decide +kernel
theorem dX0_take_18 : decode cX0_take 18 = .ok (.getfield 18, 3) := by decide +kernel
theorem dX0_take_21 : decode cX0_take 21 = .ok (.putfield 18, 3) := by decide +kernel
theorem dX0_take_24 : decode cX0_take 24 = .ok (.aload_n 0, 1) := by decide +kernel
theorem dX0_take_25 : decode cX0_take 25 = .ok (.aload_n 1, 1) := by decide +kernel
theorem dX0_take_26 : decode cX0_take 26 = .ok (.getfield 21, 3) := by decide +kernel
theorem dX0_take_29 : decode cX0_take 29 = .ok (.putfield 21, 3) := by decide +kernel
theorem dX0_take_32 : decode cX0_take 32 = .ok (.aload_n 0, 1) := by decide +kernel
theorem dX0_take_33 : decode cX0_take 33 = .ok (.aload_n 1, 1) := by decide +kernel
theorem dX0_take_34 : decode cX0_take 34 = .ok (.getfield 24, 3) := by decide +kernel
theorem dX0_take_37 : decode cX0_take 37 = .ok (.putfield 24, 3) := by decide +kernel
theorem dX0_take_40 : decode cX0_take 40 = .ok (.aload_n 0, 1) := by decide +kernel
theorem dX0_take_41 : decode cX0_take 41 = .ok (.aload_n 1, 1) := by decide +kernel
theorem dX0_take_42 : decode cX0_take 42 = .ok (.getfield 27, 3) := by decide +kernel
theorem dX0_take_45 : decode cX0_take 45 = .ok (.putfield 27, 3) := by decide +kernel
theorem dX0_take_48 : decode cX0_take 48 = .ok (.return_, 1) := by decide +kernel
theorem dX0_put_0 : decode cX0_put 0 = .ok (.iload_n 1, 1) := by decide +kernel
theorem dX0_put_1 : decode cX0_put 1 = .ok (.tableswitch 87 0 5 #[39, 47, 55, 63, 71, 79], 39) := by decide +kernel
theorem dX0_put_40 : decode cX0_put 40 = .ok (.aload_n 0, 1) := by decide +kernel
theorem dX0_put_41 : decode cX0_put 41 = .ok (.iload_n 2, 1) := by decide +kernel
theorem dX0_put_42 : decode cX0_put 42 = .ok (.putfield 9, 3) := by decide +kernel
theorem dX0_put_45 : decode cX0_put 45 = .ok (.goto 43, 3) := by decide +kernel
theorem dX0_put_48 : decode cX0_put 48 = .ok (.aload_n 0, 1) := by decide +kernel
theorem dX0_put_49 : decode cX0_put 49 = .ok (.iload_n 2, 1) := by decide +kernel
theorem dX0_put_50 : decode cX0_put 50 = .ok (.putfield 15, 3) := by decide +kernel
theorem dX0_put_53 : decode cX0_put 53 = .ok (.goto 35, 3) := by decide +kernel
theorem dX0_put_56 : decode cX0_put 56 = .ok (.aload_n 0, 1) := by decide +kernel
theorem dX0_put_57 : decode cX0_put 57 = .ok (.iload_n 2, 1) := by decide +kernel
theorem dX0_put_58 : decode cX0_put 58 = .ok (.putfield 18, 3) := by decide +kernel
theorem dX0_put_61 : decode cX0_put 61 = .ok (.goto 27, 3) := by decide +kernel
theorem dX0_put_64 : decode cX0_put 64 = .ok (.aload_n 0, 1) := by decide +kernel
theorem dX0_put_65 : decode cX0_put 65 = .ok (.iload_n 2, 1) := by decide +kernel
theorem dX0_put_66 : decode cX0_put 66 = .ok (.putfield 21, 3) := by decide +kernel
theorem dX0_put_69 : decode cX0_put 69 = .ok (.goto 19, 3) := by decide +kernel
theorem dX0_put_72 : decode cX0_put 72 = .ok (.aload_n 0, 1) := by decide +kernel
theorem dX0_put_73 : decode cX0_put 73 = .ok (.iload_n 2, 1) := by decide +kernel
theorem dX0_put_74 : decode cX0_put 74 = .ok (.putfield 24, 3) := by decide +kernel
theorem dX0_put_77 : decode cX0_put 77 = .ok (.goto 11, 3) := by decide +kernel
theorem dX0_put_80 : decode cX0_put 80 = .ok (.aload_n 0, 1) := by decide +kernel
theorem dX0_put_81 : decode cX0_put 81 = .ok (.iload_n 2, 1) := by decide +kernel
theorem dX0_put_82 : decode cX0_put 82 = .ok (.putfield 27, 3) := by decide +kernel
theorem dX0_put_85 : decode cX0_put 85 = .ok (.goto 3, 3) := by decide +kernel
theorem dX0_put_88 : decode cX0_put 88 = .ok (.return_, 1) := by decide +kernel
theorem dX0_isCooking_0 : decode cX0_isCooking 0 = .ok (.aload_n 0, 1) := by decide +kernel
theorem dX0_isCooking_1 : decode cX0_isCooking 1 = .ok (.getfield 24, 3) := by decide +kernel
theorem dX0_isCooking_4 : decode cX0_isCooking 4 = .ok (.ifCond .ne 14, 3) := by decide +kernel
theorem dX0_isCooking_7 : decode cX0_isCooking 7 = .ok (.aload_n 0, 1) := by decide +kernel
theorem dX0_isCooking_8 : decode cX0_isCooking 8 = .ok (.getfield 21, 3) := by decide +kernel
theorem dX0_isCooking_11 : decode cX0_isCooking 11 = .ok (.ifCond .ne 7, 3) := by decide +kernel
theorem dX0_isCooking_14 : decode cX0_isCooking 14 = .ok (.iconst 1, 1) := by decide +kernel
theorem dX0_isCooking_15 : decode cX0_isCooking 15 = .ok (.goto 4, 3) := by decide +kernel
theorem dX0_isCooking_18 : decode cX0_isCooking 18 = .ok (.iconst 0, 1) := by decide +kernel
theorem dX0_isCooking_19 : decode cX0_isCooking 19 = .ok (.ireturn, 1) := by decide +kernel
theorem dX0_needs_0 : decode cX0_needs 0 = .ok (.bipush 10, 2) := by decide +kernel
theorem dX0_needs_2 : decode cX0_needs 2 = .ok (.istore_n 2, 1) := by decide +kernel
theorem dX0_needs_3 : decode cX0_needs 3 = .ok (.iload_n 2, 1) := by decide +kernel
theorem dX0_needs_4 : decode cX0_needs 4 = .ok (.bipush 20, 2) := by decide +kernel
theorem dX0_needs_6 : decode cX0_needs 6 = .ok (.iadd, 1) := by decide +kernel
theorem dX0_needs_7 : decode cX0_needs 7 = .ok (.istore_n 3, 1) := by decide +kernel
theorem dX0_needs_8 : decode cX0_needs 8 = .ok (.aload_n 0, 1) := by decide +kernel
theorem dX0_needs_9 : decode cX0_needs 9 = .ok (.getfield 15, 3) := by decide +kernel
theorem dX0_needs_12 : decode cX0_needs 12 = .ok (.iconst 4, 1) := by decide +kernel
theorem dX0_needs_13 : decode cX0_needs 13 = .ok (.idiv, 1) := by decide +kernel
theorem dX0_needs_14 : decode cX0_needs 14 = .ok (.istore 4, 2) := by decide +kernel
theorem dX0_needs_16 : decode cX0_needs 16 = .ok (.aload_n 0, 1) := by decide +kernel
theorem dX0_needs_17 : decode cX0_needs 17 = .ok (.getfield 9, 3) := by decide +kernel
theorem dX0_needs_20 : decode cX0_needs 20 = .ok (.tableswitch 61 0 6 #[44, 46, 61, 52, 55, 61, 48], 44) := by decide +kernel
theorem dX0_needs_64 : decode cX0_needs 64 = .ok (.iload_n 2, 1) := by decide +kernel
theorem dX0_needs_65 : decode cX0_needs 65 = .ok (.ireturn, 1) := by decide +kernel
theorem dX0_needs_66 : decode cX0_needs 66 = .ok (.iload_n 3, 1) := by decide +kernel
theorem dX0_needs_67 : decode cX0_needs 67 = .ok (.ireturn, 1) := by decide +kernel
theorem dX0_needs_68 : decode cX0_needs 68 = .ok (.iload_n 3, 1) := by decide +kernel
theorem dX0_needs_69 : decode cX0_needs 69 = .ok (.iload_n 1, 1) := by decide +kernel
theorem dX0_needs_70 : decode cX0_needs 70 = .ok (.iadd, 1) := by decide +kernel
theorem dX0_needs_71 : decode cX0_needs 71 = .ok (.ireturn, 1) := by decide +kernel
theorem dX0_needs_72 : decode cX0_needs 72 = .ok (.iload 4, 2) := by decide +kernel
theorem dX0_needs_74 : decode cX0_needs 74 = .ok (.ireturn, 1) := by decide +kernel
theorem dX0_needs_75 : decode cX0_needs 75 = .ok (.iload 4, 2) := by decide +kernel
theorem dX0_needs_77 : decode cX0_needs 77 = .ok (.bipush 25, 2) := by decide +kernel
theorem dX0_needs_79 : decode cX0_needs 79 = .ok (.iadd, 1) := by decide +kernel
theorem dX0_needs_80 : decode cX0_needs 80 = .ok (.ireturn, 1) := by decide +kernel
theorem dX0_needs_81 : decode cX0_needs 81 = .ok (.iconst 0, 1) := by decide +kernel
theorem dX0_needs_82 : decode cX0_needs 82 = .ok (.ireturn, 1) := by decide +kernel
theorem dX0_thickens_0 : decode cX0_thickens 0 = .ok (.iload_n 1, 1) := by decide +kernel
theorem dX0_thickens_1 : decode cX0_thickens 1 = .ok (.bipush 10, 2) := by decide +kernel
theorem dX0_thickens_3 : decode cX0_thickens 3 = .ok (.idiv, 1) := by decide +kernel
theorem dX0_thickens_4 : decode cX0_thickens 4 = .ok (.istore 4, 2) := by decide +kernel
theorem dX0_thickens_6 : decode cX0_thickens 6 = .ok (.iload 4, 2) := by decide +kernel
theorem dX0_thickens_8 : decode cX0_thickens 8 = .ok (.iconst 1, 1) := by decide +kernel
theorem dX0_thickens_9 : decode cX0_thickens 9 = .ok (.iadd, 1) := by decide +kernel
theorem dX0_thickens_10 : decode cX0_thickens 10 = .ok (.istore 5, 2) := by decide +kernel
theorem dX0_thickens_12 : decode cX0_thickens 12 = .ok (.iload 4, 2) := by decide +kernel
theorem dX0_thickens_14 : decode cX0_thickens 14 = .ok (.iconst 2, 1) := by decide +kernel
theorem dX0_thickens_15 : decode cX0_thickens 15 = .ok (.idiv, 1) := by decide +kernel
theorem dX0_thickens_16 : decode cX0_thickens 16 = .ok (.istore 6, 2) := by decide +kernel
theorem dX0_thickens_18 : decode cX0_thickens 18 = .ok (.iload 6, 2) := by decide +kernel
theorem dX0_thickens_20 : decode cX0_thickens 20 = .ok (.iload_n 2, 1) := by decide +kernel
theorem dX0_thickens_21 : decode cX0_thickens 21 = .ok (.iadd, 1) := by decide +kernel
theorem dX0_thickens_22 : decode cX0_thickens 22 = .ok (.istore 7, 2) := by decide +kernel
theorem dX0_thickens_24 : decode cX0_thickens 24 = .ok (.aload_n 0, 1) := by decide +kernel
theorem dX0_thickens_25 : decode cX0_thickens 25 = .ok (.getfield 9, 3) := by decide +kernel
theorem dX0_thickens_28 : decode cX0_thickens 28 = .ok (.tableswitch 77 0 6 #[44, 47, 55, 58, 61, 77, 50], 44) := by decide +kernel
theorem dX0_thickens_72 : decode cX0_thickens 72 = .ok (.iload 4, 2) := by decide +kernel
theorem dX0_thickens_74 : decode cX0_thickens 74 = .ok (.ireturn, 1) := by decide +kernel
theorem dX0_thickens_75 : decode cX0_thickens 75 = .ok (.iload 5, 2) := by decide +kernel
theorem dX0_thickens_77 : decode cX0_thickens 77 = .ok (.ireturn, 1) := by decide +kernel
theorem dX0_thickens_78 : decode cX0_thickens 78 = .ok (.iconst 2, 1) := by decide +kernel
theorem dX0_thickens_79 : decode cX0_thickens 79 = .ok (.iload 5, 2) := by decide +kernel
theorem dX0_thickens_81 : decode cX0_thickens 81 = .ok (.imul, 1) := by decide +kernel
theorem dX0_thickens_82 : decode cX0_thickens 82 = .ok (.ireturn, 1) := by decide +kernel
theorem dX0_thickens_83 : decode cX0_thickens 83 = .ok (.iload 6, 2) := by decide +kernel
theorem dX0_thickens_85 : decode cX0_thickens 85 = .ok (.ireturn, 1) := by decide +kernel
theorem dX0_thickens_86 : decode cX0_thickens 86 = .ok (.iload 7, 2) := by decide +kernel
theorem dX0_thickens_88 : decode cX0_thickens 88 = .ok (.ireturn, 1) := by decide +kernel
theorem dX0_thickens_89 : decode cX0_thickens 89 = .ok (.iload_n 3, 1) := by decide +kernel
theorem dX0_thickens_90 : decode cX0_thickens 90 = .ok (.iconst 1, 1) := by decide +kernel
theorem dX0_thickens_91 : decode cX0_thickens 91 = .ok (.if_icmp .ne 11, 3) := by decide +kernel
theorem dX0_thickens_94 : decode cX0_thickens 94 = .ok (.iload 7, 2) := by decide +kernel
theorem dX0_thickens_96 : decode cX0_thickens 96 = .ok (.bipush 10, 2) := by decide +kernel
theorem dX0_thickens_98 : decode cX0_thickens 98 = .ok (.iadd, 1) := by decide +kernel
theorem dX0_thickens_99 : decode cX0_thickens 99 = .ok (.goto 5, 3) := by decide +kernel
theorem dX0_thickens_102 : decode cX0_thickens 102 = .ok (.iload 7, 2) := by decide +kernel
theorem dX0_thickens_104 : decode cX0_thickens 104 = .ok (.ireturn, 1) := by decide +kernel
theorem dX0_thickens_105 : decode cX0_thickens 105 = .ok (.iconst 0, 1) := by decide +kernel
theorem dX0_thickens_106 : decode cX0_thickens 106 = .ok (.ireturn, 1) := by decide +kernel
theorem dX0_salts_0 : decode cX0_salts 0 = .ok (.iload_n 1, 1) := by decide +kernel
theorem dX0_salts_1 : decode cX0_salts 1 = .ok (.iconst 2, 1) := by decide +kernel
theorem dX0_salts_2 : decode cX0_salts 2 = .ok (.if_icmp .ne 7, 3) := by decide +kernel
theorem dX0_salts_5 : decode cX0_salts 5 = .ok (.iconst 5, 1) := by decide +kernel
theorem dX0_salts_6 : decode cX0_salts 6 = .ok (.goto 4, 3) := by decide +kernel
theorem dX0_salts_9 : decode cX0_salts 9 = .ok (.iconst 0, 1) := by decide +kernel
theorem dX0_salts_10 : decode cX0_salts 10 = .ok (.istore_n 2, 1) := by decide +kernel
theorem dX0_salts_11 : decode cX0_salts 11 = .ok (.iload_n 2, 1) := by decide +kernel
theorem dX0_salts_12 : decode cX0_salts 12 = .ok (.iconst 1, 1) := by decide +kernel
theorem dX0_salts_13 : decode cX0_salts 13 = .ok (.iadd, 1) := by decide +kernel
theorem dX0_salts_14 : decode cX0_salts 14 = .ok (.istore_n 3, 1) := by decide +kernel
theorem dX0_salts_15 : decode cX0_salts 15 = .ok (.aload_n 0, 1) := by decide +kernel
theorem dX0_salts_16 : decode cX0_salts 16 = .ok (.getfield 9, 3) := by decide +kernel
theorem dX0_salts_19 : decode cX0_salts 19 = .ok (.tableswitch 65 0 5 #[37, 39, 41, 43, 47, 51], 37) := by decide +kernel
theorem dX0_salts_56 : decode cX0_salts 56 = .ok (.iload_n 2, 1) := by decide +kernel
theorem dX0_salts_57 : decode cX0_salts 57 = .ok (.ireturn, 1) := by decide +kernel
theorem dX0_salts_58 : decode cX0_salts 58 = .ok (.iload_n 2, 1) := by decide +kernel
theorem dX0_salts_59 : decode cX0_salts 59 = .ok (.ireturn, 1) := by decide +kernel
theorem dX0_salts_60 : decode cX0_salts 60 = .ok (.iload_n 3, 1) := by decide +kernel
theorem dX0_salts_61 : decode cX0_salts 61 = .ok (.ireturn, 1) := by decide +kernel
theorem dX0_salts_62 : decode cX0_salts 62 = .ok (.iconst 2, 1) := by decide +kernel
theorem dX0_salts_63 : decode cX0_salts 63 = .ok (.iload_n 3, 1) := by decide +kernel
theorem dX0_salts_64 : decode cX0_salts 64 = .ok (.imul, 1) := by decide +kernel
theorem dX0_salts_65 : decode cX0_salts 65 = .ok (.ireturn, 1) := by decide +kernel
theorem dX0_salts_66 : decode cX0_salts 66 = .ok (.iconst 2, 1) := by decide +kernel
theorem dX0_salts_67 : decode cX0_salts 67 = .ok (.iload_n 3, 1) := by decide +kernel
theorem dX0_salts_68 : decode cX0_salts 68 = .ok (.imul, 1) := by decide +kernel
theorem dX0_salts_69 : decode cX0_salts 69 = .ok (.ireturn, 1) := by decide +kernel
theorem dX0_salts_70 : decode cX0_salts 70 = .ok (.iload_n 1, 1) := by decide +kernel
theorem dX0_salts_71 : decode cX0_salts 71 = .ok (.bipush 8, 2) := by decide +kernel
theorem dX0_salts_73 : decode cX0_salts 73 = .ok (.if_icmp .ne 9, 3) := by decide +kernel
theorem dX0_salts_76 : decode cX0_salts 76 = .ok (.iload_n 2, 1) := by decide +kernel
theorem dX0_salts_77 : decode cX0_salts 77 = .ok (.iconst 3, 1) := by decide +kernel
theorem dX0_salts_78 : decode cX0_salts 78 = .ok (.iadd, 1) := by decide +kernel
theorem dX0_salts_79 : decode cX0_salts 79 = .ok (.goto 4, 3) := by decide +kernel
theorem dX0_salts_82 : decode cX0_salts 82 = .ok (.iload_n 2, 1) := by decide +kernel
theorem dX0_salts_83 : decode cX0_salts 83 = .ok (.ireturn, 1) := by decide +kernel
theorem dX0_salts_84 : decode cX0_salts 84 = .ok (.iconst 0, 1) := by decide +kernel
theorem dX0_salts_85 : decode cX0_salts 85 = .ok (.ireturn, 1) := by decide +kernel
theorem dX0_burns_0 : decode cX0_burns 0 = .ok (.bipush 80, 2) := by decide +kernel
theorem dX0_burns_2 : decode cX0_burns 2 = .ok (.istore_n 1, 1) := by decide +kernel
theorem dX0_burns_3 : decode cX0_burns 3 = .ok (.iload_n 1, 1) := by decide +kernel
theorem dX0_burns_4 : decode cX0_burns 4 = .ok (.bipush 19, 2) := by decide +kernel
theorem dX0_burns_6 : decode cX0_burns 6 = .ok (.iadd, 1) := by decide +kernel
theorem dX0_burns_7 : decode cX0_burns 7 = .ok (.istore_n 2, 1) := by decide +kernel
theorem dX0_burns_8 : decode cX0_burns 8 = .ok (.aload_n 0, 1) := by decide +kernel
theorem dX0_burns_9 : decode cX0_burns 9 = .ok (.getfield 9, 3) := by decide +kernel
theorem dX0_burns_12 : decode cX0_burns 12 = .ok (.tableswitch 65 0 6 #[44, 46, 56, 58, 60, 65, 51], 44) := by decide +kernel
theorem dX0_burns_56 : decode cX0_burns 56 = .ok (.iload_n 1, 1) := by decide +kernel
theorem dX0_burns_57 : decode cX0_burns 57 = .ok (.ireturn, 1) := by decide +kernel
theorem dX0_burns_58 : decode cX0_burns 58 = .ok (.iload_n 1, 1) := by decide +kernel
theorem dX0_burns_59 : decode cX0_burns 59 = .ok (.bipush 10, 2) := by decide +kernel
theorem dX0_burns_61 : decode cX0_burns 61 = .ok (.isub, 1) := by decide +kernel
theorem dX0_burns_62 : decode cX0_burns 62 = .ok (.ireturn, 1) := by decide +kernel
theorem dX0_burns_63 : decode cX0_burns 63 = .ok (.iload_n 1, 1) := by decide +kernel
theorem dX0_burns_64 : decode cX0_burns 64 = .ok (.bipush 10, 2) := by decide +kernel
theorem dX0_burns_66 : decode cX0_burns 66 = .ok (.isub, 1) := by decide +kernel
theorem dX0_burns_67 : decode cX0_burns 67 = .ok (.ireturn, 1) := by decide +kernel
theorem dX0_burns_68 : decode cX0_burns 68 = .ok (.iload_n 2, 1) := by decide +kernel
theorem dX0_burns_69 : decode cX0_burns 69 = .ok (.ireturn, 1) := by decide +kernel
theorem dX0_burns_70 : decode cX0_burns 70 = .ok (.iload_n 2, 1) := by decide +kernel
theorem dX0_burns_71 : decode cX0_burns 71 = .ok (.ireturn, 1) := by decide +kernel
theorem dX0_burns_72 : decode cX0_burns 72 = .ok (.iload_n 2, 1) := by decide +kernel
theorem dX0_burns_73 : decode cX0_burns 73 = .ok (.bipush 9, 2) := by decide +kernel
theorem dX0_burns_75 : decode cX0_burns 75 = .ok (.isub, 1) := by decide +kernel
theorem dX0_burns_76 : decode cX0_burns 76 = .ok (.ireturn, 1) := by decide +kernel
theorem dX0_burns_77 : decode cX0_burns 77 = .ok (.bipush 99, 2) := by decide +kernel
theorem dX0_burns_79 : decode cX0_burns 79 = .ok (.ireturn, 1) := by decide +kernel
theorem dX0_gives_0 : decode cX0_gives 0 = .ok (.aload_n 0, 1) := by decide +kernel
theorem dX0_gives_1 : decode cX0_gives 1 = .ok (.getfield 21, 3) := by decide +kernel
theorem dX0_gives_4 : decode cX0_gives 4 = .ok (.iconst 1, 1) := by decide +kernel
theorem dX0_gives_5 : decode cX0_gives 5 = .ok (.if_icmp .ne 5, 3) := by decide +kernel
theorem dX0_gives_8 : decode cX0_gives 8 = .ok (.iconst 0, 1) := by decide +kernel
theorem dX0_gives_9 : decode cX0_gives 9 = .ok (.ireturn, 1) := by decide +kernel
theorem dX0_gives_10 : decode cX0_gives 10 = .ok (.iconst 0, 1) := by decide +kernel
theorem dX0_gives_11 : decode cX0_gives 11 = .ok (.aload_n 0, 1) := by decide +kernel
theorem dX0_gives_12 : decode cX0_gives 12 = .ok (.getfield 15, 3) := by decide +kernel
theorem dX0_gives_15 : decode cX0_gives 15 = .ok (.aload_n 0, 1) := by decide +kernel
theorem dX0_gives_16 : decode cX0_gives 16 = .ok (.getfield 18, 3) := by decide +kernel
theorem dX0_gives_19 : decode cX0_gives 19 = .ok (.bipush 30, 2) := by decide +kernel
theorem dX0_gives_21 : decode cX0_gives 21 = .ok (.isub, 1) := by decide +kernel
theorem dX0_gives_22 : decode cX0_gives 22 = .ok (.invokestatic 30, 3) := by decide +kernel
theorem dX0_gives_25 : decode cX0_gives 25 = .ok (.isub, 1) := by decide +kernel
theorem dX0_gives_26 : decode cX0_gives 26 = .ok (.invokestatic 36, 3) := by decide +kernel
theorem dX0_gives_29 : decode cX0_gives 29 = .ok (.istore_n 2, 1) := by decide +kernel
theorem dX0_gives_30 : decode cX0_gives 30 = .ok (.iload_n 2, 1) := by decide +kernel
theorem dX0_gives_31 : decode cX0_gives 31 = .ok (.iload_n 1, 1) := by decide +kernel
theorem dX0_gives_32 : decode cX0_gives 32 = .ok (.iconst 5, 1) := by decide +kernel
theorem dX0_gives_33 : decode cX0_gives 33 = .ok (.idiv, 1) := by decide +kernel
theorem dX0_gives_34 : decode cX0_gives 34 = .ok (.iadd, 1) := by decide +kernel
theorem dX0_gives_35 : decode cX0_gives 35 = .ok (.istore_n 3, 1) := by decide +kernel
theorem dX0_gives_36 : decode cX0_gives 36 = .ok (.iload_n 2, 1) := by decide +kernel
theorem dX0_gives_37 : decode cX0_gives 37 = .ok (.iconst 2, 1) := by decide +kernel
theorem dX0_gives_38 : decode cX0_gives 38 = .ok (.idiv, 1) := by decide +kernel
theorem dX0_gives_39 : decode cX0_gives 39 = .ok (.istore 4, 2) := by decide +kernel
theorem dX0_gives_41 : decode cX0_gives 41 = .ok (.iload 4, 2) := by decide +kernel
theorem dX0_gives_43 : decode cX0_gives 43 = .ok (.bipush 20, 2) := by decide +kernel
theorem dX0_gives_45 : decode cX0_gives 45 = .ok (.iadd, 1) := by decide +kernel
theorem dX0_gives_46 : decode cX0_gives 46 = .ok (.istore 5, 2) := by decide +kernel
theorem dX0_gives_48 : decode cX0_gives 48 = .ok (.aload_n 0, 1) := by decide +kernel
theorem dX0_gives_49 : decode cX0_gives 49 = .ok (.getfield 9, 3) := by decide +kernel
theorem dX0_gives_52 : decode cX0_gives 52 = .ok (.tableswitch 61 0 6 #[44, 46, 50, 53, 56, 61, 48], 44) := by decide +kernel
theorem dX0_gives_96 : decode cX0_gives 96 = .ok (.iload_n 2, 1) := by decide +kernel
theorem dX0_gives_97 : decode cX0_gives 97 = .ok (.ireturn, 1) := by decide +kernel
theorem dX0_gives_98 : decode cX0_gives 98 = .ok (.iload_n 3, 1) := by decide +kernel
theorem dX0_gives_99 : decode cX0_gives 99 = .ok (.ireturn, 1) := by decide +kernel
theorem dX0_gives_100 : decode cX0_gives 100 = .ok (.iload_n 3, 1) := by decide +kernel
theorem dX0_gives_101 : decode cX0_gives 101 = .ok (.ireturn, 1) := by decide +kernel
theorem dX0_gives_102 : decode cX0_gives 102 = .ok (.iload 4, 2) := by decide +kernel
theorem dX0_gives_104 : decode cX0_gives 104 = .ok (.ireturn, 1) := by decide +kernel
theorem dX0_gives_105 : decode cX0_gives 105 = .ok (.iload 5, 2) := by decide +kernel
theorem dX0_gives_107 : decode cX0_gives 107 = .ok (.ireturn, 1) := by decide +kernel
theorem dX0_gives_108 : decode cX0_gives 108 = .ok (.iconst 2, 1) := by decide +kernel
theorem dX0_gives_109 : decode cX0_gives 109 = .ok (.iload 5, 2) := by decide +kernel
theorem dX0_gives_111 : decode cX0_gives 111 = .ok (.imul, 1) := by decide +kernel
theorem dX0_gives_112 : decode cX0_gives 112 = .ok (.ireturn, 1) := by decide +kernel
theorem dX0_gives_113 : decode cX0_gives 113 = .ok (.bipush 10, 2) := by decide +kernel
theorem dX0_gives_115 : decode cX0_gives 115 = .ok (.ireturn, 1) := by decide +kernel
theorem dX0_cook_0 : decode cX0_cook 0 = .ok (.iload_n 1, 1) := by decide +kernel
theorem dX0_cook_1 : decode cX0_cook 1 = .ok (.aload_n 0, 1) := by decide +kernel
theorem dX0_cook_2 : decode cX0_cook 2 = .ok (.iload_n 2, 1) := by decide +kernel
theorem dX0_cook_3 : decode cX0_cook 3 = .ok (.invokevirtual 40, 3) := by decide +kernel
theorem dX0_cook_6 : decode cX0_cook 6 = .ok (.if_icmp .ge 9, 3) := by decide +kernel
theorem dX0_cook_9 : decode cX0_cook 9 = .ok (.aload_n 0, 1) := by decide +kernel
theorem dX0_cook_10 : decode cX0_cook 10 = .ok (.iconst 1, 1) := by decide +kernel
theorem dX0_cook_11 : decode cX0_cook 11 = .ok (.putfield 21, 3) := by decide +kernel
theorem dX0_cook_14 : decode cX0_cook 14 = .ok (.return_, 1) := by decide +kernel
theorem dX0_cook_15 : decode cX0_cook 15 = .ok (.aload_n 0, 1) := by decide +kernel
theorem dX0_cook_16 : decode cX0_cook 16 = .ok (.bipush 99, 2) := by decide +kernel
theorem dX0_cook_18 : decode cX0_cook 18 = .ok (.aload_n 0, 1) := by decide +kernel
theorem dX0_cook_19 : decode cX0_cook 19 = .ok (.getfield 15, 3) := by decide +kernel
theorem dX0_cook_22 : decode cX0_cook 22 = .ok (.aload_n 0, 1) := by decide +kernel
theorem dX0_cook_23 : decode cX0_cook 23 = .ok (.iload_n 1, 1) := by decide +kernel
theorem dX0_cook_24 : decode cX0_cook 24 = .ok (.iload_n 2, 1) := by decide +kernel
theorem dX0_cook_25 : decode cX0_cook 25 = .ok (.iload_n 3, 1) := by decide +kernel
theorem dX0_cook_26 : decode cX0_cook 26 = .ok (.invokevirtual 43, 3) := by decide +kernel
theorem dX0_cook_29 : decode cX0_cook 29 = .ok (.iadd, 1) := by decide +kernel
theorem dX0_cook_30 : decode cX0_cook 30 = .ok (.invokestatic 47, 3) := by decide +kernel
theorem dX0_cook_33 : decode cX0_cook 33 = .ok (.putfield 15, 3) := by decide +kernel
theorem dX0_cook_36 : decode cX0_cook 36 = .ok (.aload_n 0, 1) := by decide +kernel
theorem dX0_cook_37 : decode cX0_cook 37 = .ok (.bipush 99, 2) := by decide +kernel
theorem dX0_cook_39 : decode cX0_cook 39 = .ok (.aload_n 0, 1) := by decide +kernel
theorem dX0_cook_40 : decode cX0_cook 40 = .ok (.getfield 18, 3) := by decide +kernel
theorem dX0_cook_43 : decode cX0_cook 43 = .ok (.aload_n 0, 1) := by decide +kernel
theorem dX0_cook_44 : decode cX0_cook 44 = .ok (.iload_n 3, 1) := by decide +kernel
theorem dX0_cook_45 : decode cX0_cook 45 = .ok (.invokevirtual 50, 3) := by decide +kernel
theorem dX0_cook_48 : decode cX0_cook 48 = .ok (.iadd, 1) := by decide +kernel
theorem dX0_cook_49 : decode cX0_cook 49 = .ok (.invokestatic 47, 3) := by decide +kernel
theorem dX0_cook_52 : decode cX0_cook 52 = .ok (.putfield 18, 3) := by decide +kernel
theorem dX0_cook_55 : decode cX0_cook 55 = .ok (.aload_n 0, 1) := by decide +kernel
theorem dX0_cook_56 : decode cX0_cook 56 = .ok (.getfield 15, 3) := by decide +kernel
theorem dX0_cook_59 : decode cX0_cook 59 = .ok (.aload_n 0, 1) := by decide +kernel
theorem dX0_cook_60 : decode cX0_cook 60 = .ok (.invokevirtual 53, 3) := by decide +kernel
theorem dX0_cook_63 : decode cX0_cook 63 = .ok (.if_icmp .le 8, 3) := by decide +kernel
theorem dX0_cook_66 : decode cX0_cook 66 = .ok (.aload_n 0, 1) := by decide +kernel
theorem dX0_cook_67 : decode cX0_cook 67 = .ok (.iconst 1, 1) := by decide +kernel
theorem dX0_cook_68 : decode cX0_cook 68 = .ok (.putfield 21, 3) := by decide +kernel
theorem dX0_cook_71 : decode cX0_cook 71 = .ok (.return_, 1) := by decide +kernel
theorem dX0_startAnew_0 : decode cX0_startAnew 0 = .ok (.aload_n 0, 1) := by decide +kernel
theorem dX0_startAnew_1 : decode cX0_startAnew 1 = .ok (.sipush 9999, 3) := by decide +kernel
theorem dX0_startAnew_4 : decode cX0_startAnew 4 = .ok (.aload_n 0, 1) := by decide +kernel
theorem dX0_startAnew_5 : decode cX0_startAnew 5 = .ok (.getfield 27, 3) := by decide +kernel
theorem dX0_startAnew_8 : decode cX0_startAnew 8 = .ok (.iconst 1, 1) := by decide +kernel
theorem dX0_startAnew_9 : decode cX0_startAnew 9 = .ok (.iadd, 1) := by decide +kernel
theorem dX0_startAnew_10 : decode cX0_startAnew 10 = .ok (.invokestatic 47, 3) := by decide +kernel
theorem dX0_startAnew_13 : decode cX0_startAnew 13 = .ok (.putfield 27, 3) := by decide +kernel
theorem dX0_startAnew_16 : decode cX0_startAnew 16 = .ok (.aload_n 0, 1) := by decide +kernel
theorem dX0_startAnew_17 : decode cX0_startAnew 17 = .ok (.bipush 10, 2) := by decide +kernel
theorem dX0_startAnew_19 : decode cX0_startAnew 19 = .ok (.putfield 15, 3) := by decide +kernel
theorem dX0_startAnew_22 : decode cX0_startAnew 22 = .ok (.aload_n 0, 1) := by decide +kernel
theorem dX0_startAnew_23 : decode cX0_startAnew 23 = .ok (.bipush 10, 2) := by decide +kernel
theorem dX0_startAnew_25 : decode cX0_startAnew 25 = .ok (.putfield 18, 3) := by decide +kernel
theorem dX0_startAnew_28 : decode cX0_startAnew 28 = .ok (.aload_n 0, 1) := by decide +kernel
theorem dX0_startAnew_29 : decode cX0_startAnew 29 = .ok (.iconst 0, 1) := by decide +kernel
theorem dX0_startAnew_30 : decode cX0_startAnew 30 = .ok (.putfield 21, 3) := by decide +kernel
theorem dX0_startAnew_33 : decode cX0_startAnew 33 = .ok (.return_, 1) := by decide +kernel
theorem dX1_init_0 : decode cX1_init 0 = .ok (.aload_n 0, 1) := by decide +kernel
theorem dX1_init_1 : decode cX1_init 1 = .ok (.invokespecial 3, 3) := by decide +kernel
theorem dX1_init_4 : decode cX1_init 4 = .ok (.aload_n 0, 1) := by decide +kernel
theorem dX1_init_5 : decode cX1_init 5 = .ok (.bipush 50, 2) := by decide +kernel
theorem dX1_init_7 : decode cX1_init 7 = .ok (.putfield 9, 3) := by decide +kernel
theorem dX1_init_10 : decode cX1_init 10 = .ok (.aload_n 0, 1) := by decide +kernel
theorem dX1_init_11 : decode cX1_init 11 = .ok (.iconst 3, 1) := by decide +kernel
theorem dX1_init_12 : decode cX1_init 12 = .ok (.putfield 15, 3) := by decide +kernel
theorem dX1_init_15 : decode cX1_init 15 = .ok (.aload_n 0, 1) := by decide +kernel
theorem dX1_init_16 : decode cX1_init 16 = .ok (.iconst 0, 1) := by decide +kernel
theorem dX1_init_17 : decode cX1_init 17 = .ok (.putfield 18, 3) := by decide +kernel
theorem dX1_init_20 : decode cX1_init 20 = .ok (.aload_n 0, 1) := by decide +kernel
theorem dX1_init_21 : decode cX1_init 21 = .ok (.iconst 0, 1) := by decide +kernel
theorem dX1_init_22 : decode cX1_init 22 = .ok (.putfield 21, 3) := by decide +kernel
theorem dX1_init_25 : decode cX1_init 25 = .ok (.aload_n 0, 1) := by decide +kernel
theorem dX1_init_26 : decode cX1_init 26 = .ok (.iconst 1, 1) := by decide +kernel
theorem dX1_init_27 : decode cX1_init 27 = .ok (.putfield 24, 3) := by decide +kernel
theorem dX1_init_30 : decode cX1_init 30 = .ok (.aload_n 0, 1) := by decide +kernel
theorem dX1_init_31 : decode cX1_init 31 = .ok (.iconst 0, 1) := by decide +kernel
theorem dX1_init_32 : decode cX1_init 32 = .ok (.putfield 27, 3) := by decide +kernel
theorem dX1_init_35 : decode cX1_init 35 = .ok (.aload_n 0, 1) := by decide +kernel
theorem dX1_init_36 : decode cX1_init 36 = .ok (.bipush 6, 2) := by decide +kernel
theorem dX1_init_38 : decode cX1_init 38 = .ok (.newarray .int, 2) := by decide +kernel
theorem dX1_init_40 : decode cX1_init 40 = .ok (.putfield 30, 3) := by decide +kernel
theorem dX1_init_43 : decode cX1_init 43 = .ok (.aload_n 0, 1) := by decide +kernel
theorem dX1_init_44 : decode cX1_init 44 = .ok (.bipush 10, 2) := by decide +kernel
theorem dX1_init_46 : decode cX1_init 46 = .ok (.newarray .int, 2) := by decide +kernel
theorem dX1_init_48 : decode cX1_init 48 = .ok (.putfield 34, 3) := by decide +kernel
theorem dX1_init_51 : decode cX1_init 51 = .ok (.aload_n 0, 1) := by decide +kernel
theorem dX1_init_52 : decode cX1_init 52 = .ok (.bipush 8, 2) := by decide +kernel
theorem dX1_init_54 : decode cX1_init 54 = .ok (.anewarray 37, 3) := by decide +kernel
theorem dX1_init_57 : decode cX1_init 57 = .ok (.putfield 39, 3) := by decide +kernel
theorem dX1_init_60 : decode cX1_init 60 = .ok (.aload_n 0, 1) := by decide +kernel
theorem dX1_init_61 : decode cX1_init 61 = .ok (.getfield 34, 3) := by decide +kernel
theorem dX1_init_64 : decode cX1_init 64 = .ok (.iconst (-1), 1) := by decide +kernel
theorem dX1_init_65 : decode cX1_init 65 = .ok (.invokestatic 43, 3) := by decide +kernel
theorem dX1_init_68 : decode cX1_init 68 = .ok (.iconst 0, 1) := by decide +kernel
theorem dX1_init_69 : decode cX1_init 69 = .ok (.istore_n 1, 1) := by decide +kernel
theorem dX1_init_70 : decode cX1_init 70 = .ok (.iload_n 1, 1) := by decide +kernel
theorem dX1_init_71 : decode cX1_init 71 = .ok (.bipush 8, 2) := by decide +kernel
theorem dX1_init_73 : decode cX1_init 73 = .ok (.if_icmp .ge 22, 3) := by decide +kernel
theorem dX1_init_76 : decode cX1_init 76 = .ok (.aload_n 0, 1) := by decide +kernel
theorem dX1_init_77 : decode cX1_init 77 = .ok (.getfield 39, 3) := by decide +kernel
theorem dX1_init_80 : decode cX1_init 80 = .ok (.iload_n 1, 1) := by decide +kernel
theorem dX1_init_81 : decode cX1_init 81 = .ok (.new 37, 3) := by decide +kernel
theorem dX1_init_84 : decode cX1_init 84 = .ok (.dup, 1) := by decide +kernel
theorem dX1_init_85 : decode cX1_init 85 = .ok (.invokespecial 49, 3) := by decide +kernel
theorem dX1_init_88 : decode cX1_init 88 = .ok (.aastore, 1) := by decide +kernel
theorem dX1_init_89 : decode cX1_init 89 = .ok (.iinc 1 1, 3) := by decide +kernel
theorem dX1_init_92 : decode cX1_init 92 = .ok (.goto (-22), 3) := by decide +kernel
theorem dX1_init_95 : decode cX1_init 95 = .ok (.return_, 1) := by decide +kernel
theorem dX1_takeAll_0 : decode cX1_takeAll 0 = .ok (.aload_n 0, 1) := by decide +kernel
theorem dX1_takeAll_1 : decode cX1_takeAll 1 = .ok (.aload_n 1, 1) := by decide +kernel
theorem dX1_takeAll_2 : decode cX1_takeAll 2 = .ok (.invokevirtual 50, 3) := by decide +kernel
theorem dX1_takeAll_5 : decode cX1_takeAll 5 = .ok (.aload_n 0, 1) := by decide +kernel
theorem dX1_takeAll_6 : decode cX1_takeAll 6 = .ok (.aload_n 1, 1) := by decide +kernel
theorem dX1_takeAll_7 : decode cX1_takeAll 7 = .ok (.getfield 18, 3) := by decide +kernel
theorem dX1_takeAll_10 : decode cX1_takeAll 10 = .ok (.putfield 18, 3) := by decide +kernel
theorem dX1_takeAll_13 : decode cX1_takeAll 13 = .ok (.aload_n 0, 1) := by decide +kernel
theorem dX1_takeAll_14 : decode cX1_takeAll 14 = .ok (.aload_n 1, 1) := by decide +kernel
theorem dX1_takeAll_15 : decode cX1_takeAll 15 = .ok (.getfield 24, 3) := by decide +kernel
theorem dX1_takeAll_18 : decode cX1_takeAll 18 = .ok (.putfield 24, 3) := by decide +kernel
theorem dX1_takeAll_21 : decode cX1_takeAll 21 = .ok (.aload_n 1, 1) := by decide +kernel
theorem dX1_takeAll_22 : decode cX1_takeAll 22 = .ok (.getfield 34, 3) := by decide +kernel
theorem dX1_takeAll_25 : decode cX1_takeAll 25 = .ok (.iconst 0, 1) := by decide +kernel
theorem dX1_takeAll_26 : decode cX1_takeAll 26 = .ok (.aload_n 0, 1) := by decide +kernel
theorem dX1_takeAll_27 : decode cX1_takeAll 27 = .ok (.getfield 34, 3) := by decide +kernel
theorem dX1_takeAll_30 : decode cX1_takeAll 30 = .ok (.iconst 0, 1) := by decide +kernel
theorem dX1_takeAll_31 : decode cX1_takeAll 31 = .ok (.bipush 10, 2) := by decide +kernel
theorem dX1_takeAll_33 : decode cX1_takeAll 33 = .ok (.invokestatic 54, 3) := by decide +kernel
theorem dX1_takeAll_36 : decode cX1_takeAll 36 = .ok (.aload_n 0, 1) := by decide +kernel
theorem dX1_takeAll_37 : decode cX1_takeAll 37 = .ok (.aload_n 1, 1) := by decide +kernel
theorem dX1_takeAll_38 : decode cX1_takeAll 38 = .ok (.getfield 27, 3) := by decide +kernel
theorem dX1_takeAll_41 : decode cX1_takeAll 41 = .ok (.putfield 27, 3) := by decide +kernel
theorem dX1_takeAll_44 : decode cX1_takeAll 44 = .ok (.iconst 0, 1) := by decide +kernel
theorem dX1_takeAll_45 : decode cX1_takeAll 45 = .ok (.istore_n 2, 1) := by decide +kernel
theorem dX1_takeAll_46 : decode cX1_takeAll 46 = .ok (.iload_n 2, 1) := by decide +kernel
theorem dX1_takeAll_47 : decode cX1_takeAll 47 = .ok (.aload_n 0, 1) := by decide +kernel
theorem dX1_takeAll_48 : decode cX1_takeAll 48 = .ok (.getfield 27, 3) := by decide +kernel
theorem dX1_takeAll_51 : decode cX1_takeAll 51 = .ok (.if_icmp .ge 24, 3) := by decide +kernel
theorem dX1_takeAll_54 : decode cX1_takeAll 54 = .ok (.aload_n 0, 1) := by decide +kernel
theorem dX1_takeAll_55 : decode cX1_takeAll 55 = .ok (.getfield 39, 3) := by decide +kernel
theorem dX1_takeAll_58 : decode cX1_takeAll 58 = .ok (.iload_n 2, 1) := by decide +kernel
theorem dX1_takeAll_59 : decode cX1_takeAll 59 = .ok (.aaload, 1) := by decide +kernel
theorem dX1_takeAll_60 : decode cX1_takeAll 60 = .ok (.aload_n 1, 1) := by decide +kernel
theorem dX1_takeAll_61 : decode cX1_takeAll 61 = .ok (.getfield 39, 3) := by decide +kernel
theorem dX1_takeAll_64 : decode cX1_takeAll 64 = .ok (.iload_n 2, 1) := by decide +kernel
theorem dX1_takeAll_65 : decode cX1_takeAll 65 = .ok (.aaload, 1) := by decide +kernel
theorem dX1_takeAll_66 : decode cX1_takeAll 66 = .ok (.invokevirtual 60, 3) := by decide +kernel
theorem dX1_takeAll_69 : decode cX1_takeAll 69 = .ok (.iinc 2 1, 3) := by decide +kernel
theorem dX1_takeAll_72 : decode cX1_takeAll 72 = .ok (.goto (-26), 3) := by decide +kernel
theorem dX1_takeAll_75 : decode cX1_takeAll 75 = .ok (.return_, 1) := by decide +kernel
theorem dX1_takeMood_0 : decode cX1_takeMood 0 = .ok (.aload_n 0, 1) := by decide +kernel
theorem dX1_takeMood_1 : decode cX1_takeMood 1 = .ok (.aload_n 1, 1) := by decide +kernel
theorem dX1_takeMood_2 : decode cX1_takeMood 2 = .ok (.getfield 9, 3) := by decide +kernel
theorem dX1_takeMood_5 : decode cX1_takeMood 5 = .ok (.putfield 9, 3) := by decide +kernel
theorem dX1_takeMood_8 : decode cX1_takeMood 8 = .ok (.aload_n 0, 1) := by decide +kernel
theorem dX1_takeMood_9 : decode cX1_takeMood 9 = .ok (.aload_n 1, 1) := by decide +kernel
theorem dX1_takeMood_10 : decode cX1_takeMood 10 = .ok (.getfield 15, 3) := by decide +kernel
theorem dX1_takeMood_13 : decode cX1_takeMood 13 = .ok (.putfield 15, 3) := by decide +kernel
theorem dX1_takeMood_16 : decode cX1_takeMood 16 = .ok (.aload_n 0, 1) := by decide +kernel
theorem dX1_takeMood_17 : decode cX1_takeMood 17 = .ok (.aload_n 1, 1) := by decide +kernel
theorem dX1_takeMood_18 : decode cX1_takeMood 18 = .ok (.getfield 21, 3) := by decide +kernel
theorem dX1_takeMood_21 : decode cX1_takeMood 21 = .ok (.putfield 21, 3) := by decide +kernel
theorem dX1_takeMood_24 : decode cX1_takeMood 24 = .ok (.aload_n 1, 1) := by decide +kernel
theorem dX1_takeMood_25 : decode cX1_takeMood 25 = .ok (.getfield 30, 3) := by decide +kernel
theorem dX1_takeMood_28 : decode cX1_takeMood 28 = .ok (.iconst 0, 1) := by decide +kernel
theorem dX1_takeMood_29 : decode cX1_takeMood 29 = .ok (.aload_n 0, 1) := by decide +kernel
theorem dX1_takeMood_30 : decode cX1_takeMood 30 = .ok (.getfield 30, 3) := by decide +kernel
theorem dX1_takeMood_33 : decode cX1_takeMood 33 = .ok (.iconst 0, 1) := by decide +kernel
theorem dX1_takeMood_34 : decode cX1_takeMood 34 = .ok (.bipush 6, 2) := by decide +kernel
theorem dX1_takeMood_36 : decode cX1_takeMood 36 = .ok (.invokestatic 54, 3) := by decide +kernel
theorem dX1_takeMood_39 : decode cX1_takeMood 39 = .ok (.aload_n 0, 1) := by decide +kernel
theorem dX1_takeMood_40 : decode cX1_takeMood 40 = .ok (.iconst 0, 1) := by decide +kernel
theorem dX1_takeMood_41 : decode cX1_takeMood 41 = .ok (.putfield 27, 3) := by decide +kernel
theorem dX1_takeMood_44 : decode cX1_takeMood 44 = .ok (.return_, 1) := by decide +kernel
theorem dX1_takeOne_0 : decode cX1_takeOne 0 = .ok (.aload_n 0, 1) := by decide +kernel
theorem dX1_takeOne_1 : decode cX1_takeOne 1 = .ok (.aload_n 1, 1) := by decide +kernel
theorem dX1_takeOne_2 : decode cX1_takeOne 2 = .ok (.invokevirtual 50, 3) := by decide +kernel
theorem dX1_takeOne_5 : decode cX1_takeOne 5 = .ok (.aload_n 0, 1) := by decide +kernel
theorem dX1_takeOne_6 : decode cX1_takeOne 6 = .ok (.getfield 39, 3) := by decide +kernel
theorem dX1_takeOne_9 : decode cX1_takeOne 9 = .ok (.iconst 0, 1) := by decide +kernel
theorem dX1_takeOne_10 : decode cX1_takeOne 10 = .ok (.aaload, 1) := by decide +kernel
theorem dX1_takeOne_11 : decode cX1_takeOne 11 = .ok (.aload_n 1, 1) := by decide +kernel
theorem dX1_takeOne_12 : decode cX1_takeOne 12 = .ok (.getfield 39, 3) := by decide +kernel
theorem dX1_takeOne_15 : decode cX1_takeOne 15 = .ok (.iload_n 2, 1) := by decide +kernel
theorem dX1_takeOne_16 : decode cX1_takeOne 16 = .ok (.aaload, 1) := by decide +kernel
theorem dX1_takeOne_17 : decode cX1_takeOne 17 = .ok (.invokevirtual 60, 3) := by decide +kernel
theorem dX1_takeOne_20 : decode cX1_takeOne 20 = .ok (.aload_n 0, 1) := by decide +kernel
theorem dX1_takeOne_21 : decode cX1_takeOne 21 = .ok (.iconst 1, 1) := by decide +kernel
theorem dX1_takeOne_22 : decode cX1_takeOne 22 = .ok (.putfield 27, 3) := by decide +kernel
theorem dX1_takeOne_25 : decode cX1_takeOne 25 = .ok (.return_, 1) := by decide +kernel
theorem dX1_addDish_0 : decode cX1_addDish 0 = .ok (.aload_n 0, 1) := by decide +kernel
theorem dX1_addDish_1 : decode cX1_addDish 1 = .ok (.getfield 39, 3) := by decide +kernel
theorem dX1_addDish_4 : decode cX1_addDish 4 = .ok (.aload_n 0, 1) := by decide +kernel
theorem dX1_addDish_5 : decode cX1_addDish 5 = .ok (.getfield 27, 3) := by decide +kernel
theorem dX1_addDish_8 : decode cX1_addDish 8 = .ok (.aaload, 1) := by decide +kernel
theorem dX1_addDish_9 : decode cX1_addDish 9 = .ok (.astore_n 2, 1) := by decide +kernel
theorem dX1_addDish_10 : decode cX1_addDish 10 = .ok (.aload_n 2, 1) := by decide +kernel
theorem dX1_addDish_11 : decode cX1_addDish 11 = .ok (.iload_n 1, 1) := by decide +kernel
theorem dX1_addDish_12 : decode cX1_addDish 12 = .ok (.invokevirtual 64, 3) := by decide +kernel
theorem dX1_addDish_15 : decode cX1_addDish 15 = .ok (.aload_n 0, 1) := by decide +kernel
theorem dX1_addDish_16 : decode cX1_addDish 16 = .ok (.dup, 1) := by decide +kernel
theorem dX1_addDish_17 : decode cX1_addDish 17 = .ok (.getfield 27, 3) := by decide +kernel
theorem dX1_addDish_20 : decode cX1_addDish 20 = .ok (.iconst 1, 1) := by decide +kernel
theorem dX1_addDish_21 : decode cX1_addDish 21 = .ok (.iadd, 1) := by decide +kernel
theorem dX1_addDish_22 : decode cX1_addDish 22 = .ok (.putfield 27, 3) := by decide +kernel
theorem dX1_addDish_25 : decode cX1_addDish 25 = .ok (.aload_n 2, 1) := by decide +kernel
theorem dX1_addDish_26 : decode cX1_addDish 26 = .ok (.areturn, 1) := by decide +kernel
theorem dX1_deedNow_0 : decode cX1_deedNow 0 = .ok (.aload_n 0, 1) := by decide +kernel
theorem dX1_deedNow_1 : decode cX1_deedNow 1 = .ok (.getfield 30, 3) := by decide +kernel
theorem dX1_deedNow_4 : decode cX1_deedNow 4 = .ok (.aload_n 0, 1) := by decide +kernel
theorem dX1_deedNow_5 : decode cX1_deedNow 5 = .ok (.getfield 21, 3) := by decide +kernel
theorem dX1_deedNow_8 : decode cX1_deedNow 8 = .ok (.bipush 6, 2) := by decide +kernel
theorem dX1_deedNow_10 : decode cX1_deedNow 10 = .ok (.irem, 1) := by decide +kernel
theorem dX1_deedNow_11 : decode cX1_deedNow 11 = .ok (.iaload, 1) := by decide +kernel
theorem dX1_deedNow_12 : decode cX1_deedNow 12 = .ok (.ireturn, 1) := by decide +kernel
theorem dX1_passSteps_0 : decode cX1_passSteps 0 = .ok (.iconst 0, 1) := by decide +kernel
theorem dX1_passSteps_1 : decode cX1_passSteps 1 = .ok (.istore_n 2, 1) := by decide +kernel
theorem dX1_passSteps_2 : decode cX1_passSteps 2 = .ok (.iload_n 2, 1) := by decide +kernel
theorem dX1_passSteps_3 : decode cX1_passSteps 3 = .ok (.iload_n 1, 1) := by decide +kernel
theorem dX1_passSteps_4 : decode cX1_passSteps 4 = .ok (.if_icmp .ge 13, 3) := by decide +kernel
theorem dX1_passSteps_7 : decode cX1_passSteps 7 = .ok (.aload_n 0, 1) := by decide +kernel
theorem dX1_passSteps_8 : decode cX1_passSteps 8 = .ok (.invokevirtual 68, 3) := by decide +kernel
theorem dX1_passSteps_11 : decode cX1_passSteps 11 = .ok (.iinc 2 1, 3) := by decide +kernel
theorem dX1_passSteps_14 : decode cX1_passSteps 14 = .ok (.goto (-12), 3) := by decide +kernel
theorem dX1_passSteps_17 : decode cX1_passSteps 17 = .ok (.return_, 1) := by decide +kernel
theorem dX1_passStep_0 : decode cX1_passStep 0 = .ok (.aload_n 0, 1) := by decide +kernel
theorem dX1_passStep_1 : decode cX1_passStep 1 = .ok (.invokevirtual 71, 3) := by decide +kernel
theorem dX1_passStep_4 : decode cX1_passStep 4 = .ok (.istore_n 1, 1) := by decide +kernel
theorem dX1_passStep_5 : decode cX1_passStep 5 = .ok (.aload_n 0, 1) := by decide +kernel
theorem dX1_passStep_6 : decode cX1_passStep 6 = .ok (.aload_n 0, 1) := by decide +kernel
theorem dX1_passStep_7 : decode cX1_passStep 7 = .ok (.getfield 9, 3) := by decide +kernel
theorem dX1_passStep_10 : decode cX1_passStep 10 = .ok (.iload_n 1, 1) := by decide +kernel
theorem dX1_passStep_11 : decode cX1_passStep 11 = .ok (.invokestatic 75, 3) := by decide +kernel
theorem dX1_passStep_14 : decode cX1_passStep 14 = .ok (.putfield 9, 3) := by decide +kernel
theorem dX1_passStep_17 : decode cX1_passStep 17 = .ok (.iconst 0, 1) := by decide +kernel
theorem dX1_passStep_18 : decode cX1_passStep 18 = .ok (.istore_n 2, 1) := by decide +kernel
theorem dX1_passStep_19 : decode cX1_passStep 19 = .ok (.iload_n 2, 1) := by decide +kernel
theorem dX1_passStep_20 : decode cX1_passStep 20 = .ok (.aload_n 0, 1) := by decide +kernel
theorem dX1_passStep_21 : decode cX1_passStep 21 = .ok (.getfield 27, 3) := by decide +kernel
theorem dX1_passStep_24 : decode cX1_passStep 24 = .ok (.if_icmp .ge 39, 3) := by decide +kernel
theorem dX1_passStep_27 : decode cX1_passStep 27 = .ok (.aload_n 0, 1) := by decide +kernel
theorem dX1_passStep_28 : decode cX1_passStep 28 = .ok (.getfield 39, 3) := by decide +kernel
theorem dX1_passStep_31 : decode cX1_passStep 31 = .ok (.iload_n 2, 1) := by decide +kernel
theorem dX1_passStep_32 : decode cX1_passStep 32 = .ok (.aaload, 1) := by decide +kernel
theorem dX1_passStep_33 : decode cX1_passStep 33 = .ok (.invokevirtual 79, 3) := by decide +kernel
theorem dX1_passStep_36 : decode cX1_passStep 36 = .ok (.ifCond .eq 21, 3) := by decide +kernel
theorem dX1_passStep_39 : decode cX1_passStep 39 = .ok (.aload_n 0, 1) := by decide +kernel
theorem dX1_passStep_40 : decode cX1_passStep 40 = .ok (.getfield 39, 3) := by decide +kernel
theorem dX1_passStep_43 : decode cX1_passStep 43 = .ok (.iload_n 2, 1) := by decide +kernel
theorem dX1_passStep_44 : decode cX1_passStep 44 = .ok (.aaload, 1) := by decide +kernel
theorem dX1_passStep_45 : decode cX1_passStep 45 = .ok (.aload_n 0, 1) := by decide +kernel
theorem dX1_passStep_46 : decode cX1_passStep 46 = .ok (.getfield 9, 3) := by decide +kernel
theorem dX1_passStep_49 : decode cX1_passStep 49 = .ok (.aload_n 0, 1) := by decide +kernel
theorem dX1_passStep_50 : decode cX1_passStep 50 = .ok (.getfield 15, 3) := by decide +kernel
theorem dX1_passStep_53 : decode cX1_passStep 53 = .ok (.iload_n 1, 1) := by decide +kernel
theorem dX1_passStep_54 : decode cX1_passStep 54 = .ok (.invokevirtual 83, 3) := by decide +kernel
theorem dX1_passStep_57 : decode cX1_passStep 57 = .ok (.iinc 2 1, 3) := by decide +kernel
theorem dX1_passStep_60 : decode cX1_passStep 60 = .ok (.goto (-41), 3) := by decide +kernel
theorem dX1_passStep_63 : decode cX1_passStep 63 = .ok (.aload_n 0, 1) := by decide +kernel
theorem dX1_passStep_64 : decode cX1_passStep 64 = .ok (.ldc 87, 2) := by decide +kernel
theorem dX1_passStep_66 : decode cX1_passStep 66 = .ok (.aload_n 0, 1) := by decide +kernel
theorem dX1_passStep_67 : decode cX1_passStep 67 = .ok (.getfield 21, 3) := by decide +kernel
theorem dX1_passStep_70 : decode cX1_passStep 70 = .ok (.iconst 1, 1) := by decide +kernel
theorem dX1_passStep_71 : decode cX1_passStep 71 = .ok (.iadd, 1) := by decide +kernel
theorem dX1_passStep_72 : decode cX1_passStep 72 = .ok (.invokestatic 88, 3) := by decide +kernel
theorem dX1_passStep_75 : decode cX1_passStep 75 = .ok (.putfield 21, 3) := by decide +kernel
theorem dX1_passStep_78 : decode cX1_passStep 78 = .ok (.return_, 1) := by decide +kernel
theorem dX1_serviceStep_0 : decode cX1_serviceStep 0 = .ok (.aload_n 0, 1) := by decide +kernel
theorem dX1_serviceStep_1 : decode cX1_serviceStep 1 = .ok (.invokevirtual 93, 3) := by decide +kernel
theorem dX1_serviceStep_4 : decode cX1_serviceStep 4 = .ok (.istore_n 1, 1) := by decide +kernel
theorem dX1_serviceStep_5 : decode cX1_serviceStep 5 = .ok (.aload_n 0, 1) := by decide +kernel
theorem dX1_serviceStep_6 : decode cX1_serviceStep 6 = .ok (.invokevirtual 93, 3) := by decide +kernel
theorem dX1_serviceStep_9 : decode cX1_serviceStep 9 = .ok (.istore_n 2, 1) := by decide +kernel
theorem dX1_serviceStep_10 : decode cX1_serviceStep 10 = .ok (.aload_n 0, 1) := by decide +kernel
theorem dX1_serviceStep_11 : decode cX1_serviceStep 11 = .ok (.getfield 30, 3) := by decide +kernel
theorem dX1_serviceStep_14 : decode cX1_serviceStep 14 = .ok (.aload_n 0, 1) := by decide +kernel
theorem dX1_serviceStep_15 : decode cX1_serviceStep 15 = .ok (.getfield 21, 3) := by decide +kernel
theorem dX1_serviceStep_18 : decode cX1_serviceStep 18 = .ok (.bipush 6, 2) := by decide +kernel
theorem dX1_serviceStep_20 : decode cX1_serviceStep 20 = .ok (.irem, 1) := by decide +kernel
theorem dX1_serviceStep_21 : decode cX1_serviceStep 21 = .ok (.iload_n 1, 1) := by decide +kernel
theorem dX1_serviceStep_22 : decode cX1_serviceStep 22 = .ok (.bipush 12, 2) := by decide +kernel
theorem dX1_serviceStep_24 : decode cX1_serviceStep 24 = .ok (.irem, 1) := by decide +kernel
theorem dX1_serviceStep_25 : decode cX1_serviceStep 25 = .ok (.iastore, 1) := by decide +kernel
theorem dX1_serviceStep_26 : decode cX1_serviceStep 26 = .ok (.aload_n 0, 1) := by decide +kernel
theorem dX1_serviceStep_27 : decode cX1_serviceStep 27 = .ok (.invokevirtual 68, 3) := by decide +kernel
theorem dX1_serviceStep_30 : decode cX1_serviceStep 30 = .ok (.iload_n 2, 1) := by decide +kernel
theorem dX1_serviceStep_31 : decode cX1_serviceStep 31 = .ok (.bipush 8, 2) := by decide +kernel
theorem dX1_serviceStep_33 : decode cX1_serviceStep 33 = .ok (.irem, 1) := by decide +kernel
theorem dX1_serviceStep_34 : decode cX1_serviceStep 34 = .ok (.istore_n 3, 1) := by decide +kernel
theorem dX1_serviceStep_35 : decode cX1_serviceStep 35 = .ok (.iload_n 3, 1) := by decide +kernel
theorem dX1_serviceStep_36 : decode cX1_serviceStep 36 = .ok (.aload_n 0, 1) := by decide +kernel
theorem dX1_serviceStep_37 : decode cX1_serviceStep 37 = .ok (.getfield 27, 3) := by decide +kernel
theorem dX1_serviceStep_40 : decode cX1_serviceStep 40 = .ok (.if_icmp .ge 21, 3) := by decide +kernel
theorem dX1_serviceStep_43 : decode cX1_serviceStep 43 = .ok (.aload_n 0, 1) := by decide +kernel
theorem dX1_serviceStep_44 : decode cX1_serviceStep 44 = .ok (.getfield 39, 3) := by decide +kernel
theorem dX1_serviceStep_47 : decode cX1_serviceStep 47 = .ok (.iload_n 3, 1) := by decide +kernel
theorem dX1_serviceStep_48 : decode cX1_serviceStep 48 = .ok (.aaload, 1) := by decide +kernel
theorem dX1_serviceStep_49 : decode cX1_serviceStep 49 = .ok (.getfield 96, 3) := by decide +kernel
theorem dX1_serviceStep_52 : decode cX1_serviceStep 52 = .ok (.ifCond .ne 9, 3) := by decide +kernel
theorem dX1_serviceStep_55 : decode cX1_serviceStep 55 = .ok (.aload_n 0, 1) := by decide +kernel
theorem dX1_serviceStep_56 : decode cX1_serviceStep 56 = .ok (.iload_n 3, 1) := by decide +kernel
theorem dX1_serviceStep_57 : decode cX1_serviceStep 57 = .ok (.invokevirtual 99, 3) := by decide +kernel
theorem dX1_serviceStep_60 : decode cX1_serviceStep 60 = .ok (.pop, 1) := by decide +kernel
theorem dX1_serviceStep_61 : decode cX1_serviceStep 61 = .ok (.return_, 1) := by decide +kernel
theorem dX1_draw_0 : decode cX1_draw 0 = .ok (.aload_n 0, 1) := by decide +kernel
theorem dX1_draw_1 : decode cX1_draw 1 = .ok (.aload_n 0, 1) := by decide +kernel
theorem dX1_draw_2 : decode cX1_draw 2 = .ok (.getfield 24, 3) := by decide +kernel
theorem dX1_draw_5 : decode cX1_draw 5 = .ok (.ldc 103, 2) := by decide +kernel
theorem dX1_draw_7 : decode cX1_draw 7 = .ok (.imul, 1) := by decide +kernel
theorem dX1_draw_8 : decode cX1_draw 8 = .ok (.sipush 12345, 3) := by decide +kernel
theorem dX1_draw_11 : decode cX1_draw 11 = .ok (.iadd, 1) := by decide +kernel
theorem dX1_draw_12 : decode cX1_draw 12 = .ok (.putfield 24, 3) := by decide +kernel
theorem dX1_draw_15 : decode cX1_draw 15 = .ok (.aload_n 0, 1) := by decide +kernel
theorem dX1_draw_16 : decode cX1_draw 16 = .ok (.getfield 24, 3) := by decide +kernel
theorem dX1_draw_19 : decode cX1_draw 19 = .ok (.bipush 8, 2) := by decide +kernel
theorem dX1_draw_21 : decode cX1_draw 21 = .ok (.iushr, 1) := by decide +kernel
theorem dX1_draw_22 : decode cX1_draw 22 = .ok (.ireturn, 1) := by decide +kernel
theorem dX1_serveDish_0 : decode cX1_serveDish 0 = .ok (.aload_n 0, 1) := by decide +kernel
theorem dX1_serveDish_1 : decode cX1_serveDish 1 = .ok (.iload_n 1, 1) := by decide +kernel
theorem dX1_serveDish_2 : decode cX1_serveDish 2 = .ok (.invokevirtual 104, 3) := by decide +kernel
theorem dX1_serveDish_5 : decode cX1_serveDish 5 = .ok (.istore_n 2, 1) := by decide +kernel
theorem dX1_serveDish_6 : decode cX1_serveDish 6 = .ok (.aload_n 0, 1) := by decide +kernel
theorem dX1_serveDish_7 : decode cX1_serveDish 7 = .ok (.ldc 87, 2) := by decide +kernel
theorem dX1_serveDish_9 : decode cX1_serveDish 9 = .ok (.aload_n 0, 1) := by decide +kernel
theorem dX1_serveDish_10 : decode cX1_serveDish 10 = .ok (.getfield 18, 3) := by decide +kernel
theorem dX1_serveDish_13 : decode cX1_serveDish 13 = .ok (.iload_n 2, 1) := by decide +kernel
theorem dX1_serveDish_14 : decode cX1_serveDish 14 = .ok (.iadd, 1) := by decide +kernel
theorem dX1_serveDish_15 : decode cX1_serveDish 15 = .ok (.invokestatic 88, 3) := by decide +kernel
theorem dX1_serveDish_18 : decode cX1_serveDish 18 = .ok (.putfield 18, 3) := by decide +kernel
theorem dX1_serveDish_21 : decode cX1_serveDish 21 = .ok (.aload_n 0, 1) := by decide +kernel
theorem dX1_serveDish_22 : decode cX1_serveDish 22 = .ok (.getfield 39, 3) := by decide +kernel
theorem dX1_serveDish_25 : decode cX1_serveDish 25 = .ok (.iload_n 1, 1) := by decide +kernel
theorem dX1_serveDish_26 : decode cX1_serveDish 26 = .ok (.aaload, 1) := by decide +kernel
theorem dX1_serveDish_27 : decode cX1_serveDish 27 = .ok (.invokevirtual 107, 3) := by decide +kernel
theorem dX1_serveDish_30 : decode cX1_serveDish 30 = .ok (.iload_n 2, 1) := by decide +kernel
theorem dX1_serveDish_31 : decode cX1_serveDish 31 = .ok (.ireturn, 1) := by decide +kernel
theorem dX1_given_0 : decode cX1_given 0 = .ok (.aload_n 0, 1) := by decide +kernel
theorem dX1_given_1 : decode cX1_given 1 = .ok (.getfield 39, 3) := by decide +kernel
theorem dX1_given_4 : decode cX1_given 4 = .ok (.iload_n 1, 1) := by decide +kernel
theorem dX1_given_5 : decode cX1_given 5 = .ok (.aaload, 1) := by decide +kernel
theorem dX1_given_6 : decode cX1_given 6 = .ok (.aload_n 0, 1) := by decide +kernel
theorem dX1_given_7 : decode cX1_given 7 = .ok (.getfield 9, 3) := by decide +kernel
theorem dX1_given_10 : decode cX1_given 10 = .ok (.invokevirtual 110, 3) := by decide +kernel
theorem dX1_given_13 : decode cX1_given 13 = .ok (.ireturn, 1) := by decide +kernel
theorem dX1_told_0 : decode cX1_told 0 = .ok (.aload_n 0, 1) := by decide +kernel
theorem dX1_told_1 : decode cX1_told 1 = .ok (.getfield 39, 3) := by decide +kernel
theorem dX1_told_4 : decode cX1_told 4 = .ok (.iload_n 1, 1) := by decide +kernel
theorem dX1_told_5 : decode cX1_told 5 = .ok (.aaload, 1) := by decide +kernel
theorem dX1_told_6 : decode cX1_told 6 = .ok (.astore_n 3, 1) := by decide +kernel
theorem dX1_told_7 : decode cX1_told 7 = .ok (.iload_n 2, 1) := by decide +kernel
theorem dX1_told_8 : decode cX1_told 8 = .ok (.tableswitch 126 0 9 #[56, 61, 66, 71, 76, 81, 86, 95, 112, 121], 56) := by decide +kernel
theorem dX1_told_64 : decode cX1_told 64 = .ok (.aload_n 3, 1) := by decide +kernel
theorem dX1_told_65 : decode cX1_told 65 = .ok (.getfield 113, 3) := by decide +kernel
theorem dX1_told_68 : decode cX1_told 68 = .ok (.ireturn, 1) := by decide +kernel
theorem dX1_told_69 : decode cX1_told 69 = .ok (.aload_n 3, 1) := by decide +kernel
theorem dX1_told_70 : decode cX1_told 70 = .ok (.getfield 116, 3) := by decide +kernel
theorem dX1_told_73 : decode cX1_told 73 = .ok (.ireturn, 1) := by decide +kernel
theorem dX1_told_74 : decode cX1_told 74 = .ok (.aload_n 3, 1) := by decide +kernel
theorem dX1_told_75 : decode cX1_told 75 = .ok (.getfield 119, 3) := by decide +kernel
theorem dX1_told_78 : decode cX1_told 78 = .ok (.ireturn, 1) := by decide +kernel
theorem dX1_told_79 : decode cX1_told 79 = .ok (.aload_n 3, 1) := by decide +kernel
theorem dX1_told_80 : decode cX1_told 80 = .ok (.getfield 122, 3) := by decide +kernel
theorem dX1_told_83 : decode cX1_told 83 = .ok (.ireturn, 1) := by decide +kernel
theorem dX1_told_84 : decode cX1_told 84 = .ok (.aload_n 3, 1) := by decide +kernel
theorem dX1_told_85 : decode cX1_told 85 = .ok (.getfield 96, 3) := by decide +kernel
theorem dX1_told_88 : decode cX1_told 88 = .ok (.ireturn, 1) := by decide +kernel
theorem dX1_told_89 : decode cX1_told 89 = .ok (.aload_n 3, 1) := by decide +kernel
theorem dX1_told_90 : decode cX1_told 90 = .ok (.getfield 125, 3) := by decide +kernel
theorem dX1_told_93 : decode cX1_told 93 = .ok (.ireturn, 1) := by decide +kernel
theorem dX1_told_94 : decode cX1_told 94 = .ok (.aload_n 3, 1) := by decide +kernel
theorem dX1_told_95 : decode cX1_told 95 = .ok (.aload_n 0, 1) := by decide +kernel
theorem dX1_told_96 : decode cX1_told 96 = .ok (.getfield 15, 3) := by decide +kernel
theorem dX1_told_99 : decode cX1_told 99 = .ok (.invokevirtual 128, 3) := by decide +kernel
theorem dX1_told_102 : decode cX1_told 102 = .ok (.ireturn, 1) := by decide +kernel
theorem dX1_told_103 : decode cX1_told 103 = .ok (.aload_n 3, 1) := by decide +kernel
theorem dX1_told_104 : decode cX1_told 104 = .ok (.aload_n 0, 1) := by decide +kernel
theorem dX1_told_105 : decode cX1_told 105 = .ok (.getfield 9, 3) := by decide +kernel
theorem dX1_told_108 : decode cX1_told 108 = .ok (.aload_n 0, 1) := by decide +kernel
theorem dX1_told_109 : decode cX1_told 109 = .ok (.getfield 15, 3) := by decide +kernel
theorem dX1_told_112 : decode cX1_told 112 = .ok (.aload_n 0, 1) := by decide +kernel
theorem dX1_told_113 : decode cX1_told 113 = .ok (.invokevirtual 71, 3) := by decide +kernel
theorem dX1_told_116 : decode cX1_told 116 = .ok (.invokevirtual 131, 3) := by decide +kernel
theorem dX1_told_119 : decode cX1_told 119 = .ok (.ireturn, 1) := by decide +kernel
theorem dX1_told_120 : decode cX1_told 120 = .ok (.aload_n 3, 1) := by decide +kernel
theorem dX1_told_121 : decode cX1_told 121 = .ok (.aload_n 0, 1) := by decide +kernel
theorem dX1_told_122 : decode cX1_told 122 = .ok (.invokevirtual 71, 3) := by decide +kernel
theorem dX1_told_125 : decode cX1_told 125 = .ok (.invokevirtual 135, 3) := by decide +kernel
theorem dX1_told_128 : decode cX1_told 128 = .ok (.ireturn, 1) := by decide +kernel
theorem dX1_told_129 : decode cX1_told 129 = .ok (.aload_n 3, 1) := by decide +kernel
theorem dX1_told_130 : decode cX1_told 130 = .ok (.invokevirtual 138, 3) := by decide +kernel
theorem dX1_told_133 : decode cX1_told 133 = .ok (.ireturn, 1) := by decide +kernel
theorem dX1_told_134 : decode cX1_told 134 = .ok (.aload_n 3, 1) := by decide +kernel
theorem dX1_told_135 : decode cX1_told 135 = .ok (.aload_n 0, 1) := by decide +kernel
theorem dX1_told_136 : decode cX1_told 136 = .ok (.getfield 9, 3) := by decide +kernel
theorem dX1_told_139 : decode cX1_told 139 = .ok (.invokevirtual 110, 3) := by decide +kernel
theorem dX1_told_142 : decode cX1_told 142 = .ok (.ireturn, 1) := by decide +kernel
theorem dX1_splitSet_0 : decode cX1_splitSet 0 = .ok (.iconst 0, 1) := by decide +kernel
theorem dX1_splitSet_1 : decode cX1_splitSet 1 = .ok (.istore_n 1, 1) := by decide +kernel
theorem dX1_splitSet_2 : decode cX1_splitSet 2 = .ok (.iconst 0, 1) := by decide +kernel
theorem dX1_splitSet_3 : decode cX1_splitSet 3 = .ok (.istore_n 2, 1) := by decide +kernel
theorem dX1_splitSet_4 : decode cX1_splitSet 4 = .ok (.iload_n 2, 1) := by decide +kernel
theorem dX1_splitSet_5 : decode cX1_splitSet 5 = .ok (.aload_n 0, 1) := by decide +kernel
theorem dX1_splitSet_6 : decode cX1_splitSet 6 = .ok (.getfield 27, 3) := by decide +kernel
theorem dX1_splitSet_9 : decode cX1_splitSet 9 = .ok (.if_icmp .ge 23, 3) := by decide +kernel
theorem dX1_splitSet_12 : decode cX1_splitSet 12 = .ok (.iload_n 1, 1) := by decide +kernel
theorem dX1_splitSet_13 : decode cX1_splitSet 13 = .ok (.aload_n 0, 1) := by decide +kernel
theorem dX1_splitSet_14 : decode cX1_splitSet 14 = .ok (.getfield 39, 3) := by decide +kernel
theorem dX1_splitSet_17 : decode cX1_splitSet 17 = .ok (.iload_n 2, 1) := by decide +kernel
theorem dX1_splitSet_18 : decode cX1_splitSet 18 = .ok (.aaload, 1) := by decide +kernel
theorem dX1_splitSet_19 : decode cX1_splitSet 19 = .ok (.getfield 122, 3) := by decide +kernel
theorem dX1_splitSet_22 : decode cX1_splitSet 22 = .ok (.iload_n 2, 1) := by decide +kernel
theorem dX1_splitSet_23 : decode cX1_splitSet 23 = .ok (.ishl, 1) := by decide +kernel
theorem dX1_splitSet_24 : decode cX1_splitSet 24 = .ok (.ior, 1) := by decide +kernel
theorem dX1_splitSet_25 : decode cX1_splitSet 25 = .ok (.istore_n 1, 1) := by decide +kernel
theorem dX1_splitSet_26 : decode cX1_splitSet 26 = .ok (.iinc 2 1, 3) := by decide +kernel
theorem dX1_splitSet_29 : decode cX1_splitSet 29 = .ok (.goto (-25), 3) := by decide +kernel
theorem dX1_splitSet_32 : decode cX1_splitSet 32 = .ok (.iload_n 1, 1) := by decide +kernel
theorem dX1_splitSet_33 : decode cX1_splitSet 33 = .ok (.ireturn, 1) := by decide +kernel
theorem dX1_offSet_0 : decode cX1_offSet 0 = .ok (.iconst 0, 1) := by decide +kernel
theorem dX1_offSet_1 : decode cX1_offSet 1 = .ok (.istore_n 1, 1) := by decide +kernel
theorem dX1_offSet_2 : decode cX1_offSet 2 = .ok (.iconst 0, 1) := by decide +kernel
theorem dX1_offSet_3 : decode cX1_offSet 3 = .ok (.istore_n 2, 1) := by decide +kernel
theorem dX1_offSet_4 : decode cX1_offSet 4 = .ok (.iload_n 2, 1) := by decide +kernel
theorem dX1_offSet_5 : decode cX1_offSet 5 = .ok (.aload_n 0, 1) := by decide +kernel
theorem dX1_offSet_6 : decode cX1_offSet 6 = .ok (.getfield 27, 3) := by decide +kernel
theorem dX1_offSet_9 : decode cX1_offSet 9 = .ok (.if_icmp .ge 23, 3) := by decide +kernel
theorem dX1_offSet_12 : decode cX1_offSet 12 = .ok (.iload_n 1, 1) := by decide +kernel
theorem dX1_offSet_13 : decode cX1_offSet 13 = .ok (.aload_n 0, 1) := by decide +kernel
theorem dX1_offSet_14 : decode cX1_offSet 14 = .ok (.getfield 39, 3) := by decide +kernel
theorem dX1_offSet_17 : decode cX1_offSet 17 = .ok (.iload_n 2, 1) := by decide +kernel
theorem dX1_offSet_18 : decode cX1_offSet 18 = .ok (.aaload, 1) := by decide +kernel
theorem dX1_offSet_19 : decode cX1_offSet 19 = .ok (.getfield 96, 3) := by decide +kernel
theorem dX1_offSet_22 : decode cX1_offSet 22 = .ok (.iload_n 2, 1) := by decide +kernel
theorem dX1_offSet_23 : decode cX1_offSet 23 = .ok (.ishl, 1) := by decide +kernel
theorem dX1_offSet_24 : decode cX1_offSet 24 = .ok (.ior, 1) := by decide +kernel
theorem dX1_offSet_25 : decode cX1_offSet 25 = .ok (.istore_n 1, 1) := by decide +kernel
theorem dX1_offSet_26 : decode cX1_offSet 26 = .ok (.iinc 2 1, 3) := by decide +kernel
theorem dX1_offSet_29 : decode cX1_offSet 29 = .ok (.goto (-25), 3) := by decide +kernel
theorem dX1_offSet_32 : decode cX1_offSet 32 = .ok (.iload_n 1, 1) := by decide +kernel
theorem dX1_offSet_33 : decode cX1_offSet 33 = .ok (.ireturn, 1) := by decide +kernel
theorem dX1_endangeredSet_0 : decode cX1_endangeredSet 0 = .ok (.iconst 0, 1) := by decide +kernel
theorem dX1_endangeredSet_1 : decode cX1_endangeredSet 1 = .ok (.istore_n 1, 1) := by decide +kernel
theorem dX1_endangeredSet_2 : decode cX1_endangeredSet 2 = .ok (.iconst 0, 1) := by decide +kernel
theorem dX1_endangeredSet_3 : decode cX1_endangeredSet 3 = .ok (.istore_n 2, 1) := by decide +kernel
theorem dX1_endangeredSet_4 : decode cX1_endangeredSet 4 = .ok (.iload_n 2, 1) := by decide +kernel
theorem dX1_endangeredSet_5 : decode cX1_endangeredSet 5 = .ok (.aload_n 0, 1) := by decide +kernel
theorem dX1_endangeredSet_6 : decode cX1_endangeredSet 6 = .ok (.getfield 27, 3) := by decide +kernel
theorem dX1_endangeredSet_9 : decode cX1_endangeredSet 9 = .ok (.if_icmp .ge 47, 3) := by decide +kernel
theorem dX1_endangeredSet_12 : decode cX1_endangeredSet 12 = .ok (.aload_n 0, 1) := by decide +kernel
theorem dX1_endangeredSet_13 : decode cX1_endangeredSet 13 = .ok (.getfield 39, 3) := by decide +kernel
theorem dX1_endangeredSet_16 : decode cX1_endangeredSet 16 = .ok (.iload_n 2, 1) := by decide +kernel
theorem dX1_endangeredSet_17 : decode cX1_endangeredSet 17 = .ok (.aaload, 1) := by decide +kernel
theorem dX1_endangeredSet_18 : decode cX1_endangeredSet 18 = .ok (.invokevirtual 79, 3) := by decide +kernel
theorem dX1_endangeredSet_21 : decode cX1_endangeredSet 21 = .ok (.ifCond .eq 29, 3) := by decide +kernel
theorem dX1_endangeredSet_24 : decode cX1_endangeredSet 24 = .ok (.aload_n 0, 1) := by decide +kernel
theorem dX1_endangeredSet_25 : decode cX1_endangeredSet 25 = .ok (.getfield 9, 3) := by decide +kernel
theorem dX1_endangeredSet_28 : decode cX1_endangeredSet 28 = .ok (.aload_n 0, 1) := by decide +kernel
theorem dX1_endangeredSet_29 : decode cX1_endangeredSet 29 = .ok (.getfield 39, 3) := by decide +kernel
theorem dX1_endangeredSet_32 : decode cX1_endangeredSet 32 = .ok (.iload_n 2, 1) := by decide +kernel
theorem dX1_endangeredSet_33 : decode cX1_endangeredSet 33 = .ok (.aaload, 1) := by decide +kernel
theorem dX1_endangeredSet_34 : decode cX1_endangeredSet 34 = .ok (.aload_n 0, 1) := by decide +kernel
theorem dX1_endangeredSet_35 : decode cX1_endangeredSet 35 = .ok (.getfield 15, 3) := by decide +kernel
theorem dX1_endangeredSet_38 : decode cX1_endangeredSet 38 = .ok (.invokevirtual 128, 3) := by decide +kernel
theorem dX1_endangeredSet_41 : decode cX1_endangeredSet 41 = .ok (.if_icmp .ge 9, 3) := by decide +kernel
theorem dX1_endangeredSet_44 : decode cX1_endangeredSet 44 = .ok (.iload_n 1, 1) := by decide +kernel
theorem dX1_endangeredSet_45 : decode cX1_endangeredSet 45 = .ok (.iconst 1, 1) := by decide +kernel
theorem dX1_endangeredSet_46 : decode cX1_endangeredSet 46 = .ok (.iload_n 2, 1) := by decide +kernel
theorem dX1_endangeredSet_47 : decode cX1_endangeredSet 47 = .ok (.ishl, 1) := by decide +kernel
theorem dX1_endangeredSet_48 : decode cX1_endangeredSet 48 = .ok (.ior, 1) := by decide +kernel
theorem dX1_endangeredSet_49 : decode cX1_endangeredSet 49 = .ok (.istore_n 1, 1) := by decide +kernel
theorem dX1_endangeredSet_50 : decode cX1_endangeredSet 50 = .ok (.iinc 2 1, 3) := by decide +kernel
theorem dX1_endangeredSet_53 : decode cX1_endangeredSet 53 = .ok (.goto (-49), 3) := by decide +kernel
theorem dX1_endangeredSet_56 : decode cX1_endangeredSet 56 = .ok (.iload_n 1, 1) := by decide +kernel
theorem dX1_endangeredSet_57 : decode cX1_endangeredSet 57 = .ok (.ireturn, 1) := by decide +kernel
theorem dX1_givenForAll_0 : decode cX1_givenForAll 0 = .ok (.iconst 0, 1) := by decide +kernel
theorem dX1_givenForAll_1 : decode cX1_givenForAll 1 = .ok (.istore_n 1, 1) := by decide +kernel
theorem dX1_givenForAll_2 : decode cX1_givenForAll 2 = .ok (.iconst 0, 1) := by decide +kernel
theorem dX1_givenForAll_3 : decode cX1_givenForAll 3 = .ok (.istore_n 2, 1) := by decide +kernel
theorem dX1_givenForAll_4 : decode cX1_givenForAll 4 = .ok (.iload_n 2, 1) := by decide +kernel
theorem dX1_givenForAll_5 : decode cX1_givenForAll 5 = .ok (.aload_n 0, 1) := by decide +kernel
theorem dX1_givenForAll_6 : decode cX1_givenForAll 6 = .ok (.getfield 27, 3) := by decide +kernel
theorem dX1_givenForAll_9 : decode cX1_givenForAll 9 = .ok (.if_icmp .ge 17, 3) := by decide +kernel
theorem dX1_givenForAll_12 : decode cX1_givenForAll 12 = .ok (.iload_n 1, 1) := by decide +kernel
theorem dX1_givenForAll_13 : decode cX1_givenForAll 13 = .ok (.aload_n 0, 1) := by decide +kernel
theorem dX1_givenForAll_14 : decode cX1_givenForAll 14 = .ok (.iload_n 2, 1) := by decide +kernel
theorem dX1_givenForAll_15 : decode cX1_givenForAll 15 = .ok (.invokevirtual 104, 3) := by decide +kernel
theorem dX1_givenForAll_18 : decode cX1_givenForAll 18 = .ok (.iadd, 1) := by decide +kernel
theorem dX1_givenForAll_19 : decode cX1_givenForAll 19 = .ok (.istore_n 1, 1) := by decide +kernel
theorem dX1_givenForAll_20 : decode cX1_givenForAll 20 = .ok (.iinc 2 1, 3) := by decide +kernel
theorem dX1_givenForAll_23 : decode cX1_givenForAll 23 = .ok (.goto (-19), 3) := by decide +kernel
theorem dX1_givenForAll_26 : decode cX1_givenForAll 26 = .ok (.iload_n 1, 1) := by decide +kernel
theorem dX1_givenForAll_27 : decode cX1_givenForAll 27 = .ok (.ireturn, 1) := by decide +kernel
theorem dX1_dearest_0 : decode cX1_dearest 0 = .ok (.iconst (-1), 1) := by decide +kernel
theorem dX1_dearest_1 : decode cX1_dearest 1 = .ok (.istore_n 1, 1) := by decide +kernel
theorem dX1_dearest_2 : decode cX1_dearest 2 = .ok (.iconst (-1), 1) := by decide +kernel
theorem dX1_dearest_3 : decode cX1_dearest 3 = .ok (.istore_n 2, 1) := by decide +kernel
theorem dX1_dearest_4 : decode cX1_dearest 4 = .ok (.iconst 0, 1) := by decide +kernel
theorem dX1_dearest_5 : decode cX1_dearest 5 = .ok (.istore_n 3, 1) := by decide +kernel
theorem dX1_dearest_6 : decode cX1_dearest 6 = .ok (.iload_n 3, 1) := by decide +kernel
theorem dX1_dearest_7 : decode cX1_dearest 7 = .ok (.aload_n 0, 1) := by decide +kernel
theorem dX1_dearest_8 : decode cX1_dearest 8 = .ok (.getfield 27, 3) := by decide +kernel
theorem dX1_dearest_11 : decode cX1_dearest 11 = .ok (.if_icmp .ge 26, 3) := by decide +kernel
theorem dX1_dearest_14 : decode cX1_dearest 14 = .ok (.aload_n 0, 1) := by decide +kernel
theorem dX1_dearest_15 : decode cX1_dearest 15 = .ok (.iload_n 3, 1) := by decide +kernel
theorem dX1_dearest_16 : decode cX1_dearest 16 = .ok (.invokevirtual 104, 3) := by decide +kernel
theorem dX1_dearest_19 : decode cX1_dearest 19 = .ok (.iload_n 2, 1) := by decide +kernel
theorem dX1_dearest_20 : decode cX1_dearest 20 = .ok (.if_icmp .le 11, 3) := by decide +kernel
theorem dX1_dearest_23 : decode cX1_dearest 23 = .ok (.aload_n 0, 1) := by decide +kernel
theorem dX1_dearest_24 : decode cX1_dearest 24 = .ok (.iload_n 3, 1) := by decide +kernel
theorem dX1_dearest_25 : decode cX1_dearest 25 = .ok (.invokevirtual 104, 3) := by decide +kernel
theorem dX1_dearest_28 : decode cX1_dearest 28 = .ok (.istore_n 2, 1) := by decide +kernel
theorem dX1_dearest_29 : decode cX1_dearest 29 = .ok (.iload_n 3, 1) := by decide +kernel
theorem dX1_dearest_30 : decode cX1_dearest 30 = .ok (.istore_n 1, 1) := by decide +kernel
theorem dX1_dearest_31 : decode cX1_dearest 31 = .ok (.iinc 3 1, 3) := by decide +kernel
theorem dX1_dearest_34 : decode cX1_dearest 34 = .ok (.goto (-28), 3) := by decide +kernel
theorem dX1_dearest_37 : decode cX1_dearest 37 = .ok (.iload_n 1, 1) := by decide +kernel
theorem dX1_dearest_38 : decode cX1_dearest 38 = .ok (.ireturn, 1) := by decide +kernel
theorem dX1_harmlessDeeds_0 : decode cX1_harmlessDeeds 0 = .ok (.aload_n 0, 1) := by decide +kernel
theorem dX1_harmlessDeeds_1 : decode cX1_harmlessDeeds 1 = .ok (.getfield 39, 3) := by decide +kernel
theorem dX1_harmlessDeeds_4 : decode cX1_harmlessDeeds 4 = .ok (.iload_n 1, 1) := by decide +kernel
theorem dX1_harmlessDeeds_5 : decode cX1_harmlessDeeds 5 = .ok (.aaload, 1) := by decide +kernel
theorem dX1_harmlessDeeds_6 : decode cX1_harmlessDeeds 6 = .ok (.aload_n 0, 1) := by decide +kernel
theorem dX1_harmlessDeeds_7 : decode cX1_harmlessDeeds 7 = .ok (.getfield 15, 3) := by decide +kernel
theorem dX1_harmlessDeeds_10 : decode cX1_harmlessDeeds 10 = .ok (.invokevirtual 128, 3) := by decide +kernel
theorem dX1_harmlessDeeds_13 : decode cX1_harmlessDeeds 13 = .ok (.istore_n 2, 1) := by decide +kernel
theorem dX1_harmlessDeeds_14 : decode cX1_harmlessDeeds 14 = .ok (.iconst 0, 1) := by decide +kernel
theorem dX1_harmlessDeeds_15 : decode cX1_harmlessDeeds 15 = .ok (.istore_n 3, 1) := by decide +kernel
theorem dX1_harmlessDeeds_16 : decode cX1_harmlessDeeds 16 = .ok (.iconst 0, 1) := by decide +kernel
theorem dX1_harmlessDeeds_17 : decode cX1_harmlessDeeds 17 = .ok (.istore 4, 2) := by decide +kernel
theorem dX1_harmlessDeeds_19 : decode cX1_harmlessDeeds 19 = .ok (.iload 4, 2) := by decide +kernel
theorem dX1_harmlessDeeds_21 : decode cX1_harmlessDeeds 21 = .ok (.bipush 12, 2) := by decide +kernel
theorem dX1_harmlessDeeds_23 : decode cX1_harmlessDeeds 23 = .ok (.if_icmp .ge 25, 3) := by decide +kernel
theorem dX1_harmlessDeeds_26 : decode cX1_harmlessDeeds 26 = .ok (.aload_n 0, 1) := by decide +kernel
theorem dX1_harmlessDeeds_27 : decode cX1_harmlessDeeds 27 = .ok (.getfield 9, 3) := by decide +kernel
theorem dX1_harmlessDeeds_30 : decode cX1_harmlessDeeds 30 = .ok (.iload 4, 2) := by decide +kernel
theorem dX1_harmlessDeeds_32 : decode cX1_harmlessDeeds 32 = .ok (.invokestatic 75, 3) := by decide +kernel
theorem dX1_harmlessDeeds_35 : decode cX1_harmlessDeeds 35 = .ok (.iload_n 2, 1) := by decide +kernel
theorem dX1_harmlessDeeds_36 : decode cX1_harmlessDeeds 36 = .ok (.if_icmp .lt 6, 3) := by decide +kernel
theorem dX1_harmlessDeeds_39 : decode cX1_harmlessDeeds 39 = .ok (.iinc 3 1, 3) := by decide +kernel
theorem dX1_harmlessDeeds_42 : decode cX1_harmlessDeeds 42 = .ok (.iinc 4 1, 3) := by decide +kernel
theorem dX1_harmlessDeeds_45 : decode cX1_harmlessDeeds 45 = .ok (.goto (-26), 3) := by decide +kernel
theorem dX1_harmlessDeeds_48 : decode cX1_harmlessDeeds 48 = .ok (.iload_n 3, 1) := by decide +kernel
theorem dX1_harmlessDeeds_49 : decode cX1_harmlessDeeds 49 = .ok (.ireturn, 1) := by decide +kernel
theorem dX1_heldSpots_0 : decode cX1_heldSpots 0 = .ok (.iconst 0, 1) := by decide +kernel
theorem dX1_heldSpots_1 : decode cX1_heldSpots 1 = .ok (.istore_n 1, 1) := by decide +kernel
theorem dX1_heldSpots_2 : decode cX1_heldSpots 2 = .ok (.aload_n 0, 1) := by decide +kernel
theorem dX1_heldSpots_3 : decode cX1_heldSpots 3 = .ok (.getfield 34, 3) := by decide +kernel
theorem dX1_heldSpots_6 : decode cX1_heldSpots 6 = .ok (.astore_n 2, 1) := by decide +kernel
theorem dX1_heldSpots_7 : decode cX1_heldSpots 7 = .ok (.aload_n 2, 1) := by decide +kernel
theorem dX1_heldSpots_8 : decode cX1_heldSpots 8 = .ok (.arraylength, 1) := by decide +kernel
theorem dX1_heldSpots_9 : decode cX1_heldSpots 9 = .ok (.istore_n 3, 1) := by decide +kernel
theorem dX1_heldSpots_10 : decode cX1_heldSpots 10 = .ok (.iconst 0, 1) := by decide +kernel
theorem dX1_heldSpots_11 : decode cX1_heldSpots 11 = .ok (.istore 4, 2) := by decide +kernel
theorem dX1_heldSpots_13 : decode cX1_heldSpots 13 = .ok (.iload 4, 2) := by decide +kernel
theorem dX1_heldSpots_15 : decode cX1_heldSpots 15 = .ok (.iload_n 3, 1) := by decide +kernel
theorem dX1_heldSpots_16 : decode cX1_heldSpots 16 = .ok (.if_icmp .ge 23, 3) := by decide +kernel
theorem dX1_heldSpots_19 : decode cX1_heldSpots 19 = .ok (.aload_n 2, 1) := by decide +kernel
theorem dX1_heldSpots_20 : decode cX1_heldSpots 20 = .ok (.iload 4, 2) := by decide +kernel
theorem dX1_heldSpots_22 : decode cX1_heldSpots 22 = .ok (.iaload, 1) := by decide +kernel
theorem dX1_heldSpots_23 : decode cX1_heldSpots 23 = .ok (.istore 5, 2) := by decide +kernel
theorem dX1_heldSpots_25 : decode cX1_heldSpots 25 = .ok (.iload 5, 2) := by decide +kernel
theorem dX1_heldSpots_27 : decode cX1_heldSpots 27 = .ok (.ifCond .lt 6, 3) := by decide +kernel
theorem dX1_heldSpots_30 : decode cX1_heldSpots 30 = .ok (.iinc 1 1, 3) := by decide +kernel
theorem dX1_heldSpots_33 : decode cX1_heldSpots 33 = .ok (.iinc 4 1, 3) := by decide +kernel
theorem dX1_heldSpots_36 : decode cX1_heldSpots 36 = .ok (.goto (-23), 3) := by decide +kernel
theorem dX1_heldSpots_39 : decode cX1_heldSpots 39 = .ok (.iload_n 1, 1) := by decide +kernel
theorem dX1_heldSpots_40 : decode cX1_heldSpots 40 = .ok (.ireturn, 1) := by decide +kernel
theorem dX2_init_0 : decode cX2_init 0 = .ok (.aload_n 0, 1) := by decide +kernel
theorem dX2_init_1 : decode cX2_init 1 = .ok (.invokespecial 3, 3) := by decide +kernel
theorem dX2_init_4 : decode cX2_init 4 = .ok (.aload_n 0, 1) := by decide +kernel
theorem dX2_init_5 : decode cX2_init 5 = .ok (.iconst 0, 1) := by decide +kernel
theorem dX2_init_6 : decode cX2_init 6 = .ok (.putfield 9, 3) := by decide +kernel
theorem dX2_init_9 : decode cX2_init 9 = .ok (.aload_n 0, 1) := by decide +kernel
theorem dX2_init_10 : decode cX2_init 10 = .ok (.iconst 0, 1) := by decide +kernel
theorem dX2_init_11 : decode cX2_init 11 = .ok (.putfield 15, 3) := by decide +kernel
theorem dX2_init_14 : decode cX2_init 14 = .ok (.aload_n 0, 1) := by decide +kernel
theorem dX2_init_15 : decode cX2_init 15 = .ok (.bipush 40, 2) := by decide +kernel
theorem dX2_init_17 : decode cX2_init 17 = .ok (.newarray .int, 2) := by decide +kernel
theorem dX2_init_19 : decode cX2_init 19 = .ok (.putfield 18, 3) := by decide +kernel
theorem dX2_init_22 : decode cX2_init 22 = .ok (.return_, 1) := by decide +kernel
theorem dX2_isMissing_0 : decode cX2_isMissing 0 = .ok (.aload_n 0, 1) := by decide +kernel
theorem dX2_isMissing_1 : decode cX2_isMissing 1 = .ok (.getfield 9, 3) := by decide +kernel
theorem dX2_isMissing_4 : decode cX2_isMissing 4 = .ok (.ifCond .ne 7, 3) := by decide +kernel
theorem dX2_isMissing_7 : decode cX2_isMissing 7 = .ok (.iconst 1, 1) := by decide +kernel
theorem dX2_isMissing_8 : decode cX2_isMissing 8 = .ok (.goto 4, 3) := by decide +kernel
theorem dX2_isMissing_11 : decode cX2_isMissing 11 = .ok (.iconst 0, 1) := by decide +kernel
theorem dX2_isMissing_12 : decode cX2_isMissing 12 = .ok (.ireturn, 1) := by decide +kernel
theorem dX2_renew_0 : decode cX2_renew 0 = .ok (.aload_n 0, 1) := by decide +kernel
theorem dX2_renew_1 : decode cX2_renew 1 = .ok (.iload_n 1, 1) := by decide +kernel
theorem dX2_renew_2 : decode cX2_renew 2 = .ok (.putfield 9, 3) := by decide +kernel
theorem dX2_renew_5 : decode cX2_renew 5 = .ok (.aload_n 0, 1) := by decide +kernel
theorem dX2_renew_6 : decode cX2_renew 6 = .ok (.iload_n 2, 1) := by decide +kernel
theorem dX2_renew_7 : decode cX2_renew 7 = .ok (.putfield 15, 3) := by decide +kernel
theorem dX2_renew_10 : decode cX2_renew 10 = .ok (.aload_n 0, 1) := by decide +kernel
theorem dX2_renew_11 : decode cX2_renew 11 = .ok (.getfield 18, 3) := by decide +kernel
theorem dX2_renew_14 : decode cX2_renew 14 = .ok (.iconst 0, 1) := by decide +kernel
theorem dX2_renew_15 : decode cX2_renew 15 = .ok (.invokestatic 22, 3) := by decide +kernel
theorem dX2_renew_18 : decode cX2_renew 18 = .ok (.return_, 1) := by decide +kernel
theorem dX2_put_0 : decode cX2_put 0 = .ok (.aload_n 0, 1) := by decide +kernel
theorem dX2_put_1 : decode cX2_put 1 = .ok (.getfield 9, 3) := by decide +kernel
theorem dX2_put_4 : decode cX2_put 4 = .ok (.bipush 8, 2) := by decide +kernel
theorem dX2_put_6 : decode cX2_put 6 = .ok (.if_icmp .ne 14, 3) := by decide +kernel
theorem dX2_put_9 : decode cX2_put 9 = .ok (.aload_n 0, 1) := by decide +kernel
theorem dX2_put_10 : decode cX2_put 10 = .ok (.getfield 18, 3) := by decide +kernel
theorem dX2_put_13 : decode cX2_put 13 = .ok (.iload_n 1, 1) := by decide +kernel
theorem dX2_put_14 : decode cX2_put 14 = .ok (.iload_n 2, 1) := by decide +kernel
theorem dX2_put_15 : decode cX2_put 15 = .ok (.i2b, 1) := by decide +kernel
theorem dX2_put_16 : decode cX2_put 16 = .ok (.iastore, 1) := by decide +kernel
theorem dX2_put_17 : decode cX2_put 17 = .ok (.goto 30, 3) := by decide +kernel
theorem dX2_put_20 : decode cX2_put 20 = .ok (.aload_n 0, 1) := by decide +kernel
theorem dX2_put_21 : decode cX2_put 21 = .ok (.getfield 9, 3) := by decide +kernel
theorem dX2_put_24 : decode cX2_put 24 = .ok (.bipush 16, 2) := by decide +kernel
theorem dX2_put_26 : decode cX2_put 26 = .ok (.if_icmp .ne 14, 3) := by decide +kernel
theorem dX2_put_29 : decode cX2_put 29 = .ok (.aload_n 0, 1) := by decide +kernel
theorem dX2_put_30 : decode cX2_put 30 = .ok (.getfield 18, 3) := by decide +kernel
theorem dX2_put_33 : decode cX2_put 33 = .ok (.iload_n 1, 1) := by decide +kernel
theorem dX2_put_34 : decode cX2_put 34 = .ok (.iload_n 2, 1) := by decide +kernel
theorem dX2_put_35 : decode cX2_put 35 = .ok (.i2s, 1) := by decide +kernel
theorem dX2_put_36 : decode cX2_put 36 = .ok (.iastore, 1) := by decide +kernel
theorem dX2_put_37 : decode cX2_put 37 = .ok (.goto 10, 3) := by decide +kernel
theorem dX2_put_40 : decode cX2_put 40 = .ok (.aload_n 0, 1) := by decide +kernel
theorem dX2_put_41 : decode cX2_put 41 = .ok (.getfield 18, 3) := by decide +kernel
theorem dX2_put_44 : decode cX2_put 44 = .ok (.iload_n 1, 1) := by decide +kernel
theorem dX2_put_45 : decode cX2_put 45 = .ok (.iload_n 2, 1) := by decide +kernel
theorem dX2_put_46 : decode cX2_put 46 = .ok (.iastore, 1) := by decide +kernel
theorem dX2_put_47 : decode cX2_put 47 = .ok (.return_, 1) := by decide +kernel
theorem dX2_hasPart_0 : decode cX2_hasPart 0 = .ok (.iload_n 1, 1) := by decide +kernel
theorem dX2_hasPart_1 : decode cX2_hasPart 1 = .ok (.ifCond .lt 29, 3) := by decide +kernel
theorem dX2_hasPart_4 : decode cX2_hasPart 4 = .ok (.iload_n 2, 1) := by decide +kernel
theorem dX2_hasPart_5 : decode cX2_hasPart 5 = .ok (.ifCond .lt 25, 3) := by decide +kernel
theorem dX2_hasPart_8 : decode cX2_hasPart 8 = .ok (.iload_n 2, 1) := by decide +kernel
theorem dX2_hasPart_9 : decode cX2_hasPart 9 = .ok (.aload_n 0, 1) := by decide +kernel
theorem dX2_hasPart_10 : decode cX2_hasPart 10 = .ok (.getfield 15, 3) := by decide +kernel
theorem dX2_hasPart_13 : decode cX2_hasPart 13 = .ok (.if_icmp .gt 17, 3) := by decide +kernel
theorem dX2_hasPart_16 : decode cX2_hasPart 16 = .ok (.iload_n 1, 1) := by decide +kernel
theorem dX2_hasPart_17 : decode cX2_hasPart 17 = .ok (.aload_n 0, 1) := by decide +kernel
theorem dX2_hasPart_18 : decode cX2_hasPart 18 = .ok (.getfield 15, 3) := by decide +kernel
theorem dX2_hasPart_21 : decode cX2_hasPart 21 = .ok (.iload_n 2, 1) := by decide +kernel
theorem dX2_hasPart_22 : decode cX2_hasPart 22 = .ok (.isub, 1) := by decide +kernel
theorem dX2_hasPart_23 : decode cX2_hasPart 23 = .ok (.if_icmp .gt 7, 3) := by decide +kernel
theorem dX2_hasPart_26 : decode cX2_hasPart 26 = .ok (.iconst 1, 1) := by decide +kernel
theorem dX2_hasPart_27 : decode cX2_hasPart 27 = .ok (.goto 4, 3) := by decide +kernel
theorem dX2_hasPart_30 : decode cX2_hasPart 30 = .ok (.iconst 0, 1) := by decide +kernel
theorem dX2_hasPart_31 : decode cX2_hasPart 31 = .ok (.ireturn, 1) := by decide +kernel
theorem dX3_init_0 : decode cX3_init 0 = .ok (.aload_n 0, 1) := by decide +kernel
theorem dX3_init_1 : decode cX3_init 1 = .ok (.invokespecial 3, 3) := by decide +kernel
theorem dX3_init_4 : decode cX3_init 4 = .ok (.aload_n 0, 1) := by decide +kernel
theorem dX3_init_5 : decode cX3_init 5 = .ok (.bipush 120, 2) := by decide +kernel
theorem dX3_init_7 : decode cX3_init 7 = .ok (.newarray .byte, 2) := by decide +kernel
theorem dX3_init_9 : decode cX3_init 9 = .ok (.putfield 9, 3) := by decide +kernel
theorem dX3_init_12 : decode cX3_init 12 = .ok (.aload_n 0, 1) := by decide +kernel
theorem dX3_init_13 : decode cX3_init 13 = .ok (.iconst 0, 1) := by decide +kernel
theorem dX3_init_14 : decode cX3_init 14 = .ok (.putfield 15, 3) := by decide +kernel
theorem dX3_init_17 : decode cX3_init 17 = .ok (.aload_n 0, 1) := by decide +kernel
theorem dX3_init_18 : decode cX3_init 18 = .ok (.iconst 3, 1) := by decide +kernel
theorem dX3_init_19 : decode cX3_init 19 = .ok (.putfield 19, 3) := by decide +kernel
theorem dX3_init_22 : decode cX3_init 22 = .ok (.aload_n 0, 1) := by decide +kernel
theorem dX3_init_23 : decode cX3_init 23 = .ok (.iconst 0, 1) := by decide +kernel
theorem dX3_init_24 : decode cX3_init 24 = .ok (.putfield 22, 3) := by decide +kernel
theorem dX3_init_27 : decode cX3_init 27 = .ok (.aload_n 0, 1) := by decide +kernel
theorem dX3_init_28 : decode cX3_init 28 = .ok (.iconst 0, 1) := by decide +kernel
theorem dX3_init_29 : decode cX3_init 29 = .ok (.putfield 25, 3) := by decide +kernel
theorem dX3_init_32 : decode cX3_init 32 = .ok (.return_, 1) := by decide +kernel
theorem dX3_append_0 : decode cX3_append 0 = .ok (.iload_n 2, 1) := by decide +kernel
theorem dX3_append_1 : decode cX3_append 1 = .ok (.iconst 1, 1) := by decide +kernel
theorem dX3_append_2 : decode cX3_append 2 = .ok (.isub, 1) := by decide +kernel
theorem dX3_append_3 : decode cX3_append 3 = .ok (.istore_n 3, 1) := by decide +kernel
theorem dX3_append_4 : decode cX3_append 4 = .ok (.iload_n 3, 1) := by decide +kernel
theorem dX3_append_5 : decode cX3_append 5 = .ok (.ifCond .lt 35, 3) := by decide +kernel
theorem dX3_append_8 : decode cX3_append 8 = .ok (.aload_n 0, 1) := by decide +kernel
theorem dX3_append_9 : decode cX3_append 9 = .ok (.getfield 9, 3) := by decide +kernel
theorem dX3_append_12 : decode cX3_append 12 = .ok (.aload_n 0, 1) := by decide +kernel
theorem dX3_append_13 : decode cX3_append 13 = .ok (.getfield 15, 3) := by decide +kernel
theorem dX3_append_16 : decode cX3_append 16 = .ok (.iload_n 1, 1) := by decide +kernel
theorem dX3_append_17 : decode cX3_append 17 = .ok (.bipush 8, 2) := by decide +kernel
theorem dX3_append_19 : decode cX3_append 19 = .ok (.iload_n 3, 1) := by decide +kernel
theorem dX3_append_20 : decode cX3_append 20 = .ok (.imul, 1) := by decide +kernel
theorem dX3_append_21 : decode cX3_append 21 = .ok (.iushr, 1) := by decide +kernel
theorem dX3_append_22 : decode cX3_append 22 = .ok (.i2b, 1) := by decide +kernel
theorem dX3_append_23 : decode cX3_append 23 = .ok (.bastore, 1) := by decide +kernel
theorem dX3_append_24 : decode cX3_append 24 = .ok (.aload_n 0, 1) := by decide +kernel
theorem dX3_append_25 : decode cX3_append 25 = .ok (.dup, 1) := by decide +kernel
theorem dX3_append_26 : decode cX3_append 26 = .ok (.getfield 15, 3) := by decide +kernel
theorem dX3_append_29 : decode cX3_append 29 = .ok (.iconst 1, 1) := by decide +kernel
theorem dX3_append_30 : decode cX3_append 30 = .ok (.iadd, 1) := by decide +kernel
theorem dX3_append_31 : decode cX3_append 31 = .ok (.putfield 15, 3) := by decide +kernel
theorem dX3_append_34 : decode cX3_append 34 = .ok (.iinc 3 (-1), 3) := by decide +kernel
theorem dX3_append_37 : decode cX3_append 37 = .ok (.goto (-33), 3) := by decide +kernel
theorem dX3_append_40 : decode cX3_append 40 = .ok (.return_, 1) := by decide +kernel
theorem dX3_readText_0 : decode cX3_readText 0 = .ok (.aload_n 0, 1) := by decide +kernel
theorem dX3_readText_1 : decode cX3_readText 1 = .ok (.iconst 0, 1) := by decide +kernel
theorem dX3_readText_2 : decode cX3_readText 2 = .ok (.putfield 25, 3) := by decide +kernel
theorem dX3_readText_5 : decode cX3_readText 5 = .ok (.aload_n 0, 1) := by decide +kernel
theorem dX3_readText_6 : decode cX3_readText 6 = .ok (.invokevirtual 28, 3) := by decide +kernel
theorem dX3_readText_9 : decode cX3_readText 9 = .ok (.iconst 1, 1) := by decide +kernel
theorem dX3_readText_10 : decode cX3_readText 10 = .ok (.istore_n 2, 1) := by decide +kernel
theorem dX3_readText_11 : decode cX3_readText 11 = .ok (.iload_n 2, 1) := by decide +kernel
theorem dX3_readText_12 : decode cX3_readText 12 = .ok (.bipush 120, 2) := by decide +kernel
theorem dX3_readText_14 : decode cX3_readText 14 = .ok (.if_icmp .gt 53, 3) := by decide +kernel
theorem dX3_readText_17 : decode cX3_readText 17 = .ok (.aload_n 0, 1) := by decide +kernel
theorem dX3_readText_18 : decode cX3_readText 18 = .ok (.aload_n 1, 1) := by decide +kernel
theorem dX3_readText_19 : decode cX3_readText 19 = .ok (.invokevirtual 31, 3) := by decide +kernel
theorem dX3_readText_22 : decode cX3_readText 22 = .ok (.ifCond .ne 10, 3) := by decide +kernel
theorem dX3_readText_25 : decode cX3_readText 25 = .ok (.iconst (-1), 1) := by decide +kernel
theorem dX3_readText_26 : decode cX3_readText 26 = .ok (.aload_n 0, 1) := by decide +kernel
theorem dX3_readText_27 : decode cX3_readText 27 = .ok (.getfield 22, 3) := by decide +kernel
theorem dX3_readText_30 : decode cX3_readText 30 = .ok (.isub, 1) := by decide +kernel
theorem dX3_readText_31 : decode cX3_readText 31 = .ok (.ireturn, 1) := by decide +kernel
theorem dX3_readText_32 : decode cX3_readText 32 = .ok (.aload_n 0, 1) := by decide +kernel
theorem dX3_readText_33 : decode cX3_readText 33 = .ok (.getfield 19, 3) := by decide +kernel
theorem dX3_readText_36 : decode cX3_readText 36 = .ok (.iconst 3, 1) := by decide +kernel
theorem dX3_readText_37 : decode cX3_readText 37 = .ok (.if_icmp .ne 5, 3) := by decide +kernel
theorem dX3_readText_40 : decode cX3_readText 40 = .ok (.iload_n 2, 1) := by decide +kernel
theorem dX3_readText_41 : decode cX3_readText 41 = .ok (.ireturn, 1) := by decide +kernel
theorem dX3_readText_42 : decode cX3_readText 42 = .ok (.aload_n 0, 1) := by decide +kernel
theorem dX3_readText_43 : decode cX3_readText 43 = .ok (.getfield 19, 3) := by decide +kernel
theorem dX3_readText_46 : decode cX3_readText 46 = .ok (.iconst 2, 1) := by decide +kernel
theorem dX3_readText_47 : decode cX3_readText 47 = .ok (.if_icmp .eq 10, 3) := by decide +kernel
theorem dX3_readText_50 : decode cX3_readText 50 = .ok (.iconst (-1), 1) := by decide +kernel
theorem dX3_readText_51 : decode cX3_readText 51 = .ok (.aload_n 0, 1) := by decide +kernel
theorem dX3_readText_52 : decode cX3_readText 52 = .ok (.getfield 22, 3) := by decide +kernel
theorem dX3_readText_55 : decode cX3_readText 55 = .ok (.isub, 1) := by decide +kernel
theorem dX3_readText_56 : decode cX3_readText 56 = .ok (.ireturn, 1) := by decide +kernel
theorem dX3_readText_57 : decode cX3_readText 57 = .ok (.aload_n 0, 1) := by decide +kernel
theorem dX3_readText_58 : decode cX3_readText 58 = .ok (.invokevirtual 28, 3) := by decide +kernel
theorem dX3_readText_61 : decode cX3_readText 61 = .ok (.iinc 2 1, 3) := by decide +kernel
theorem dX3_readText_64 : decode cX3_readText 64 = .ok (.goto (-53), 3) := by decide +kernel
theorem dX3_readText_67 : decode cX3_readText 67 = .ok (.iconst (-1), 1) := by decide +kernel
theorem dX3_readText_68 : decode cX3_readText 68 = .ok (.aload_n 0, 1) := by decide +kernel
theorem dX3_readText_69 : decode cX3_readText 69 = .ok (.getfield 22, 3) := by decide +kernel
theorem dX3_readText_72 : decode cX3_readText 72 = .ok (.isub, 1) := by decide +kernel
theorem dX3_readText_73 : decode cX3_readText 73 = .ok (.ireturn, 1) := by decide +kernel
theorem dX3_readItem_0 : decode cX3_readItem 0 = .ok (.aload_n 0, 1) := by decide +kernel
theorem dX3_readItem_1 : decode cX3_readItem 1 = .ok (.invokevirtual 35, 3) := by decide +kernel
theorem dX3_readItem_4 : decode cX3_readItem 4 = .ok (.istore_n 2, 1) := by decide +kernel
theorem dX3_readItem_5 : decode cX3_readItem 5 = .ok (.iload_n 2, 1) := by decide +kernel
theorem dX3_readItem_6 : decode cX3_readItem 6 = .ok (.ifCond .lt 30, 3) := by decide +kernel
theorem dX3_readItem_9 : decode cX3_readItem 9 = .ok (.aload_n 1, 1) := by decide +kernel
theorem dX3_readItem_10 : decode cX3_readItem 10 = .ok (.getfield 39, 3) := by decide +kernel
theorem dX3_readItem_13 : decode cX3_readItem 13 = .ok (.bipush 8, 2) := by decide +kernel
theorem dX3_readItem_15 : decode cX3_readItem 15 = .ok (.if_icmp .ge 19, 3) := by decide +kernel
theorem dX3_readItem_18 : decode cX3_readItem 18 = .ok (.aload_n 0, 1) := by decide +kernel
theorem dX3_readItem_19 : decode cX3_readItem 19 = .ok (.aload_n 1, 1) := by decide +kernel
theorem dX3_readItem_20 : decode cX3_readItem 20 = .ok (.iload_n 2, 1) := by decide +kernel
theorem dX3_readItem_21 : decode cX3_readItem 21 = .ok (.invokevirtual 44, 3) := by decide +kernel
theorem dX3_readItem_24 : decode cX3_readItem 24 = .ok (.invokevirtual 48, 3) := by decide +kernel
theorem dX3_readItem_27 : decode cX3_readItem 27 = .ok (.ifCond .eq 7, 3) := by decide +kernel
theorem dX3_readItem_30 : decode cX3_readItem 30 = .ok (.iconst 1, 1) := by decide +kernel
theorem dX3_readItem_31 : decode cX3_readItem 31 = .ok (.goto 4, 3) := by decide +kernel
theorem dX3_readItem_34 : decode cX3_readItem 34 = .ok (.iconst 0, 1) := by decide +kernel
theorem dX3_readItem_35 : decode cX3_readItem 35 = .ok (.ireturn, 1) := by decide +kernel
theorem dX3_readItem_36 : decode cX3_readItem 36 = .ok (.aload_n 0, 1) := by decide +kernel
theorem dX3_readItem_37 : decode cX3_readItem 37 = .ok (.ldc 52, 2) := by decide +kernel
theorem dX3_readItem_39 : decode cX3_readItem 39 = .ok (.invokevirtual 54, 3) := by decide +kernel
theorem dX3_readItem_42 : decode cX3_readItem 42 = .ok (.ifCond .eq 9, 3) := by decide +kernel
theorem dX3_readItem_45 : decode cX3_readItem 45 = .ok (.aload_n 0, 1) := by decide +kernel
theorem dX3_readItem_46 : decode cX3_readItem 46 = .ok (.aload_n 1, 1) := by decide +kernel
theorem dX3_readItem_47 : decode cX3_readItem 47 = .ok (.invokevirtual 58, 3) := by decide +kernel
theorem dX3_readItem_50 : decode cX3_readItem 50 = .ok (.ireturn, 1) := by decide +kernel
theorem dX3_readItem_51 : decode cX3_readItem 51 = .ok (.aload_n 0, 1) := by decide +kernel
theorem dX3_readItem_52 : decode cX3_readItem 52 = .ok (.ldc 61, 2) := by decide +kernel
theorem dX3_readItem_54 : decode cX3_readItem 54 = .ok (.invokevirtual 54, 3) := by decide +kernel
theorem dX3_readItem_57 : decode cX3_readItem 57 = .ok (.ifCond .eq 26, 3) := by decide +kernel
theorem dX3_readItem_60 : decode cX3_readItem 60 = .ok (.aload_n 1, 1) := by decide +kernel
theorem dX3_readItem_61 : decode cX3_readItem 61 = .ok (.aload_n 0, 1) := by decide +kernel
theorem dX3_readItem_62 : decode cX3_readItem 62 = .ok (.bipush 99, 2) := by decide +kernel
theorem dX3_readItem_64 : decode cX3_readItem 64 = .ok (.invokevirtual 63, 3) := by decide +kernel
theorem dX3_readItem_67 : decode cX3_readItem 67 = .ok (.putfield 67, 3) := by decide +kernel
theorem dX3_readItem_70 : decode cX3_readItem 70 = .ok (.aload_n 1, 1) := by decide +kernel
theorem dX3_readItem_71 : decode cX3_readItem 71 = .ok (.getfield 67, 3) := by decide +kernel
theorem dX3_readItem_74 : decode cX3_readItem 74 = .ok (.ifCond .lt 7, 3) := by decide +kernel
theorem dX3_readItem_77 : decode cX3_readItem 77 = .ok (.iconst 1, 1) := by decide +kernel
theorem dX3_readItem_78 : decode cX3_readItem 78 = .ok (.goto 4, 3) := by decide +kernel
theorem dX3_readItem_81 : decode cX3_readItem 81 = .ok (.iconst 0, 1) := by decide +kernel
theorem dX3_readItem_82 : decode cX3_readItem 82 = .ok (.ireturn, 1) := by decide +kernel
theorem dX3_readItem_83 : decode cX3_readItem 83 = .ok (.aload_n 0, 1) := by decide +kernel
theorem dX3_readItem_84 : decode cX3_readItem 84 = .ok (.ldc 69, 2) := by decide +kernel
theorem dX3_readItem_86 : decode cX3_readItem 86 = .ok (.invokevirtual 54, 3) := by decide +kernel
theorem dX3_readItem_89 : decode cX3_readItem 89 = .ok (.ifCond .eq 26, 3) := by decide +kernel
theorem dX3_readItem_92 : decode cX3_readItem 92 = .ok (.aload_n 1, 1) := by decide +kernel
theorem dX3_readItem_93 : decode cX3_readItem 93 = .ok (.aload_n 0, 1) := by decide +kernel
theorem dX3_readItem_94 : decode cX3_readItem 94 = .ok (.bipush 9, 2) := by decide +kernel
theorem dX3_readItem_96 : decode cX3_readItem 96 = .ok (.invokevirtual 63, 3) := by decide +kernel
theorem dX3_readItem_99 : decode cX3_readItem 99 = .ok (.putfield 71, 3) := by decide +kernel
theorem dX3_readItem_102 : decode cX3_readItem 102 = .ok (.aload_n 1, 1) := by decide +kernel
theorem dX3_readItem_103 : decode cX3_readItem 103 = .ok (.getfield 71, 3) := by decide +kernel
theorem dX3_readItem_106 : decode cX3_readItem 106 = .ok (.ifCond .lt 7, 3) := by decide +kernel
theorem dX3_readItem_109 : decode cX3_readItem 109 = .ok (.iconst 1, 1) := by decide +kernel
theorem dX3_readItem_110 : decode cX3_readItem 110 = .ok (.goto 4, 3) := by decide +kernel
theorem dX3_readItem_113 : decode cX3_readItem 113 = .ok (.iconst 0, 1) := by decide +kernel
theorem dX3_readItem_114 : decode cX3_readItem 114 = .ok (.ireturn, 1) := by decide +kernel
theorem dX3_readItem_115 : decode cX3_readItem 115 = .ok (.iconst 0, 1) := by decide +kernel
theorem dX3_readItem_116 : decode cX3_readItem 116 = .ok (.ireturn, 1) := by decide +kernel
theorem dX3_readDish_0 : decode cX3_readDish 0 = .ok (.aload_n 0, 1) := by decide +kernel
theorem dX3_readDish_1 : decode cX3_readDish 1 = .ok (.invokevirtual 28, 3) := by decide +kernel
theorem dX3_readDish_4 : decode cX3_readDish 4 = .ok (.aload_n 0, 1) := by decide +kernel
theorem dX3_readDish_5 : decode cX3_readDish 5 = .ok (.ldc 73, 2) := by decide +kernel
theorem dX3_readDish_7 : decode cX3_readDish 7 = .ok (.invokevirtual 54, 3) := by decide +kernel
theorem dX3_readDish_10 : decode cX3_readDish 10 = .ok (.ifCond .eq 22, 3) := by decide +kernel
theorem dX3_readDish_13 : decode cX3_readDish 13 = .ok (.aload_n 1, 1) := by decide +kernel
theorem dX3_readDish_14 : decode cX3_readDish 14 = .ok (.aload_n 0, 1) := by decide +kernel
theorem dX3_readDish_15 : decode cX3_readDish 15 = .ok (.bipush 99, 2) := by decide +kernel
theorem dX3_readDish_17 : decode cX3_readDish 17 = .ok (.invokevirtual 63, 3) := by decide +kernel
theorem dX3_readDish_20 : decode cX3_readDish 20 = .ok (.putfield 75, 3) := by decide +kernel
theorem dX3_readDish_23 : decode cX3_readDish 23 = .ok (.aload_n 1, 1) := by decide +kernel
theorem dX3_readDish_24 : decode cX3_readDish 24 = .ok (.getfield 75, 3) := by decide +kernel
theorem dX3_readDish_27 : decode cX3_readDish 27 = .ok (.ifCond .ge 5, 3) := by decide +kernel
theorem dX3_readDish_30 : decode cX3_readDish 30 = .ok (.iconst 0, 1) := by decide +kernel
theorem dX3_readDish_31 : decode cX3_readDish 31 = .ok (.ireturn, 1) := by decide +kernel
theorem dX3_readDish_32 : decode cX3_readDish 32 = .ok (.aload_n 0, 1) := by decide +kernel
theorem dX3_readDish_33 : decode cX3_readDish 33 = .ok (.ldc 79, 2) := by decide +kernel
theorem dX3_readDish_35 : decode cX3_readDish 35 = .ok (.invokevirtual 54, 3) := by decide +kernel
theorem dX3_readDish_38 : decode cX3_readDish 38 = .ok (.ifCond .eq 22, 3) := by decide +kernel
theorem dX3_readDish_41 : decode cX3_readDish 41 = .ok (.aload_n 1, 1) := by decide +kernel
theorem dX3_readDish_42 : decode cX3_readDish 42 = .ok (.aload_n 0, 1) := by decide +kernel
theorem dX3_readDish_43 : decode cX3_readDish 43 = .ok (.bipush 99, 2) := by decide +kernel
theorem dX3_readDish_45 : decode cX3_readDish 45 = .ok (.invokevirtual 63, 3) := by decide +kernel
theorem dX3_readDish_48 : decode cX3_readDish 48 = .ok (.putfield 81, 3) := by decide +kernel
theorem dX3_readDish_51 : decode cX3_readDish 51 = .ok (.aload_n 1, 1) := by decide +kernel
theorem dX3_readDish_52 : decode cX3_readDish 52 = .ok (.getfield 81, 3) := by decide +kernel
theorem dX3_readDish_55 : decode cX3_readDish 55 = .ok (.ifCond .ge 5, 3) := by decide +kernel
theorem dX3_readDish_58 : decode cX3_readDish 58 = .ok (.iconst 0, 1) := by decide +kernel
theorem dX3_readDish_59 : decode cX3_readDish 59 = .ok (.ireturn, 1) := by decide +kernel
theorem dX3_readDish_60 : decode cX3_readDish 60 = .ok (.aload_n 1, 1) := by decide +kernel
theorem dX3_readDish_61 : decode cX3_readDish 61 = .ok (.aload_n 0, 1) := by decide +kernel
theorem dX3_readDish_62 : decode cX3_readDish 62 = .ok (.ldc 83, 2) := by decide +kernel
theorem dX3_readDish_64 : decode cX3_readDish 64 = .ok (.invokevirtual 54, 3) := by decide +kernel
theorem dX3_readDish_67 : decode cX3_readDish 67 = .ok (.ifCond .eq 7, 3) := by decide +kernel
theorem dX3_readDish_70 : decode cX3_readDish 70 = .ok (.iconst 1, 1) := by decide +kernel
theorem dX3_readDish_71 : decode cX3_readDish 71 = .ok (.goto 4, 3) := by decide +kernel
theorem dX3_readDish_74 : decode cX3_readDish 74 = .ok (.iconst 0, 1) := by decide +kernel
theorem dX3_readDish_75 : decode cX3_readDish 75 = .ok (.putfield 85, 3) := by decide +kernel
theorem dX3_readDish_78 : decode cX3_readDish 78 = .ok (.aload_n 1, 1) := by decide +kernel
theorem dX3_readDish_79 : decode cX3_readDish 79 = .ok (.aload_n 0, 1) := by decide +kernel
theorem dX3_readDish_80 : decode cX3_readDish 80 = .ok (.ldc 87, 2) := by decide +kernel
theorem dX3_readDish_82 : decode cX3_readDish 82 = .ok (.invokevirtual 54, 3) := by decide +kernel
theorem dX3_readDish_85 : decode cX3_readDish 85 = .ok (.ifCond .eq 7, 3) := by decide +kernel
theorem dX3_readDish_88 : decode cX3_readDish 88 = .ok (.iconst 1, 1) := by decide +kernel
theorem dX3_readDish_89 : decode cX3_readDish 89 = .ok (.goto 4, 3) := by decide +kernel
theorem dX3_readDish_92 : decode cX3_readDish 92 = .ok (.iconst 0, 1) := by decide +kernel
theorem dX3_readDish_93 : decode cX3_readDish 93 = .ok (.putfield 89, 3) := by decide +kernel
theorem dX3_readDish_96 : decode cX3_readDish 96 = .ok (.iconst 1, 1) := by decide +kernel
theorem dX3_readDish_97 : decode cX3_readDish 97 = .ok (.ireturn, 1) := by decide +kernel
theorem dX3_readDeed_0 : decode cX3_readDeed 0 = .ok (.aload_n 0, 1) := by decide +kernel
theorem dX3_readDeed_1 : decode cX3_readDeed 1 = .ok (.iconst 5, 1) := by decide +kernel
theorem dX3_readDeed_2 : decode cX3_readDeed 2 = .ok (.invokevirtual 63, 3) := by decide +kernel
theorem dX3_readDeed_5 : decode cX3_readDeed 5 = .ok (.istore_n 2, 1) := by decide +kernel
theorem dX3_readDeed_6 : decode cX3_readDeed 6 = .ok (.iload_n 2, 1) := by decide +kernel
theorem dX3_readDeed_7 : decode cX3_readDeed 7 = .ok (.ifCond .ge 5, 3) := by decide +kernel
theorem dX3_readDeed_10 : decode cX3_readDeed 10 = .ok (.iconst 0, 1) := by decide +kernel
theorem dX3_readDeed_11 : decode cX3_readDeed 11 = .ok (.ireturn, 1) := by decide +kernel
theorem dX3_readDeed_12 : decode cX3_readDeed 12 = .ok (.aload_n 0, 1) := by decide +kernel
theorem dX3_readDeed_13 : decode cX3_readDeed 13 = .ok (.bipush 11, 2) := by decide +kernel
theorem dX3_readDeed_15 : decode cX3_readDeed 15 = .ok (.invokevirtual 63, 3) := by decide +kernel
theorem dX3_readDeed_18 : decode cX3_readDeed 18 = .ok (.istore_n 3, 1) := by decide +kernel
theorem dX3_readDeed_19 : decode cX3_readDeed 19 = .ok (.iload_n 3, 1) := by decide +kernel
theorem dX3_readDeed_20 : decode cX3_readDeed 20 = .ok (.ifCond .ge 5, 3) := by decide +kernel
theorem dX3_readDeed_23 : decode cX3_readDeed 23 = .ok (.iconst 0, 1) := by decide +kernel
theorem dX3_readDeed_24 : decode cX3_readDeed 24 = .ok (.ireturn, 1) := by decide +kernel
theorem dX3_readDeed_25 : decode cX3_readDeed 25 = .ok (.aload_n 1, 1) := by decide +kernel
theorem dX3_readDeed_26 : decode cX3_readDeed 26 = .ok (.getfield 91, 3) := by decide +kernel
theorem dX3_readDeed_29 : decode cX3_readDeed 29 = .ok (.iload_n 2, 1) := by decide +kernel
theorem dX3_readDeed_30 : decode cX3_readDeed 30 = .ok (.iload_n 3, 1) := by decide +kernel
theorem dX3_readDeed_31 : decode cX3_readDeed 31 = .ok (.iastore, 1) := by decide +kernel
theorem dX3_readDeed_32 : decode cX3_readDeed 32 = .ok (.iconst 1, 1) := by decide +kernel
theorem dX3_readDeed_33 : decode cX3_readDeed 33 = .ok (.ireturn, 1) := by decide +kernel
theorem dX3_readNumber_0 : decode cX3_readNumber 0 = .ok (.aload_n 0, 1) := by decide +kernel
theorem dX3_readNumber_1 : decode cX3_readNumber 1 = .ok (.getfield 19, 3) := by decide +kernel
theorem dX3_readNumber_4 : decode cX3_readNumber 4 = .ok (.iconst 1, 1) := by decide +kernel
theorem dX3_readNumber_5 : decode cX3_readNumber 5 = .ok (.if_icmp .eq 5, 3) := by decide +kernel
theorem dX3_readNumber_8 : decode cX3_readNumber 8 = .ok (.iconst (-1), 1) := by decide +kernel
theorem dX3_readNumber_9 : decode cX3_readNumber 9 = .ok (.ireturn, 1) := by decide +kernel
theorem dX3_readNumber_10 : decode cX3_readNumber 10 = .ok (.aload_n 0, 1) := by decide +kernel
theorem dX3_readNumber_11 : decode cX3_readNumber 11 = .ok (.invokevirtual 95, 3) := by decide +kernel
theorem dX3_readNumber_14 : decode cX3_readNumber 14 = .ok (.istore_n 2, 1) := by decide +kernel
theorem dX3_readNumber_15 : decode cX3_readNumber 15 = .ok (.iload_n 2, 1) := by decide +kernel
theorem dX3_readNumber_16 : decode cX3_readNumber 16 = .ok (.iload_n 1, 1) := by decide +kernel
theorem dX3_readNumber_17 : decode cX3_readNumber 17 = .ok (.if_icmp .le 5, 3) := by decide +kernel
theorem dX3_readNumber_20 : decode cX3_readNumber 20 = .ok (.iconst (-1), 1) := by decide +kernel
theorem dX3_readNumber_21 : decode cX3_readNumber 21 = .ok (.ireturn, 1) := by decide +kernel
theorem dX3_readNumber_22 : decode cX3_readNumber 22 = .ok (.aload_n 0, 1) := by decide +kernel
theorem dX3_readNumber_23 : decode cX3_readNumber 23 = .ok (.invokevirtual 28, 3) := by decide +kernel
theorem dX3_readNumber_26 : decode cX3_readNumber 26 = .ok (.iload_n 2, 1) := by decide +kernel
theorem dX3_readNumber_27 : decode cX3_readNumber 27 = .ok (.ireturn, 1) := by decide +kernel
theorem dX3_skipWord_0 : decode cX3_skipWord 0 = .ok (.aload_n 0, 1) := by decide +kernel
theorem dX3_skipWord_1 : decode cX3_skipWord 1 = .ok (.aload_n 1, 1) := by decide +kernel
theorem dX3_skipWord_2 : decode cX3_skipWord 2 = .ok (.invokevirtual 98, 3) := by decide +kernel
theorem dX3_skipWord_5 : decode cX3_skipWord 5 = .ok (.ifCond .ne 5, 3) := by decide +kernel
theorem dX3_skipWord_8 : decode cX3_skipWord 8 = .ok (.iconst 0, 1) := by decide +kernel
theorem dX3_skipWord_9 : decode cX3_skipWord 9 = .ok (.ireturn, 1) := by decide +kernel
theorem dX3_skipWord_10 : decode cX3_skipWord 10 = .ok (.aload_n 0, 1) := by decide +kernel
theorem dX3_skipWord_11 : decode cX3_skipWord 11 = .ok (.invokevirtual 28, 3) := by decide +kernel
theorem dX3_skipWord_14 : decode cX3_skipWord 14 = .ok (.iconst 1, 1) := by decide +kernel
theorem dX3_skipWord_15 : decode cX3_skipWord 15 = .ok (.ireturn, 1) := by decide +kernel
theorem dX3_kindNamed_0 : decode cX3_kindNamed 0 = .ok (.aload_n 0, 1) := by decide +kernel
theorem dX3_kindNamed_1 : decode cX3_kindNamed 1 = .ok (.ldc 101, 2) := by decide +kernel
theorem dX3_kindNamed_3 : decode cX3_kindNamed 3 = .ok (.invokevirtual 98, 3) := by decide +kernel
theorem dX3_kindNamed_6 : decode cX3_kindNamed 6 = .ok (.ifCond .eq 5, 3) := by decide +kernel
theorem dX3_kindNamed_9 : decode cX3_kindNamed 9 = .ok (.iconst 0, 1) := by decide +kernel
theorem dX3_kindNamed_10 : decode cX3_kindNamed 10 = .ok (.ireturn, 1) := by decide +kernel
theorem dX3_kindNamed_11 : decode cX3_kindNamed 11 = .ok (.aload_n 0, 1) := by decide +kernel
theorem dX3_kindNamed_12 : decode cX3_kindNamed 12 = .ok (.ldc 103, 2) := by decide +kernel
theorem dX3_kindNamed_14 : decode cX3_kindNamed 14 = .ok (.invokevirtual 98, 3) := by decide +kernel
theorem dX3_kindNamed_17 : decode cX3_kindNamed 17 = .ok (.ifCond .eq 5, 3) := by decide +kernel
theorem dX3_kindNamed_20 : decode cX3_kindNamed 20 = .ok (.iconst 1, 1) := by decide +kernel
theorem dX3_kindNamed_21 : decode cX3_kindNamed 21 = .ok (.ireturn, 1) := by decide +kernel
theorem dX3_kindNamed_22 : decode cX3_kindNamed 22 = .ok (.aload_n 0, 1) := by decide +kernel
theorem dX3_kindNamed_23 : decode cX3_kindNamed 23 = .ok (.ldc 105, 2) := by decide +kernel
theorem dX3_kindNamed_25 : decode cX3_kindNamed 25 = .ok (.invokevirtual 98, 3) := by decide +kernel
theorem dX3_kindNamed_28 : decode cX3_kindNamed 28 = .ok (.ifCond .eq 5, 3) := by decide +kernel
theorem dX3_kindNamed_31 : decode cX3_kindNamed 31 = .ok (.iconst 2, 1) := by decide +kernel
theorem dX3_kindNamed_32 : decode cX3_kindNamed 32 = .ok (.ireturn, 1) := by decide +kernel
theorem dX3_kindNamed_33 : decode cX3_kindNamed 33 = .ok (.aload_n 0, 1) := by decide +kernel
theorem dX3_kindNamed_34 : decode cX3_kindNamed 34 = .ok (.ldc 107, 2) := by decide +kernel
theorem dX3_kindNamed_36 : decode cX3_kindNamed 36 = .ok (.invokevirtual 98, 3) := by decide +kernel
theorem dX3_kindNamed_39 : decode cX3_kindNamed 39 = .ok (.ifCond .eq 5, 3) := by decide +kernel
theorem dX3_kindNamed_42 : decode cX3_kindNamed 42 = .ok (.iconst 3, 1) := by decide +kernel
theorem dX3_kindNamed_43 : decode cX3_kindNamed 43 = .ok (.ireturn, 1) := by decide +kernel
theorem dX3_kindNamed_44 : decode cX3_kindNamed 44 = .ok (.aload_n 0, 1) := by decide +kernel
theorem dX3_kindNamed_45 : decode cX3_kindNamed 45 = .ok (.ldc 109, 2) := by decide +kernel
theorem dX3_kindNamed_47 : decode cX3_kindNamed 47 = .ok (.invokevirtual 98, 3) := by decide +kernel
theorem dX3_kindNamed_50 : decode cX3_kindNamed 50 = .ok (.ifCond .eq 5, 3) := by decide +kernel
theorem dX3_kindNamed_53 : decode cX3_kindNamed 53 = .ok (.iconst 4, 1) := by decide +kernel
theorem dX3_kindNamed_54 : decode cX3_kindNamed 54 = .ok (.ireturn, 1) := by decide +kernel
theorem dX3_kindNamed_55 : decode cX3_kindNamed 55 = .ok (.aload_n 0, 1) := by decide +kernel
theorem dX3_kindNamed_56 : decode cX3_kindNamed 56 = .ok (.ldc 111, 2) := by decide +kernel
theorem dX3_kindNamed_58 : decode cX3_kindNamed 58 = .ok (.invokevirtual 98, 3) := by decide +kernel
theorem dX3_kindNamed_61 : decode cX3_kindNamed 61 = .ok (.ifCond .eq 5, 3) := by decide +kernel
theorem dX3_kindNamed_64 : decode cX3_kindNamed 64 = .ok (.iconst 5, 1) := by decide +kernel
theorem dX3_kindNamed_65 : decode cX3_kindNamed 65 = .ok (.ireturn, 1) := by decide +kernel
theorem dX3_kindNamed_66 : decode cX3_kindNamed 66 = .ok (.aload_n 0, 1) := by decide +kernel
theorem dX3_kindNamed_67 : decode cX3_kindNamed 67 = .ok (.ldc 113, 2) := by decide +kernel
theorem dX3_kindNamed_69 : decode cX3_kindNamed 69 = .ok (.invokevirtual 98, 3) := by decide +kernel
theorem dX3_kindNamed_72 : decode cX3_kindNamed 72 = .ok (.ifCond .eq 8, 3) := by decide +kernel
theorem dX3_kindNamed_75 : decode cX3_kindNamed 75 = .ok (.bipush 6, 2) := by decide +kernel
theorem dX3_kindNamed_77 : decode cX3_kindNamed 77 = .ok (.goto 4, 3) := by decide +kernel
theorem dX3_kindNamed_80 : decode cX3_kindNamed 80 = .ok (.iconst (-1), 1) := by decide +kernel
theorem dX3_kindNamed_81 : decode cX3_kindNamed 81 = .ok (.ireturn, 1) := by decide +kernel
theorem dX3_isWord_0 : decode cX3_isWord 0 = .ok (.aload_n 0, 1) := by decide +kernel
theorem dX3_isWord_1 : decode cX3_isWord 1 = .ok (.getfield 19, 3) := by decide +kernel
theorem dX3_isWord_4 : decode cX3_isWord 4 = .ok (.ifCond .ne 19, 3) := by decide +kernel
theorem dX3_isWord_7 : decode cX3_isWord 7 = .ok (.aload_n 0, 1) := by decide +kernel
theorem dX3_isWord_8 : decode cX3_isWord 8 = .ok (.getfield 25, 3) := by decide +kernel
theorem dX3_isWord_11 : decode cX3_isWord 11 = .ok (.aload_n 0, 1) := by decide +kernel
theorem dX3_isWord_12 : decode cX3_isWord 12 = .ok (.getfield 22, 3) := by decide +kernel
theorem dX3_isWord_15 : decode cX3_isWord 15 = .ok (.isub, 1) := by decide +kernel
theorem dX3_isWord_16 : decode cX3_isWord 16 = .ok (.aload_n 1, 1) := by decide +kernel
theorem dX3_isWord_17 : decode cX3_isWord 17 = .ok (.invokevirtual 115, 3) := by decide +kernel
theorem dX3_isWord_20 : decode cX3_isWord 20 = .ok (.if_icmp .eq 5, 3) := by decide +kernel
theorem dX3_isWord_23 : decode cX3_isWord 23 = .ok (.iconst 0, 1) := by decide +kernel
theorem dX3_isWord_24 : decode cX3_isWord 24 = .ok (.ireturn, 1) := by decide +kernel
theorem dX3_isWord_25 : decode cX3_isWord 25 = .ok (.iconst 0, 1) := by decide +kernel
theorem dX3_isWord_26 : decode cX3_isWord 26 = .ok (.istore_n 2, 1) := by decide +kernel
theorem dX3_isWord_27 : decode cX3_isWord 27 = .ok (.iload_n 2, 1) := by decide +kernel
theorem dX3_isWord_28 : decode cX3_isWord 28 = .ok (.aload_n 1, 1) := by decide +kernel
theorem dX3_isWord_29 : decode cX3_isWord 29 = .ok (.invokevirtual 115, 3) := by decide +kernel
theorem dX3_isWord_32 : decode cX3_isWord 32 = .ok (.if_icmp .ge 30, 3) := by decide +kernel
theorem dX3_isWord_35 : decode cX3_isWord 35 = .ok (.aload_n 0, 1) := by decide +kernel
theorem dX3_isWord_36 : decode cX3_isWord 36 = .ok (.getfield 9, 3) := by decide +kernel
theorem dX3_isWord_39 : decode cX3_isWord 39 = .ok (.aload_n 0, 1) := by decide +kernel
theorem dX3_isWord_40 : decode cX3_isWord 40 = .ok (.getfield 22, 3) := by decide +kernel
theorem dX3_isWord_43 : decode cX3_isWord 43 = .ok (.iload_n 2, 1) := by decide +kernel
theorem dX3_isWord_44 : decode cX3_isWord 44 = .ok (.iadd, 1) := by decide +kernel
theorem dX3_isWord_45 : decode cX3_isWord 45 = .ok (.baload, 1) := by decide +kernel
theorem dX3_isWord_46 : decode cX3_isWord 46 = .ok (.aload_n 1, 1) := by decide +kernel
theorem dX3_isWord_47 : decode cX3_isWord 47 = .ok (.iload_n 2, 1) := by decide +kernel
theorem dX3_isWord_48 : decode cX3_isWord 48 = .ok (.invokevirtual 119, 3) := by decide +kernel
theorem dX3_isWord_51 : decode cX3_isWord 51 = .ok (.if_icmp .eq 5, 3) := by decide +kernel
theorem dX3_isWord_54 : decode cX3_isWord 54 = .ok (.iconst 0, 1) := by decide +kernel
theorem dX3_isWord_55 : decode cX3_isWord 55 = .ok (.ireturn, 1) := by decide +kernel
theorem dX3_isWord_56 : decode cX3_isWord 56 = .ok (.iinc 2 1, 3) := by decide +kernel
theorem dX3_isWord_59 : decode cX3_isWord 59 = .ok (.goto (-32), 3) := by decide +kernel
theorem dX3_isWord_62 : decode cX3_isWord 62 = .ok (.iconst 1, 1) := by decide +kernel
theorem dX3_isWord_63 : decode cX3_isWord 63 = .ok (.ireturn, 1) := by decide +kernel
theorem dX3_nextToken_0 : decode cX3_nextToken 0 = .ok (.aload_n 0, 1) := by decide +kernel
theorem dX3_nextToken_1 : decode cX3_nextToken 1 = .ok (.aload_n 0, 1) := by decide +kernel
theorem dX3_nextToken_2 : decode cX3_nextToken 2 = .ok (.getfield 25, 3) := by decide +kernel
theorem dX3_nextToken_5 : decode cX3_nextToken 5 = .ok (.putfield 22, 3) := by decide +kernel
theorem dX3_nextToken_8 : decode cX3_nextToken 8 = .ok (.aload_n 0, 1) := by decide +kernel
theorem dX3_nextToken_9 : decode cX3_nextToken 9 = .ok (.getfield 22, 3) := by decide +kernel
theorem dX3_nextToken_12 : decode cX3_nextToken 12 = .ok (.aload_n 0, 1) := by decide +kernel
theorem dX3_nextToken_13 : decode cX3_nextToken 13 = .ok (.getfield 15, 3) := by decide +kernel
theorem dX3_nextToken_16 : decode cX3_nextToken 16 = .ok (.if_icmp .ge 30, 3) := by decide +kernel
theorem dX3_nextToken_19 : decode cX3_nextToken 19 = .ok (.aload_n 0, 1) := by decide +kernel
theorem dX3_nextToken_20 : decode cX3_nextToken 20 = .ok (.getfield 9, 3) := by decide +kernel
theorem dX3_nextToken_23 : decode cX3_nextToken 23 = .ok (.aload_n 0, 1) := by decide +kernel
theorem dX3_nextToken_24 : decode cX3_nextToken 24 = .ok (.getfield 22, 3) := by decide +kernel
theorem dX3_nextToken_27 : decode cX3_nextToken 27 = .ok (.baload, 1) := by decide +kernel
theorem dX3_nextToken_28 : decode cX3_nextToken 28 = .ok (.bipush 32, 2) := by decide +kernel
theorem dX3_nextToken_30 : decode cX3_nextToken 30 = .ok (.if_icmp .ne 16, 3) := by decide +kernel
theorem dX3_nextToken_33 : decode cX3_nextToken 33 = .ok (.aload_n 0, 1) := by decide +kernel
theorem dX3_nextToken_34 : decode cX3_nextToken 34 = .ok (.dup, 1) := by decide +kernel
theorem dX3_nextToken_35 : decode cX3_nextToken 35 = .ok (.getfield 22, 3) := by decide +kernel
theorem dX3_nextToken_38 : decode cX3_nextToken 38 = .ok (.iconst 1, 1) := by decide +kernel
theorem dX3_nextToken_39 : decode cX3_nextToken 39 = .ok (.iadd, 1) := by decide +kernel
theorem dX3_nextToken_40 : decode cX3_nextToken 40 = .ok (.putfield 22, 3) := by decide +kernel
theorem dX3_nextToken_43 : decode cX3_nextToken 43 = .ok (.goto (-35), 3) := by decide +kernel
theorem dX3_nextToken_46 : decode cX3_nextToken 46 = .ok (.aload_n 0, 1) := by decide +kernel
theorem dX3_nextToken_47 : decode cX3_nextToken 47 = .ok (.getfield 22, 3) := by decide +kernel
theorem dX3_nextToken_50 : decode cX3_nextToken 50 = .ok (.aload_n 0, 1) := by decide +kernel
theorem dX3_nextToken_51 : decode cX3_nextToken 51 = .ok (.getfield 15, 3) := by decide +kernel
theorem dX3_nextToken_54 : decode cX3_nextToken 54 = .ok (.if_icmp .lt 17, 3) := by decide +kernel
theorem dX3_nextToken_57 : decode cX3_nextToken 57 = .ok (.aload_n 0, 1) := by decide +kernel
theorem dX3_nextToken_58 : decode cX3_nextToken 58 = .ok (.iconst 3, 1) := by decide +kernel
theorem dX3_nextToken_59 : decode cX3_nextToken 59 = .ok (.putfield 19, 3) := by decide +kernel
theorem dX3_nextToken_62 : decode cX3_nextToken 62 = .ok (.aload_n 0, 1) := by decide +kernel
theorem dX3_nextToken_63 : decode cX3_nextToken 63 = .ok (.aload_n 0, 1) := by decide +kernel
theorem dX3_nextToken_64 : decode cX3_nextToken 64 = .ok (.getfield 22, 3) := by decide +kernel
theorem dX3_nextToken_67 : decode cX3_nextToken 67 = .ok (.putfield 25, 3) := by decide +kernel
theorem dX3_nextToken_70 : decode cX3_nextToken 70 = .ok (.return_, 1) := by decide +kernel
theorem dX3_nextToken_71 : decode cX3_nextToken 71 = .ok (.aload_n 0, 1) := by decide +kernel
theorem dX3_nextToken_72 : decode cX3_nextToken 72 = .ok (.aload_n 0, 1) := by decide +kernel
theorem dX3_nextToken_73 : decode cX3_nextToken 73 = .ok (.getfield 9, 3) := by decide +kernel
theorem dX3_nextToken_76 : decode cX3_nextToken 76 = .ok (.aload_n 0, 1) := by decide +kernel
theorem dX3_nextToken_77 : decode cX3_nextToken 77 = .ok (.getfield 22, 3) := by decide +kernel
theorem dX3_nextToken_80 : decode cX3_nextToken 80 = .ok (.baload, 1) := by decide +kernel
theorem dX3_nextToken_81 : decode cX3_nextToken 81 = .ok (.invokestatic 123, 3) := by decide +kernel
theorem dX3_nextToken_84 : decode cX3_nextToken 84 = .ok (.putfield 19, 3) := by decide +kernel
theorem dX3_nextToken_87 : decode cX3_nextToken 87 = .ok (.aload_n 0, 1) := by decide +kernel
theorem dX3_nextToken_88 : decode cX3_nextToken 88 = .ok (.aload_n 0, 1) := by decide +kernel
theorem dX3_nextToken_89 : decode cX3_nextToken 89 = .ok (.getfield 22, 3) := by decide +kernel
theorem dX3_nextToken_92 : decode cX3_nextToken 92 = .ok (.iconst 1, 1) := by decide +kernel
theorem dX3_nextToken_93 : decode cX3_nextToken 93 = .ok (.iadd, 1) := by decide +kernel
theorem dX3_nextToken_94 : decode cX3_nextToken 94 = .ok (.putfield 25, 3) := by decide +kernel
theorem dX3_nextToken_97 : decode cX3_nextToken 97 = .ok (.aload_n 0, 1) := by decide +kernel
theorem dX3_nextToken_98 : decode cX3_nextToken 98 = .ok (.getfield 19, 3) := by decide +kernel
theorem dX3_nextToken_101 : decode cX3_nextToken 101 = .ok (.ifCond .eq 11, 3) := by decide +kernel
theorem dX3_nextToken_104 : decode cX3_nextToken 104 = .ok (.aload_n 0, 1) := by decide +kernel
theorem dX3_nextToken_105 : decode cX3_nextToken 105 = .ok (.getfield 19, 3) := by decide +kernel
theorem dX3_nextToken_108 : decode cX3_nextToken 108 = .ok (.iconst 1, 1) := by decide +kernel
theorem dX3_nextToken_109 : decode cX3_nextToken 109 = .ok (.if_icmp .ne 7, 3) := by decide +kernel
theorem dX3_nextToken_112 : decode cX3_nextToken 112 = .ok (.iconst 1, 1) := by decide +kernel
theorem dX3_nextToken_113 : decode cX3_nextToken 113 = .ok (.goto 4, 3) := by decide +kernel
theorem dX3_nextToken_116 : decode cX3_nextToken 116 = .ok (.iconst 0, 1) := by decide +kernel
theorem dX3_nextToken_117 : decode cX3_nextToken 117 = .ok (.istore_n 1, 1) := by decide +kernel
theorem dX3_nextToken_118 : decode cX3_nextToken 118 = .ok (.iload_n 1, 1) := by decide +kernel
theorem dX3_nextToken_119 : decode cX3_nextToken 119 = .ok (.ifCond .eq 46, 3) := by decide +kernel
theorem dX3_nextToken_122 : decode cX3_nextToken 122 = .ok (.aload_n 0, 1) := by decide +kernel
theorem dX3_nextToken_123 : decode cX3_nextToken 123 = .ok (.getfield 25, 3) := by decide +kernel
theorem dX3_nextToken_126 : decode cX3_nextToken 126 = .ok (.aload_n 0, 1) := by decide +kernel
theorem dX3_nextToken_127 : decode cX3_nextToken 127 = .ok (.getfield 15, 3) := by decide +kernel
theorem dX3_nextToken_130 : decode cX3_nextToken 130 = .ok (.if_icmp .ge 35, 3) := by decide +kernel
theorem dX3_nextToken_133 : decode cX3_nextToken 133 = .ok (.aload_n 0, 1) := by decide +kernel
theorem dX3_nextToken_134 : decode cX3_nextToken 134 = .ok (.getfield 9, 3) := by decide +kernel
theorem dX3_nextToken_137 : decode cX3_nextToken 137 = .ok (.aload_n 0, 1) := by decide +kernel
theorem dX3_nextToken_138 : decode cX3_nextToken 138 = .ok (.getfield 25, 3) := by decide +kernel
theorem dX3_nextToken_141 : decode cX3_nextToken 141 = .ok (.baload, 1) := by decide +kernel
theorem dX3_nextToken_142 : decode cX3_nextToken 142 = .ok (.invokestatic 123, 3) := by decide +kernel
theorem dX3_nextToken_145 : decode cX3_nextToken 145 = .ok (.aload_n 0, 1) := by decide +kernel
theorem dX3_nextToken_146 : decode cX3_nextToken 146 = .ok (.getfield 19, 3) := by decide +kernel
theorem dX3_nextToken_149 : decode cX3_nextToken 149 = .ok (.if_icmp .ne 16, 3) := by decide +kernel
theorem dX3_nextToken_152 : decode cX3_nextToken 152 = .ok (.aload_n 0, 1) := by decide +kernel
theorem dX3_nextToken_153 : decode cX3_nextToken 153 = .ok (.dup, 1) := by decide +kernel
theorem dX3_nextToken_154 : decode cX3_nextToken 154 = .ok (.getfield 25, 3) := by decide +kernel
theorem dX3_nextToken_157 : decode cX3_nextToken 157 = .ok (.iconst 1, 1) := by decide +kernel
theorem dX3_nextToken_158 : decode cX3_nextToken 158 = .ok (.iadd, 1) := by decide +kernel
theorem dX3_nextToken_159 : decode cX3_nextToken 159 = .ok (.putfield 25, 3) := by decide +kernel
theorem dX3_nextToken_162 : decode cX3_nextToken 162 = .ok (.goto (-44), 3) := by decide +kernel
theorem dX3_nextToken_165 : decode cX3_nextToken 165 = .ok (.return_, 1) := by decide +kernel
theorem dX3_sortOf_0 : decode cX3_sortOf 0 = .ok (.iload_n 0, 1) := by decide +kernel
theorem dX3_sortOf_1 : decode cX3_sortOf 1 = .ok (.bipush 97, 2) := by decide +kernel
theorem dX3_sortOf_3 : decode cX3_sortOf 3 = .ok (.if_icmp .lt 11, 3) := by decide +kernel
theorem dX3_sortOf_6 : decode cX3_sortOf 6 = .ok (.iload_n 0, 1) := by decide +kernel
theorem dX3_sortOf_7 : decode cX3_sortOf 7 = .ok (.bipush 122, 2) := by decide +kernel
theorem dX3_sortOf_9 : decode cX3_sortOf 9 = .ok (.if_icmp .gt 5, 3) := by decide +kernel
theorem dX3_sortOf_12 : decode cX3_sortOf 12 = .ok (.iconst 0, 1) := by decide +kernel
theorem dX3_sortOf_13 : decode cX3_sortOf 13 = .ok (.ireturn, 1) := by decide +kernel
theorem dX3_sortOf_14 : decode cX3_sortOf 14 = .ok (.iload_n 0, 1) := by decide +kernel
theorem dX3_sortOf_15 : decode cX3_sortOf 15 = .ok (.bipush 48, 2) := by decide +kernel
theorem dX3_sortOf_17 : decode cX3_sortOf 17 = .ok (.if_icmp .lt 11, 3) := by decide +kernel
theorem dX3_sortOf_20 : decode cX3_sortOf 20 = .ok (.iload_n 0, 1) := by decide +kernel
theorem dX3_sortOf_21 : decode cX3_sortOf 21 = .ok (.bipush 57, 2) := by decide +kernel
theorem dX3_sortOf_23 : decode cX3_sortOf 23 = .ok (.if_icmp .gt 5, 3) := by decide +kernel
theorem dX3_sortOf_26 : decode cX3_sortOf 26 = .ok (.iconst 1, 1) := by decide +kernel
theorem dX3_sortOf_27 : decode cX3_sortOf 27 = .ok (.ireturn, 1) := by decide +kernel
theorem dX3_sortOf_28 : decode cX3_sortOf 28 = .ok (.iload_n 0, 1) := by decide +kernel
theorem dX3_sortOf_29 : decode cX3_sortOf 29 = .ok (.bipush 59, 2) := by decide +kernel
theorem dX3_sortOf_31 : decode cX3_sortOf 31 = .ok (.if_icmp .ne 7, 3) := by decide +kernel
theorem dX3_sortOf_34 : decode cX3_sortOf 34 = .ok (.iconst 2, 1) := by decide +kernel
theorem dX3_sortOf_35 : decode cX3_sortOf 35 = .ok (.goto 4, 3) := by decide +kernel
theorem dX3_sortOf_38 : decode cX3_sortOf 38 = .ok (.iconst 4, 1) := by decide +kernel
theorem dX3_sortOf_39 : decode cX3_sortOf 39 = .ok (.ireturn, 1) := by decide +kernel
theorem dX3_valueOfToken_0 : decode cX3_valueOfToken 0 = .ok (.iconst 0, 1) := by decide +kernel
theorem dX3_valueOfToken_1 : decode cX3_valueOfToken 1 = .ok (.istore_n 1, 1) := by decide +kernel
theorem dX3_valueOfToken_2 : decode cX3_valueOfToken 2 = .ok (.aload_n 0, 1) := by decide +kernel
theorem dX3_valueOfToken_3 : decode cX3_valueOfToken 3 = .ok (.getfield 22, 3) := by decide +kernel
theorem dX3_valueOfToken_6 : decode cX3_valueOfToken 6 = .ok (.istore_n 2, 1) := by decide +kernel
theorem dX3_valueOfToken_7 : decode cX3_valueOfToken 7 = .ok (.iload_n 2, 1) := by decide +kernel
theorem dX3_valueOfToken_8 : decode cX3_valueOfToken 8 = .ok (.aload_n 0, 1) := by decide +kernel
theorem dX3_valueOfToken_9 : decode cX3_valueOfToken 9 = .ok (.getfield 25, 3) := by decide +kernel
theorem dX3_valueOfToken_12 : decode cX3_valueOfToken 12 = .ok (.if_icmp .ge 30, 3) := by decide +kernel
theorem dX3_valueOfToken_15 : decode cX3_valueOfToken 15 = .ok (.sipush 1000, 3) := by decide +kernel
theorem dX3_valueOfToken_18 : decode cX3_valueOfToken 18 = .ok (.iload_n 1, 1) := by decide +kernel
theorem dX3_valueOfToken_19 : decode cX3_valueOfToken 19 = .ok (.bipush 10, 2) := by decide +kernel
theorem dX3_valueOfToken_21 : decode cX3_valueOfToken 21 = .ok (.imul, 1) := by decide +kernel
theorem dX3_valueOfToken_22 : decode cX3_valueOfToken 22 = .ok (.aload_n 0, 1) := by decide +kernel
theorem dX3_valueOfToken_23 : decode cX3_valueOfToken 23 = .ok (.getfield 9, 3) := by decide +kernel
theorem dX3_valueOfToken_26 : decode cX3_valueOfToken 26 = .ok (.iload_n 2, 1) := by decide +kernel
theorem dX3_valueOfToken_27 : decode cX3_valueOfToken 27 = .ok (.baload, 1) := by decide +kernel
theorem dX3_valueOfToken_28 : decode cX3_valueOfToken 28 = .ok (.iadd, 1) := by decide +kernel
theorem dX3_valueOfToken_29 : decode cX3_valueOfToken 29 = .ok (.bipush 48, 2) := by decide +kernel
theorem dX3_valueOfToken_31 : decode cX3_valueOfToken 31 = .ok (.isub, 1) := by decide +kernel
theorem dX3_valueOfToken_32 : decode cX3_valueOfToken 32 = .ok (.invokestatic 127, 3) := by decide +kernel
theorem dX3_valueOfToken_35 : decode cX3_valueOfToken 35 = .ok (.istore_n 1, 1) := by decide +kernel
theorem dX3_valueOfToken_36 : decode cX3_valueOfToken 36 = .ok (.iinc 2 1, 3) := by decide +kernel
theorem dX3_valueOfToken_39 : decode cX3_valueOfToken 39 = .ok (.goto (-32), 3) := by decide +kernel
theorem dX3_valueOfToken_42 : decode cX3_valueOfToken 42 = .ok (.iload_n 1, 1) := by decide +kernel
theorem dX3_valueOfToken_43 : decode cX3_valueOfToken 43 = .ok (.ireturn, 1) := by decide +kernel
theorem dJ6_bitCount_0f7a4_0 : decode cJ6_bitCount_0f7a4 0 = .ok (.iload_n 0, 1) := by decide +kernel
theorem dJ6_bitCount_0f7a4_1 : decode cJ6_bitCount_0f7a4 1 = .ok (.iload_n 0, 1) := by decide +kernel
theorem dJ6_bitCount_0f7a4_2 : decode cJ6_bitCount_0f7a4 2 = .ok (.iconst 1, 1) := by decide +kernel
theorem dJ6_bitCount_0f7a4_3 : decode cJ6_bitCount_0f7a4 3 = .ok (.iushr, 1) := by decide +kernel
theorem dJ6_bitCount_0f7a4_4 : decode cJ6_bitCount_0f7a4 4 = .ok (.ldc_w 265, 3) := by decide +kernel
theorem dJ6_bitCount_0f7a4_7 : decode cJ6_bitCount_0f7a4 7 = .ok (.iand, 1) := by decide +kernel
theorem dJ6_bitCount_0f7a4_8 : decode cJ6_bitCount_0f7a4 8 = .ok (.isub, 1) := by decide +kernel
theorem dJ6_bitCount_0f7a4_9 : decode cJ6_bitCount_0f7a4 9 = .ok (.istore_n 0, 1) := by decide +kernel
theorem dJ6_bitCount_0f7a4_10 : decode cJ6_bitCount_0f7a4 10 = .ok (.iload_n 0, 1) := by decide +kernel
theorem dJ6_bitCount_0f7a4_11 : decode cJ6_bitCount_0f7a4 11 = .ok (.ldc_w 266, 3) := by decide +kernel
theorem dJ6_bitCount_0f7a4_14 : decode cJ6_bitCount_0f7a4 14 = .ok (.iand, 1) := by decide +kernel
theorem dJ6_bitCount_0f7a4_15 : decode cJ6_bitCount_0f7a4 15 = .ok (.iload_n 0, 1) := by decide +kernel
theorem dJ6_bitCount_0f7a4_16 : decode cJ6_bitCount_0f7a4 16 = .ok (.iconst 2, 1) := by decide +kernel
theorem dJ6_bitCount_0f7a4_17 : decode cJ6_bitCount_0f7a4 17 = .ok (.iushr, 1) := by decide +kernel
theorem dJ6_bitCount_0f7a4_18 : decode cJ6_bitCount_0f7a4 18 = .ok (.ldc_w 266, 3) := by decide +kernel
theorem dJ6_bitCount_0f7a4_21 : decode cJ6_bitCount_0f7a4 21 = .ok (.iand, 1) := by decide +kernel
theorem dJ6_bitCount_0f7a4_22 : decode cJ6_bitCount_0f7a4 22 = .ok (.iadd, 1) := by decide +kernel
theorem dJ6_bitCount_0f7a4_23 : decode cJ6_bitCount_0f7a4 23 = .ok (.istore_n 0, 1) := by decide +kernel
theorem dJ6_bitCount_0f7a4_24 : decode cJ6_bitCount_0f7a4 24 = .ok (.iload_n 0, 1) := by decide +kernel
theorem dJ6_bitCount_0f7a4_25 : decode cJ6_bitCount_0f7a4 25 = .ok (.iload_n 0, 1) := by decide +kernel
theorem dJ6_bitCount_0f7a4_26 : decode cJ6_bitCount_0f7a4 26 = .ok (.iconst 4, 1) := by decide +kernel
theorem dJ6_bitCount_0f7a4_27 : decode cJ6_bitCount_0f7a4 27 = .ok (.iushr, 1) := by decide +kernel
theorem dJ6_bitCount_0f7a4_28 : decode cJ6_bitCount_0f7a4 28 = .ok (.iadd, 1) := by decide +kernel
theorem dJ6_bitCount_0f7a4_29 : decode cJ6_bitCount_0f7a4 29 = .ok (.ldc_w 267, 3) := by decide +kernel
theorem dJ6_bitCount_0f7a4_32 : decode cJ6_bitCount_0f7a4 32 = .ok (.iand, 1) := by decide +kernel
theorem dJ6_bitCount_0f7a4_33 : decode cJ6_bitCount_0f7a4 33 = .ok (.istore_n 0, 1) := by decide +kernel
theorem dJ6_bitCount_0f7a4_34 : decode cJ6_bitCount_0f7a4 34 = .ok (.iload_n 0, 1) := by decide +kernel
theorem dJ6_bitCount_0f7a4_35 : decode cJ6_bitCount_0f7a4 35 = .ok (.iload_n 0, 1) := by decide +kernel
theorem dJ6_bitCount_0f7a4_36 : decode cJ6_bitCount_0f7a4 36 = .ok (.bipush 8, 2) := by decide +kernel
theorem dJ6_bitCount_0f7a4_38 : decode cJ6_bitCount_0f7a4 38 = .ok (.iushr, 1) := by decide +kernel
theorem dJ6_bitCount_0f7a4_39 : decode cJ6_bitCount_0f7a4 39 = .ok (.iadd, 1) := by decide +kernel
theorem dJ6_bitCount_0f7a4_40 : decode cJ6_bitCount_0f7a4 40 = .ok (.istore_n 0, 1) := by decide +kernel
theorem dJ6_bitCount_0f7a4_41 : decode cJ6_bitCount_0f7a4 41 = .ok (.iload_n 0, 1) := by decide +kernel
theorem dJ6_bitCount_0f7a4_42 : decode cJ6_bitCount_0f7a4 42 = .ok (.iload_n 0, 1) := by decide +kernel
theorem dJ6_bitCount_0f7a4_43 : decode cJ6_bitCount_0f7a4 43 = .ok (.bipush 16, 2) := by decide +kernel
theorem dJ6_bitCount_0f7a4_45 : decode cJ6_bitCount_0f7a4 45 = .ok (.iushr, 1) := by decide +kernel
theorem dJ6_bitCount_0f7a4_46 : decode cJ6_bitCount_0f7a4 46 = .ok (.iadd, 1) := by decide +kernel
theorem dJ6_bitCount_0f7a4_47 : decode cJ6_bitCount_0f7a4 47 = .ok (.istore_n 0, 1) := by decide +kernel
theorem dJ6_bitCount_0f7a4_48 : decode cJ6_bitCount_0f7a4 48 = .ok (.iload_n 0, 1) := by decide +kernel
theorem dJ6_bitCount_0f7a4_49 : decode cJ6_bitCount_0f7a4 49 = .ok (.bipush 63, 2) := by decide +kernel
theorem dJ6_bitCount_0f7a4_51 : decode cJ6_bitCount_0f7a4 51 = .ok (.iand, 1) := by decide +kernel
theorem dJ6_bitCount_0f7a4_52 : decode cJ6_bitCount_0f7a4 52 = .ok (.ireturn, 1) := by decide +kernel
theorem dJ9_abs_0f7a4_0 : decode cJ9_abs_0f7a4 0 = .ok (.iload_n 0, 1) := by decide +kernel
theorem dJ9_abs_0f7a4_1 : decode cJ9_abs_0f7a4 1 = .ok (.ifCond .ge 8, 3) := by decide +kernel
theorem dJ9_abs_0f7a4_4 : decode cJ9_abs_0f7a4 4 = .ok (.iload_n 0, 1) := by decide +kernel
theorem dJ9_abs_0f7a4_5 : decode cJ9_abs_0f7a4 5 = .ok (.ineg, 1) := by decide +kernel
theorem dJ9_abs_0f7a4_6 : decode cJ9_abs_0f7a4 6 = .ok (.goto 4, 3) := by decide +kernel
theorem dJ9_abs_0f7a4_9 : decode cJ9_abs_0f7a4 9 = .ok (.iload_n 0, 1) := by decide +kernel
theorem dJ9_abs_0f7a4_10 : decode cJ9_abs_0f7a4 10 = .ok (.ireturn, 1) := by decide +kernel
theorem dJ9_max_7cf53_0 : decode cJ9_max_7cf53 0 = .ok (.iload_n 0, 1) := by decide +kernel
theorem dJ9_max_7cf53_1 : decode cJ9_max_7cf53 1 = .ok (.iload_n 1, 1) := by decide +kernel
theorem dJ9_max_7cf53_2 : decode cJ9_max_7cf53 2 = .ok (.if_icmp .lt 7, 3) := by decide +kernel
theorem dJ9_max_7cf53_5 : decode cJ9_max_7cf53 5 = .ok (.iload_n 0, 1) := by decide +kernel
theorem dJ9_max_7cf53_6 : decode cJ9_max_7cf53 6 = .ok (.goto 4, 3) := by decide +kernel
theorem dJ9_max_7cf53_9 : decode cJ9_max_7cf53 9 = .ok (.iload_n 1, 1) := by decide +kernel
theorem dJ9_max_7cf53_10 : decode cJ9_max_7cf53 10 = .ok (.ireturn, 1) := by decide +kernel
theorem dJ9_min_7cf53_0 : decode cJ9_min_7cf53 0 = .ok (.iload_n 0, 1) := by decide +kernel
theorem dJ9_min_7cf53_1 : decode cJ9_min_7cf53 1 = .ok (.iload_n 1, 1) := by decide +kernel
theorem dJ9_min_7cf53_2 : decode cJ9_min_7cf53 2 = .ok (.if_icmp .gt 7, 3) := by decide +kernel
theorem dJ9_min_7cf53_5 : decode cJ9_min_7cf53 5 = .ok (.iload_n 0, 1) := by decide +kernel
theorem dJ9_min_7cf53_6 : decode cJ9_min_7cf53 6 = .ok (.goto 4, 3) := by decide +kernel
theorem dJ9_min_7cf53_9 : decode cJ9_min_7cf53 9 = .ok (.iload_n 1, 1) := by decide +kernel
theorem dJ9_min_7cf53_10 : decode cJ9_min_7cf53 10 = .ok (.ireturn, 1) := by decide +kernel
theorem dJ0_length_8abf5_0 : decode cJ0_length_8abf5 0 = .ok (.aload_n 0, 1) := by decide +kernel
theorem dJ0_length_8abf5_1 : decode cJ0_length_8abf5 1 = .ok (.getfield 9, 3) := by decide +kernel
theorem dJ0_length_8abf5_4 : decode cJ0_length_8abf5 4 = .ok (.arraylength, 1) := by decide +kernel
theorem dJ0_length_8abf5_5 : decode cJ0_length_8abf5 5 = .ok (.aload_n 0, 1) := by decide +kernel
theorem dJ0_length_8abf5_6 : decode cJ0_length_8abf5 6 = .ok (.invokevirtual 335, 3) := by decide +kernel
theorem dJ0_length_8abf5_9 : decode cJ0_length_8abf5 9 = .ok (.ishr, 1) := by decide +kernel
theorem dJ0_length_8abf5_10 : decode cJ0_length_8abf5 10 = .ok (.ireturn, 1) := by decide +kernel
theorem dJ0_charAt_5068e_0 : decode cJ0_charAt_5068e 0 = .ok (.aload_n 0, 1) := by decide +kernel
theorem dJ0_charAt_5068e_1 : decode cJ0_charAt_5068e 1 = .ok (.invokevirtual 492, 3) := by decide +kernel
theorem dJ0_charAt_5068e_4 : decode cJ0_charAt_5068e 4 = .ok (.ifCond .eq 12, 3) := by decide +kernel
theorem dJ0_charAt_5068e_7 : decode cJ0_charAt_5068e 7 = .ok (.aload_n 0, 1) := by decide +kernel
theorem dJ0_charAt_5068e_8 : decode cJ0_charAt_5068e 8 = .ok (.getfield 9, 3) := by decide +kernel
theorem dJ0_charAt_5068e_11 : decode cJ0_charAt_5068e 11 = .ok (.iload_n 1, 1) := by decide +kernel
theorem dJ0_charAt_5068e_12 : decode cJ0_charAt_5068e 12 = .ok (.invokestatic 495, 3) := by decide +kernel
theorem dJ0_charAt_5068e_15 : decode cJ0_charAt_5068e 15 = .ok (.ireturn, 1) := by decide +kernel
theorem dJ0_charAt_5068e_16 : decode cJ0_charAt_5068e 16 = .ok (.aload_n 0, 1) := by decide +kernel
theorem dJ0_charAt_5068e_17 : decode cJ0_charAt_5068e 17 = .ok (.getfield 9, 3) := by decide +kernel
theorem dJ0_charAt_5068e_20 : decode cJ0_charAt_5068e 20 = .ok (.iload_n 1, 1) := by decide +kernel
theorem dJ0_charAt_5068e_21 : decode cJ0_charAt_5068e 21 = .ok (.invokestatic 498, 3) := by decide +kernel
theorem dJ0_charAt_5068e_24 : decode cJ0_charAt_5068e 24 = .ok (.ireturn, 1) := by decide +kernel
theorem dJ0_coder_7d493_0 : decode cJ0_coder_7d493 0 = .ok (.getstatic 38, 3) := by decide +kernel
theorem dJ0_coder_7d493_3 : decode cJ0_coder_7d493 3 = .ok (.ifCond .eq 10, 3) := by decide +kernel
theorem dJ0_coder_7d493_6 : decode cJ0_coder_7d493 6 = .ok (.aload_n 0, 1) := by decide +kernel
theorem dJ0_coder_7d493_7 : decode cJ0_coder_7d493 7 = .ok (.getfield 15, 3) := by decide +kernel
theorem dJ0_coder_7d493_10 : decode cJ0_coder_7d493 10 = .ok (.goto 4, 3) := by decide +kernel
theorem dJ0_coder_7d493_13 : decode cJ0_coder_7d493 13 = .ok (.iconst 1, 1) := by decide +kernel
theorem dJ0_coder_7d493_14 : decode cJ0_coder_7d493 14 = .ok (.ireturn, 1) := by decide +kernel
theorem dJ0_isLatin1_aae02_0 : decode cJ0_isLatin1_aae02 0 = .ok (.getstatic 38, 3) := by decide +kernel
theorem dJ0_isLatin1_aae02_3 : decode cJ0_isLatin1_aae02 3 = .ok (.ifCond .eq 14, 3) := by decide +kernel
theorem dJ0_isLatin1_aae02_6 : decode cJ0_isLatin1_aae02 6 = .ok (.aload_n 0, 1) := by decide +kernel
theorem dJ0_isLatin1_aae02_7 : decode cJ0_isLatin1_aae02 7 = .ok (.getfield 15, 3) := by decide +kernel
theorem dJ0_isLatin1_aae02_10 : decode cJ0_isLatin1_aae02 10 = .ok (.ifCond .ne 7, 3) := by decide +kernel
theorem dJ0_isLatin1_aae02_13 : decode cJ0_isLatin1_aae02 13 = .ok (.iconst 1, 1) := by decide +kernel
theorem dJ0_isLatin1_aae02_14 : decode cJ0_isLatin1_aae02 14 = .ok (.goto 4, 3) := by decide +kernel
theorem dJ0_isLatin1_aae02_17 : decode cJ0_isLatin1_aae02 17 = .ok (.iconst 0, 1) := by decide +kernel
theorem dJ0_isLatin1_aae02_18 : decode cJ0_isLatin1_aae02 18 = .ok (.ireturn, 1) := by decide +kernel
theorem dJ0_checkIndex_df160_0 : decode cJ0_checkIndex_df160 0 = .ok (.iload_n 0, 1) := by decide +kernel
theorem dJ0_checkIndex_df160_1 : decode cJ0_checkIndex_df160 1 = .ok (.iload_n 1, 1) := by decide +kernel
theorem dJ0_checkIndex_df160_2 : decode cJ0_checkIndex_df160 2 = .ok (.getstatic 1053, 3) := by decide +kernel
theorem dJ0_checkIndex_df160_5 : decode cJ0_checkIndex_df160 5 = .ok (.invokestatic 1059, 3) := by decide +kernel
theorem dJ0_checkIndex_df160_8 : decode cJ0_checkIndex_df160 8 = .ok (.pop, 1) := by decide +kernel
theorem dJ0_checkIndex_df160_9 : decode cJ0_checkIndex_df160 9 = .ok (.return_, 1) := by decide +kernel
theorem dJ1_charAt_3b067_0 : decode cJ1_charAt_3b067 0 = .ok (.iload_n 1, 1) := by decide +kernel
theorem dJ1_charAt_3b067_1 : decode cJ1_charAt_3b067 1 = .ok (.aload_n 0, 1) := by decide +kernel
theorem dJ1_charAt_3b067_2 : decode cJ1_charAt_3b067 2 = .ok (.arraylength, 1) := by decide +kernel
theorem dJ1_charAt_3b067_3 : decode cJ1_charAt_3b067 3 = .ok (.invokestatic 9, 3) := by decide +kernel
theorem dJ1_charAt_3b067_6 : decode cJ1_charAt_3b067 6 = .ok (.aload_n 0, 1) := by decide +kernel
theorem dJ1_charAt_3b067_7 : decode cJ1_charAt_3b067 7 = .ok (.iload_n 1, 1) := by decide +kernel
theorem dJ1_charAt_3b067_8 : decode cJ1_charAt_3b067 8 = .ok (.baload, 1) := by decide +kernel
theorem dJ1_charAt_3b067_9 : decode cJ1_charAt_3b067 9 = .ok (.sipush 255, 3) := by decide +kernel
theorem dJ1_charAt_3b067_12 : decode cJ1_charAt_3b067 12 = .ok (.iand, 1) := by decide +kernel
theorem dJ1_charAt_3b067_13 : decode cJ1_charAt_3b067 13 = .ok (.i2c, 1) := by decide +kernel
theorem dJ1_charAt_3b067_14 : decode cJ1_charAt_3b067 14 = .ok (.ireturn, 1) := by decide +kernel
theorem dJ2_getChar_3b067_0 : decode cJ2_getChar_3b067 0 = .ok (.getstatic 44, 3) := by decide +kernel
theorem dJ2_getChar_3b067_3 : decode cJ2_getChar_3b067 3 = .ok (.ifCond .ne 25, 3) := by decide +kernel
theorem dJ2_getChar_3b067_6 : decode cJ2_getChar_3b067 6 = .ok (.iload_n 1, 1) := by decide +kernel
theorem dJ2_getChar_3b067_7 : decode cJ2_getChar_3b067 7 = .ok (.ifCond .lt 11, 3) := by decide +kernel
theorem dJ2_getChar_3b067_10 : decode cJ2_getChar_3b067 10 = .ok (.iload_n 1, 1) := by decide +kernel
theorem dJ2_getChar_3b067_11 : decode cJ2_getChar_3b067 11 = .ok (.aload_n 0, 1) := by decide +kernel
theorem dJ2_getChar_3b067_12 : decode cJ2_getChar_3b067 12 = .ok (.invokestatic 48, 3) := by decide +kernel
theorem dJ2_getChar_3b067_15 : decode cJ2_getChar_3b067 15 = .ok (.if_icmp .lt 13, 3) := by decide +kernel
theorem dJ2_getChar_3b067_18 : decode cJ2_getChar_3b067 18 = .ok (.new 52, 3) := by decide +kernel
theorem dJ2_getChar_3b067_21 : decode cJ2_getChar_3b067 21 = .ok (.dup, 1) := by decide +kernel
theorem dJ2_getChar_3b067_22 : decode cJ2_getChar_3b067 22 = .ok (.ldc 54, 2) := by decide +kernel
theorem dJ2_getChar_3b067_24 : decode cJ2_getChar_3b067 24 = .ok (.invokespecial 56, 3) := by decide +kernel
theorem dJ2_getChar_3b067_27 : decode cJ2_getChar_3b067 27 = .ok (.athrow, 1) := by decide +kernel
theorem dJ2_getChar_3b067_28 : decode cJ2_getChar_3b067 28 = .ok (.iload_n 1, 1) := by decide +kernel
theorem dJ2_getChar_3b067_29 : decode cJ2_getChar_3b067 29 = .ok (.iconst 1, 1) := by decide +kernel
theorem dJ2_getChar_3b067_30 : decode cJ2_getChar_3b067 30 = .ok (.ishl, 1) := by decide +kernel
theorem dJ2_getChar_3b067_31 : decode cJ2_getChar_3b067 31 = .ok (.istore_n 1, 1) := by decide +kernel
theorem dJ2_getChar_3b067_32 : decode cJ2_getChar_3b067 32 = .ok (.aload_n 0, 1) := by decide +kernel
theorem dJ2_getChar_3b067_33 : decode cJ2_getChar_3b067 33 = .ok (.iload_n 1, 1) := by decide +kernel
theorem dJ2_getChar_3b067_34 : decode cJ2_getChar_3b067 34 = .ok (.iinc 1 1, 3) := by decide +kernel
theorem dJ2_getChar_3b067_37 : decode cJ2_getChar_3b067 37 = .ok (.baload, 1) := by decide +kernel
theorem dJ2_getChar_3b067_38 : decode cJ2_getChar_3b067 38 = .ok (.sipush 255, 3) := by decide +kernel
theorem dJ2_getChar_3b067_41 : decode cJ2_getChar_3b067 41 = .ok (.iand, 1) := by decide +kernel
theorem dJ2_getChar_3b067_42 : decode cJ2_getChar_3b067 42 = .ok (.getstatic 59, 3) := by decide +kernel
theorem dJ2_getChar_3b067_45 : decode cJ2_getChar_3b067 45 = .ok (.ishl, 1) := by decide +kernel
theorem dJ2_getChar_3b067_46 : decode cJ2_getChar_3b067 46 = .ok (.aload_n 0, 1) := by decide +kernel
theorem dJ2_getChar_3b067_47 : decode cJ2_getChar_3b067 47 = .ok (.iload_n 1, 1) := by decide +kernel
theorem dJ2_getChar_3b067_48 : decode cJ2_getChar_3b067 48 = .ok (.baload, 1) := by decide +kernel
theorem dJ2_getChar_3b067_49 : decode cJ2_getChar_3b067 49 = .ok (.sipush 255, 3) := by decide +kernel
theorem dJ2_getChar_3b067_52 : decode cJ2_getChar_3b067 52 = .ok (.iand, 1) := by decide +kernel
theorem dJ2_getChar_3b067_53 : decode cJ2_getChar_3b067 53 = .ok (.getstatic 63, 3) := by decide +kernel
theorem dJ2_getChar_3b067_56 : decode cJ2_getChar_3b067 56 = .ok (.ishl, 1) := by decide +kernel
theorem dJ2_getChar_3b067_57 : decode cJ2_getChar_3b067 57 = .ok (.ior, 1) := by decide +kernel
theorem dJ2_getChar_3b067_58 : decode cJ2_getChar_3b067 58 = .ok (.i2c, 1) := by decide +kernel
theorem dJ2_getChar_3b067_59 : decode cJ2_getChar_3b067 59 = .ok (.ireturn, 1) := by decide +kernel
theorem dJ2_length_9d52b_0 : decode cJ2_length_9d52b 0 = .ok (.aload_n 0, 1) := by decide +kernel
theorem dJ2_length_9d52b_1 : decode cJ2_length_9d52b 1 = .ok (.arraylength, 1) := by decide +kernel
theorem dJ2_length_9d52b_2 : decode cJ2_length_9d52b 2 = .ok (.iconst 1, 1) := by decide +kernel
theorem dJ2_length_9d52b_3 : decode cJ2_length_9d52b 3 = .ok (.ishr, 1) := by decide +kernel
theorem dJ2_length_9d52b_4 : decode cJ2_length_9d52b 4 = .ok (.ireturn, 1) := by decide +kernel
theorem dJ2_charAt_3b067_0 : decode cJ2_charAt_3b067 0 = .ok (.iload_n 1, 1) := by decide +kernel
theorem dJ2_charAt_3b067_1 : decode cJ2_charAt_3b067 1 = .ok (.aload_n 0, 1) := by decide +kernel
theorem dJ2_charAt_3b067_2 : decode cJ2_charAt_3b067 2 = .ok (.invokestatic 67, 3) := by decide +kernel
theorem dJ2_charAt_3b067_5 : decode cJ2_charAt_3b067 5 = .ok (.aload_n 0, 1) := by decide +kernel
theorem dJ2_charAt_3b067_6 : decode cJ2_charAt_3b067 6 = .ok (.iload_n 1, 1) := by decide +kernel
theorem dJ2_charAt_3b067_7 : decode cJ2_charAt_3b067 7 = .ok (.invokestatic 71, 3) := by decide +kernel
theorem dJ2_charAt_3b067_10 : decode cJ2_charAt_3b067 10 = .ok (.ireturn, 1) := by decide +kernel
theorem dJ2_checkIndex_2214a_0 : decode cJ2_checkIndex_2214a 0 = .ok (.iload_n 0, 1) := by decide +kernel
theorem dJ2_checkIndex_2214a_1 : decode cJ2_checkIndex_2214a 1 = .ok (.aload_n 1, 1) := by decide +kernel
theorem dJ2_checkIndex_2214a_2 : decode cJ2_checkIndex_2214a 2 = .ok (.invokestatic 48, 3) := by decide +kernel
theorem dJ2_checkIndex_2214a_5 : decode cJ2_checkIndex_2214a 5 = .ok (.invokestatic 414, 3) := by decide +kernel
theorem dJ2_checkIndex_2214a_8 : decode cJ2_checkIndex_2214a 8 = .ok (.return_, 1) := by decide +kernel
theorem dJ7_fill_53178_0 : decode cJ7_fill_53178 0 = .ok (.iconst 0, 1) := by decide +kernel
theorem dJ7_fill_53178_1 : decode cJ7_fill_53178 1 = .ok (.istore_n 2, 1) := by decide +kernel
theorem dJ7_fill_53178_2 : decode cJ7_fill_53178 2 = .ok (.aload_n 0, 1) := by decide +kernel
theorem dJ7_fill_53178_3 : decode cJ7_fill_53178 3 = .ok (.arraylength, 1) := by decide +kernel
theorem dJ7_fill_53178_4 : decode cJ7_fill_53178 4 = .ok (.istore_n 3, 1) := by decide +kernel
theorem dJ7_fill_53178_5 : decode cJ7_fill_53178 5 = .ok (.iload_n 2, 1) := by decide +kernel
theorem dJ7_fill_53178_6 : decode cJ7_fill_53178 6 = .ok (.iload_n 3, 1) := by decide +kernel
theorem dJ7_fill_53178_7 : decode cJ7_fill_53178 7 = .ok (.if_icmp .ge 13, 3) := by decide +kernel
theorem dJ7_fill_53178_10 : decode cJ7_fill_53178 10 = .ok (.aload_n 0, 1) := by decide +kernel
theorem dJ7_fill_53178_11 : decode cJ7_fill_53178 11 = .ok (.iload_n 2, 1) := by decide +kernel
theorem dJ7_fill_53178_12 : decode cJ7_fill_53178 12 = .ok (.iload_n 1, 1) := by decide +kernel
theorem dJ7_fill_53178_13 : decode cJ7_fill_53178 13 = .ok (.iastore, 1) := by decide +kernel
theorem dJ7_fill_53178_14 : decode cJ7_fill_53178 14 = .ok (.iinc 2 1, 3) := by decide +kernel
theorem dJ7_fill_53178_17 : decode cJ7_fill_53178 17 = .ok (.goto (-12), 3) := by decide +kernel
theorem dJ7_fill_53178_20 : decode cJ7_fill_53178 20 = .ok (.return_, 1) := by decide +kernel
theorem dJ3_checkIndex_8e157_0 : decode cJ3_checkIndex_8e157 0 = .ok (.iload_n 0, 1) := by decide +kernel
theorem dJ3_checkIndex_8e157_1 : decode cJ3_checkIndex_8e157 1 = .ok (.ifCond .lt 8, 3) := by decide +kernel
theorem dJ3_checkIndex_8e157_4 : decode cJ3_checkIndex_8e157 4 = .ok (.iload_n 0, 1) := by decide +kernel
theorem dJ3_checkIndex_8e157_5 : decode cJ3_checkIndex_8e157 5 = .ok (.iload_n 1, 1) := by decide +kernel
theorem dJ3_checkIndex_8e157_6 : decode cJ3_checkIndex_8e157 6 = .ok (.if_icmp .lt 10, 3) := by decide +kernel
theorem dJ3_checkIndex_8e157_9 : decode cJ3_checkIndex_8e157 9 = .ok (.aload_n 2, 1) := by decide +kernel
theorem dJ3_checkIndex_8e157_10 : decode cJ3_checkIndex_8e157 10 = .ok (.iload_n 0, 1) := by decide +kernel
theorem dJ3_checkIndex_8e157_11 : decode cJ3_checkIndex_8e157 11 = .ok (.iload_n 1, 1) := by decide +kernel
theorem dJ3_checkIndex_8e157_12 : decode cJ3_checkIndex_8e157 12 = .ok (.invokestatic 95, 3) := by decide +kernel
theorem dJ3_checkIndex_8e157_15 : decode cJ3_checkIndex_8e157 15 = .ok (.athrow, 1) := by decide +kernel
theorem dJ3_checkIndex_8e157_16 : decode cJ3_checkIndex_8e157 16 = .ok (.iload_n 0, 1) := by decide +kernel
theorem dJ3_checkIndex_8e157_17 : decode cJ3_checkIndex_8e157 17 = .ok (.ireturn, 1) := by decide +kernel
