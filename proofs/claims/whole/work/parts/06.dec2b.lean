theorem dX5_fits_8 : decode cX5_fits 8 = .ok (.ifCond .eq 9, 3) := by decide +kernel
theorem dX5_fits_11 : decode cX5_fits 11 = .ok (.aload_n 0, 1) := by decide +kernel
theorem dX5_fits_12 : decode cX5_fits 12 = .ok (.iload_n 3, 1) := by decide +kernel
theorem dX5_fits_13 : decode cX5_fits 13 = .ok (.invokevirtual 36, 3) := by decide +kernel
theorem dX5_fits_16 : decode cX5_fits 16 = .ok (.ireturn, 1) := by decide +kernel
theorem dX5_fits_17 : decode cX5_fits 17 = .ok (.aload_n 0, 1) := by decide +kernel
theorem dX5_fits_18 : decode cX5_fits 18 = .ok (.invokevirtual 133, 3) := by decide +kernel
theorem dX5_fits_21 : decode cX5_fits 21 = .ok (.iconst 0, 1) := by decide +kernel
theorem dX5_fits_22 : decode cX5_fits 22 = .ok (.istore 4, 2) := by decide +kernel
theorem dX5_fits_24 : decode cX5_fits 24 = .ok (.iconst 0, 1) := by decide +kernel
theorem dX5_fits_25 : decode cX5_fits 25 = .ok (.istore 5, 2) := by decide +kernel
theorem dX5_fits_27 : decode cX5_fits 27 = .ok (.iload 5, 2) := by decide +kernel
theorem dX5_fits_29 : decode cX5_fits 29 = .ok (.bipush 99, 2) := by decide +kernel
theorem dX5_fits_31 : decode cX5_fits 31 = .ok (.if_icmp .gt 36, 3) := by decide +kernel
theorem dX5_fits_34 : decode cX5_fits 34 = .ok (.aload_n 0, 1) := by decide +kernel
theorem dX5_fits_35 : decode cX5_fits 35 = .ok (.getfield 9, 3) := by decide +kernel
theorem dX5_fits_38 : decode cX5_fits 38 = .ok (.iconst 1, 1) := by decide +kernel
theorem dX5_fits_39 : decode cX5_fits 39 = .ok (.iload 5, 2) := by decide +kernel
theorem dX5_fits_41 : decode cX5_fits 41 = .ok (.iastore, 1) := by decide +kernel
theorem dX5_fits_42 : decode cX5_fits 42 = .ok (.iload 4, 2) := by decide +kernel
theorem dX5_fits_44 : decode cX5_fits 44 = .ok (.aload_n 0, 1) := by decide +kernel
theorem dX5_fits_45 : decode cX5_fits 45 = .ok (.iload_n 1, 1) := by decide +kernel
theorem dX5_fits_46 : decode cX5_fits 46 = .ok (.iload_n 2, 1) := by decide +kernel
theorem dX5_fits_47 : decode cX5_fits 47 = .ok (.invokevirtual 159, 3) := by decide +kernel
theorem dX5_fits_50 : decode cX5_fits 50 = .ok (.ifCond .eq 7, 3) := by decide +kernel
theorem dX5_fits_53 : decode cX5_fits 53 = .ok (.iconst 1, 1) := by decide +kernel
theorem dX5_fits_54 : decode cX5_fits 54 = .ok (.goto 4, 3) := by decide +kernel
theorem dX5_fits_57 : decode cX5_fits 57 = .ok (.iconst 0, 1) := by decide +kernel
theorem dX5_fits_58 : decode cX5_fits 58 = .ok (.iadd, 1) := by decide +kernel
theorem dX5_fits_59 : decode cX5_fits 59 = .ok (.istore 4, 2) := by decide +kernel
theorem dX5_fits_61 : decode cX5_fits 61 = .ok (.iinc 5 1, 3) := by decide +kernel
theorem dX5_fits_64 : decode cX5_fits 64 = .ok (.goto (-37), 3) := by decide +kernel
theorem dX5_fits_67 : decode cX5_fits 67 = .ok (.iload 4, 2) := by decide +kernel
theorem dX5_fits_69 : decode cX5_fits 69 = .ok (.ireturn, 1) := by decide +kernel
theorem dX5_kinds_0 : decode cX5_kinds 0 = .ok (.aload_n 0, 1) := by decide +kernel
theorem dX5_kinds_1 : decode cX5_kinds 1 = .ok (.iload_n 1, 1) := by decide +kernel
theorem dX5_kinds_2 : decode cX5_kinds 2 = .ok (.iload_n 2, 1) := by decide +kernel
theorem dX5_kinds_3 : decode cX5_kinds 3 = .ok (.invokevirtual 156, 3) := by decide +kernel
theorem dX5_kinds_6 : decode cX5_kinds 6 = .ok (.istore_n 3, 1) := by decide +kernel
theorem dX5_kinds_7 : decode cX5_kinds 7 = .ok (.iload_n 3, 1) := by decide +kernel
theorem dX5_kinds_8 : decode cX5_kinds 8 = .ok (.ifCond .eq 9, 3) := by decide +kernel
theorem dX5_kinds_11 : decode cX5_kinds 11 = .ok (.aload_n 0, 1) := by decide +kernel
theorem dX5_kinds_12 : decode cX5_kinds 12 = .ok (.iload_n 3, 1) := by decide +kernel
theorem dX5_kinds_13 : decode cX5_kinds 13 = .ok (.invokevirtual 36, 3) := by decide +kernel
theorem dX5_kinds_16 : decode cX5_kinds 16 = .ok (.ireturn, 1) := by decide +kernel
theorem dX5_kinds_17 : decode cX5_kinds 17 = .ok (.aload_n 0, 1) := by decide +kernel
theorem dX5_kinds_18 : decode cX5_kinds 18 = .ok (.invokevirtual 133, 3) := by decide +kernel
theorem dX5_kinds_21 : decode cX5_kinds 21 = .ok (.iconst 0, 1) := by decide +kernel
theorem dX5_kinds_22 : decode cX5_kinds 22 = .ok (.istore 4, 2) := by decide +kernel
theorem dX5_kinds_24 : decode cX5_kinds 24 = .ok (.iconst 0, 1) := by decide +kernel
theorem dX5_kinds_25 : decode cX5_kinds 25 = .ok (.istore 5, 2) := by decide +kernel
theorem dX5_kinds_27 : decode cX5_kinds 27 = .ok (.iload 5, 2) := by decide +kernel
theorem dX5_kinds_29 : decode cX5_kinds 29 = .ok (.bipush 6, 2) := by decide +kernel
theorem dX5_kinds_31 : decode cX5_kinds 31 = .ok (.if_icmp .gt 39, 3) := by decide +kernel
theorem dX5_kinds_34 : decode cX5_kinds 34 = .ok (.aload_n 0, 1) := by decide +kernel
theorem dX5_kinds_35 : decode cX5_kinds 35 = .ok (.iload_n 2, 1) := by decide +kernel
theorem dX5_kinds_36 : decode cX5_kinds 36 = .ok (.iconst 0, 1) := by decide +kernel
theorem dX5_kinds_37 : decode cX5_kinds 37 = .ok (.iload 5, 2) := by decide +kernel
theorem dX5_kinds_39 : decode cX5_kinds 39 = .ok (.invokevirtual 59, 3) := by decide +kernel
theorem dX5_kinds_42 : decode cX5_kinds 42 = .ok (.iload 4, 2) := by decide +kernel
theorem dX5_kinds_44 : decode cX5_kinds 44 = .ok (.aload_n 0, 1) := by decide +kernel
theorem dX5_kinds_45 : decode cX5_kinds 45 = .ok (.iload_n 1, 1) := by decide +kernel
theorem dX5_kinds_46 : decode cX5_kinds 46 = .ok (.iload_n 2, 1) := by decide +kernel
theorem dX5_kinds_47 : decode cX5_kinds 47 = .ok (.invokevirtual 159, 3) := by decide +kernel
theorem dX5_kinds_50 : decode cX5_kinds 50 = .ok (.ifCond .eq 10, 3) := by decide +kernel
theorem dX5_kinds_53 : decode cX5_kinds 53 = .ok (.iconst 1, 1) := by decide +kernel
theorem dX5_kinds_54 : decode cX5_kinds 54 = .ok (.iload 5, 2) := by decide +kernel
theorem dX5_kinds_56 : decode cX5_kinds 56 = .ok (.ishl, 1) := by decide +kernel
theorem dX5_kinds_57 : decode cX5_kinds 57 = .ok (.goto 4, 3) := by decide +kernel
theorem dX5_kinds_60 : decode cX5_kinds 60 = .ok (.iconst 0, 1) := by decide +kernel
theorem dX5_kinds_61 : decode cX5_kinds 61 = .ok (.ior, 1) := by decide +kernel
theorem dX5_kinds_62 : decode cX5_kinds 62 = .ok (.istore 4, 2) := by decide +kernel
theorem dX5_kinds_64 : decode cX5_kinds 64 = .ok (.iinc 5 1, 3) := by decide +kernel
theorem dX5_kinds_67 : decode cX5_kinds 67 = .ok (.goto (-40), 3) := by decide +kernel
theorem dX5_kinds_70 : decode cX5_kinds 70 = .ok (.iload 4, 2) := by decide +kernel
theorem dX5_kinds_72 : decode cX5_kinds 72 = .ok (.ireturn, 1) := by decide +kernel
theorem dX5_draw_0 : decode cX5_draw 0 = .ok (.aload_n 0, 1) := by decide +kernel
theorem dX5_draw_1 : decode cX5_draw 1 = .ok (.getfield 9, 3) := by decide +kernel
theorem dX5_draw_4 : decode cX5_draw 4 = .ok (.iconst 4, 1) := by decide +kernel
theorem dX5_draw_5 : decode cX5_draw 5 = .ok (.aload_n 0, 1) := by decide +kernel
theorem dX5_draw_6 : decode cX5_draw 6 = .ok (.getfield 9, 3) := by decide +kernel
theorem dX5_draw_9 : decode cX5_draw 9 = .ok (.iconst 4, 1) := by decide +kernel
theorem dX5_draw_10 : decode cX5_draw 10 = .ok (.iaload, 1) := by decide +kernel
theorem dX5_draw_11 : decode cX5_draw 11 = .ok (.ldc 162, 2) := by decide +kernel
theorem dX5_draw_13 : decode cX5_draw 13 = .ok (.imul, 1) := by decide +kernel
theorem dX5_draw_14 : decode cX5_draw 14 = .ok (.sipush 12345, 3) := by decide +kernel
theorem dX5_draw_17 : decode cX5_draw 17 = .ok (.iadd, 1) := by decide +kernel
theorem dX5_draw_18 : decode cX5_draw 18 = .ok (.iastore, 1) := by decide +kernel
theorem dX5_draw_19 : decode cX5_draw 19 = .ok (.aload_n 0, 1) := by decide +kernel
theorem dX5_draw_20 : decode cX5_draw 20 = .ok (.getfield 9, 3) := by decide +kernel
theorem dX5_draw_23 : decode cX5_draw 23 = .ok (.iconst 4, 1) := by decide +kernel
theorem dX5_draw_24 : decode cX5_draw 24 = .ok (.iaload, 1) := by decide +kernel
theorem dX5_draw_25 : decode cX5_draw 25 = .ok (.bipush 8, 2) := by decide +kernel
theorem dX5_draw_27 : decode cX5_draw 27 = .ok (.iushr, 1) := by decide +kernel
theorem dX5_draw_28 : decode cX5_draw 28 = .ok (.ireturn, 1) := by decide +kernel
theorem dX5_service_0 : decode cX5_service 0 = .ok (.iload_n 1, 1) := by decide +kernel
theorem dX5_service_1 : decode cX5_service 1 = .ok (.iconst 1, 1) := by decide +kernel
theorem dX5_service_2 : decode cX5_service 2 = .ok (.bipush 20, 2) := by decide +kernel
theorem dX5_service_4 : decode cX5_service 4 = .ok (.invokestatic 40, 3) := by decide +kernel
theorem dX5_service_7 : decode cX5_service 7 = .ok (.ifCond .ne 10, 3) := by decide +kernel
theorem dX5_service_10 : decode cX5_service 10 = .ok (.aload_n 0, 1) := by decide +kernel
theorem dX5_service_11 : decode cX5_service 11 = .ok (.ldc 34, 2) := by decide +kernel
theorem dX5_service_13 : decode cX5_service 13 = .ok (.invokevirtual 36, 3) := by decide +kernel
theorem dX5_service_16 : decode cX5_service 16 = .ok (.ireturn, 1) := by decide +kernel
theorem dX5_service_17 : decode cX5_service 17 = .ok (.aload_n 0, 1) := by decide +kernel
theorem dX5_service_18 : decode cX5_service 18 = .ok (.getfield 9, 3) := by decide +kernel
theorem dX5_service_21 : decode cX5_service 21 = .ok (.iconst 0, 1) := by decide +kernel
theorem dX5_service_22 : decode cX5_service 22 = .ok (.iaload, 1) := by decide +kernel
theorem dX5_service_23 : decode cX5_service 23 = .ok (.iload_n 1, 1) := by decide +kernel
theorem dX5_service_24 : decode cX5_service 24 = .ok (.iadd, 1) := by decide +kernel
theorem dX5_service_25 : decode cX5_service 25 = .ok (.ldc 89, 2) := by decide +kernel
theorem dX5_service_27 : decode cX5_service 27 = .ok (.if_icmp .le 10, 3) := by decide +kernel
theorem dX5_service_30 : decode cX5_service 30 = .ok (.aload_n 0, 1) := by decide +kernel
theorem dX5_service_31 : decode cX5_service 31 = .ok (.ldc 94, 2) := by decide +kernel
theorem dX5_service_33 : decode cX5_service 33 = .ok (.invokevirtual 36, 3) := by decide +kernel
theorem dX5_service_36 : decode cX5_service 36 = .ok (.ireturn, 1) := by decide +kernel
theorem dX5_service_37 : decode cX5_service 37 = .ok (.iconst 0, 1) := by decide +kernel
theorem dX5_service_38 : decode cX5_service 38 = .ok (.istore_n 2, 1) := by decide +kernel
theorem dX5_service_39 : decode cX5_service 39 = .ok (.iload_n 2, 1) := by decide +kernel
theorem dX5_service_40 : decode cX5_service 40 = .ok (.iload_n 1, 1) := by decide +kernel
theorem dX5_service_41 : decode cX5_service 41 = .ok (.if_icmp .ge 73, 3) := by decide +kernel
theorem dX5_service_44 : decode cX5_service 44 = .ok (.aload_n 0, 1) := by decide +kernel
theorem dX5_service_45 : decode cX5_service 45 = .ok (.getfield 9, 3) := by decide +kernel
theorem dX5_service_48 : decode cX5_service 48 = .ok (.bipush 6, 2) := by decide +kernel
theorem dX5_service_50 : decode cX5_service 50 = .ok (.aload_n 0, 1) := by decide +kernel
theorem dX5_service_51 : decode cX5_service 51 = .ok (.getfield 9, 3) := by decide +kernel
theorem dX5_service_54 : decode cX5_service 54 = .ok (.iconst 0, 1) := by decide +kernel
theorem dX5_service_55 : decode cX5_service 55 = .ok (.iaload, 1) := by decide +kernel
theorem dX5_service_56 : decode cX5_service 56 = .ok (.bipush 6, 2) := by decide +kernel
theorem dX5_service_58 : decode cX5_service 58 = .ok (.irem, 1) := by decide +kernel
theorem dX5_service_59 : decode cX5_service 59 = .ok (.iadd, 1) := by decide +kernel
theorem dX5_service_60 : decode cX5_service 60 = .ok (.aload_n 0, 1) := by decide +kernel
theorem dX5_service_61 : decode cX5_service 61 = .ok (.invokevirtual 163, 3) := by decide +kernel
theorem dX5_service_64 : decode cX5_service 64 = .ok (.bipush 12, 2) := by decide +kernel
theorem dX5_service_66 : decode cX5_service 66 = .ok (.irem, 1) := by decide +kernel
theorem dX5_service_67 : decode cX5_service 67 = .ok (.iastore, 1) := by decide +kernel
theorem dX5_service_68 : decode cX5_service 68 = .ok (.aload_n 0, 1) := by decide +kernel
theorem dX5_service_69 : decode cX5_service 69 = .ok (.invokevirtual 163, 3) := by decide +kernel
theorem dX5_service_72 : decode cX5_service 72 = .ok (.bipush 8, 2) := by decide +kernel
theorem dX5_service_74 : decode cX5_service 74 = .ok (.irem, 1) := by decide +kernel
theorem dX5_service_75 : decode cX5_service 75 = .ok (.istore_n 3, 1) := by decide +kernel
theorem dX5_service_76 : decode cX5_service 76 = .ok (.aload_n 0, 1) := by decide +kernel
theorem dX5_service_77 : decode cX5_service 77 = .ok (.invokevirtual 111, 3) := by decide +kernel
theorem dX5_service_80 : decode cX5_service 80 = .ok (.aload_n 0, 1) := by decide +kernel
theorem dX5_service_81 : decode cX5_service 81 = .ok (.iload_n 3, 1) := by decide +kernel
theorem dX5_service_82 : decode cX5_service 82 = .ok (.invokevirtual 68, 3) := by decide +kernel
theorem dX5_service_85 : decode cX5_service 85 = .ok (.ifCond .eq 20, 3) := by decide +kernel
theorem dX5_service_88 : decode cX5_service 88 = .ok (.aload_n 0, 1) := by decide +kernel
theorem dX5_service_89 : decode cX5_service 89 = .ok (.iload_n 3, 1) := by decide +kernel
theorem dX5_service_90 : decode cX5_service 90 = .ok (.iconst 4, 1) := by decide +kernel
theorem dX5_service_91 : decode cX5_service 91 = .ok (.invokevirtual 44, 3) := by decide +kernel
theorem dX5_service_94 : decode cX5_service 94 = .ok (.ifCond .ne 11, 3) := by decide +kernel
theorem dX5_service_97 : decode cX5_service 97 = .ok (.aload_n 0, 1) := by decide +kernel
theorem dX5_service_98 : decode cX5_service 98 = .ok (.iload_n 3, 1) := by decide +kernel
theorem dX5_service_99 : decode cX5_service 99 = .ok (.invokevirtual 95, 3) := by decide +kernel
theorem dX5_service_102 : decode cX5_service 102 = .ok (.goto 4, 3) := by decide +kernel
theorem dX5_service_105 : decode cX5_service 105 = .ok (.iconst 0, 1) := by decide +kernel
theorem dX5_service_106 : decode cX5_service 106 = .ok (.istore 4, 2) := by decide +kernel
theorem dX5_service_108 : decode cX5_service 108 = .ok (.iinc 2 1, 3) := by decide +kernel
theorem dX5_service_111 : decode cX5_service 111 = .ok (.goto (-72), 3) := by decide +kernel
theorem dX5_service_114 : decode cX5_service 114 = .ok (.aload_n 0, 1) := by decide +kernel
theorem dX5_service_115 : decode cX5_service 115 = .ok (.getfield 9, 3) := by decide +kernel
theorem dX5_service_118 : decode cX5_service 118 = .ok (.iconst 3, 1) := by decide +kernel
theorem dX5_service_119 : decode cX5_service 119 = .ok (.iaload, 1) := by decide +kernel
theorem dX5_service_120 : decode cX5_service 120 = .ok (.ireturn, 1) := by decide +kernel
theorem dX5_odds_0 : decode cX5_odds 0 = .ok (.aload_n 0, 1) := by decide +kernel
theorem dX5_odds_1 : decode cX5_odds 1 = .ok (.iload_n 1, 1) := by decide +kernel
theorem dX5_odds_2 : decode cX5_odds 2 = .ok (.invokevirtual 68, 3) := by decide +kernel
theorem dX5_odds_5 : decode cX5_odds 5 = .ok (.ifCond .eq 22, 3) := by decide +kernel
theorem dX5_odds_8 : decode cX5_odds 8 = .ok (.iload_n 2, 1) := by decide +kernel
theorem dX5_odds_9 : decode cX5_odds 9 = .ok (.iconst 0, 1) := by decide +kernel
theorem dX5_odds_10 : decode cX5_odds 10 = .ok (.bipush 17, 2) := by decide +kernel
theorem dX5_odds_12 : decode cX5_odds 12 = .ok (.invokestatic 40, 3) := by decide +kernel
theorem dX5_odds_15 : decode cX5_odds 15 = .ok (.ifCond .eq 12, 3) := by decide +kernel
theorem dX5_odds_18 : decode cX5_odds 18 = .ok (.iload_n 3, 1) := by decide +kernel
theorem dX5_odds_19 : decode cX5_odds 19 = .ok (.iconst 0, 1) := by decide +kernel
theorem dX5_odds_20 : decode cX5_odds 20 = .ok (.iconst 1, 1) := by decide +kernel
theorem dX5_odds_21 : decode cX5_odds 21 = .ok (.invokestatic 40, 3) := by decide +kernel
theorem dX5_odds_24 : decode cX5_odds 24 = .ok (.ifCond .ne 11, 3) := by decide +kernel
theorem dX5_odds_27 : decode cX5_odds 27 = .ok (.aload_n 0, 1) := by decide +kernel
theorem dX5_odds_28 : decode cX5_odds 28 = .ok (.ldc 34, 2) := by decide +kernel
theorem dX5_odds_30 : decode cX5_odds 30 = .ok (.invokevirtual 36, 3) := by decide +kernel
theorem dX5_odds_33 : decode cX5_odds 33 = .ok (.i2l, 1) := by decide +kernel
theorem dX5_odds_34 : decode cX5_odds 34 = .ok (.lreturn, 1) := by decide +kernel
theorem dX5_odds_35 : decode cX5_odds 35 = .ok (.iconst 0, 1) := by decide +kernel
theorem dX5_odds_36 : decode cX5_odds 36 = .ok (.istore 4, 2) := by decide +kernel
theorem dX5_odds_38 : decode cX5_odds 38 = .ok (.iconst 0, 1) := by decide +kernel
theorem dX5_odds_39 : decode cX5_odds 39 = .ok (.istore 5, 2) := by decide +kernel
theorem dX5_odds_41 : decode cX5_odds 41 = .ok (.iload 5, 2) := by decide +kernel
theorem dX5_odds_43 : decode cX5_odds 43 = .ok (.bipush 12, 2) := by decide +kernel
theorem dX5_odds_45 : decode cX5_odds 45 = .ok (.if_icmp .ge 46, 3) := by decide +kernel
theorem dX5_odds_48 : decode cX5_odds 48 = .ok (.iload 4, 2) := by decide +kernel
theorem dX5_odds_50 : decode cX5_odds 50 = .ok (.aload_n 0, 1) := by decide +kernel
theorem dX5_odds_51 : decode cX5_odds 51 = .ok (.getfield 9, 3) := by decide +kernel
theorem dX5_odds_54 : decode cX5_odds 54 = .ok (.iconst 1, 1) := by decide +kernel
theorem dX5_odds_55 : decode cX5_odds 55 = .ok (.iaload, 1) := by decide +kernel
theorem dX5_odds_56 : decode cX5_odds 56 = .ok (.getstatic 98, 3) := by decide +kernel
theorem dX5_odds_59 : decode cX5_odds 59 = .ok (.iload 5, 2) := by decide +kernel
theorem dX5_odds_61 : decode cX5_odds 61 = .ok (.iaload, 1) := by decide +kernel
theorem dX5_odds_62 : decode cX5_odds 62 = .ok (.iadd, 1) := by decide +kernel
theorem dX5_odds_63 : decode cX5_odds 63 = .ok (.iconst 0, 1) := by decide +kernel
theorem dX5_odds_64 : decode cX5_odds 64 = .ok (.bipush 99, 2) := by decide +kernel
theorem dX5_odds_66 : decode cX5_odds 66 = .ok (.invokestatic 90, 3) := by decide +kernel
theorem dX5_odds_69 : decode cX5_odds 69 = .ok (.aload_n 0, 1) := by decide +kernel
theorem dX5_odds_70 : decode cX5_odds 70 = .ok (.iload_n 1, 1) := by decide +kernel
theorem dX5_odds_71 : decode cX5_odds 71 = .ok (.invokevirtual 71, 3) := by decide +kernel
theorem dX5_odds_74 : decode cX5_odds 74 = .ok (.if_icmp .lt 7, 3) := by decide +kernel
theorem dX5_odds_77 : decode cX5_odds 77 = .ok (.iconst 1, 1) := by decide +kernel
theorem dX5_odds_78 : decode cX5_odds 78 = .ok (.goto 4, 3) := by decide +kernel
theorem dX5_odds_81 : decode cX5_odds 81 = .ok (.iconst 0, 1) := by decide +kernel
theorem dX5_odds_82 : decode cX5_odds 82 = .ok (.iadd, 1) := by decide +kernel
theorem dX5_odds_83 : decode cX5_odds 83 = .ok (.istore 4, 2) := by decide +kernel
theorem dX5_odds_85 : decode cX5_odds 85 = .ok (.iinc 5 1, 3) := by decide +kernel
theorem dX5_odds_88 : decode cX5_odds 88 = .ok (.goto (-47), 3) := by decide +kernel
theorem dX5_odds_91 : decode cX5_odds 91 = .ok (.bipush 12, 2) := by decide +kernel
theorem dX5_odds_93 : decode cX5_odds 93 = .ok (.istore 5, 2) := by decide +kernel
theorem dX5_odds_95 : decode cX5_odds 95 = .ok (.bipush 12, 2) := by decide +kernel
theorem dX5_odds_97 : decode cX5_odds 97 = .ok (.istore 6, 2) := by decide +kernel
theorem dX5_odds_99 : decode cX5_odds 99 = .ok (.iload 6, 2) := by decide +kernel
theorem dX5_odds_101 : decode cX5_odds 101 = .ok (.iconst 1, 1) := by decide +kernel
theorem dX5_odds_102 : decode cX5_odds 102 = .ok (.if_icmp .le 39, 3) := by decide +kernel
theorem dX5_odds_105 : decode cX5_odds 105 = .ok (.iload 4, 2) := by decide +kernel
theorem dX5_odds_107 : decode cX5_odds 107 = .ok (.iload 6, 2) := by decide +kernel
theorem dX5_odds_109 : decode cX5_odds 109 = .ok (.irem, 1) := by decide +kernel
theorem dX5_odds_110 : decode cX5_odds 110 = .ok (.ifCond .ne 25, 3) := by decide +kernel
theorem dX5_odds_113 : decode cX5_odds 113 = .ok (.iload 5, 2) := by decide +kernel
theorem dX5_odds_115 : decode cX5_odds 115 = .ok (.iload 6, 2) := by decide +kernel
theorem dX5_odds_117 : decode cX5_odds 117 = .ok (.irem, 1) := by decide +kernel
theorem dX5_odds_118 : decode cX5_odds 118 = .ok (.ifCond .ne 17, 3) := by decide +kernel
theorem dX5_odds_121 : decode cX5_odds 121 = .ok (.iload 4, 2) := by decide +kernel
theorem dX5_odds_123 : decode cX5_odds 123 = .ok (.iload 6, 2) := by decide +kernel
theorem dX5_odds_125 : decode cX5_odds 125 = .ok (.idiv, 1) := by decide +kernel
theorem dX5_odds_126 : decode cX5_odds 126 = .ok (.istore 4, 2) := by decide +kernel
theorem dX5_odds_128 : decode cX5_odds 128 = .ok (.iload 5, 2) := by decide +kernel
theorem dX5_odds_130 : decode cX5_odds 130 = .ok (.iload 6, 2) := by decide +kernel
theorem dX5_odds_132 : decode cX5_odds 132 = .ok (.idiv, 1) := by decide +kernel
theorem dX5_odds_133 : decode cX5_odds 133 = .ok (.istore 5, 2) := by decide +kernel
theorem dX5_odds_135 : decode cX5_odds 135 = .ok (.iinc 6 (-1), 3) := by decide +kernel
theorem dX5_odds_138 : decode cX5_odds 138 = .ok (.goto (-39), 3) := by decide +kernel
theorem dX5_odds_141 : decode cX5_odds 141 = .ok (.lconst 1, 1) := by decide +kernel
theorem dX5_odds_142 : decode cX5_odds 142 = .ok (.lstore 6, 2) := by decide +kernel
theorem dX5_odds_144 : decode cX5_odds 144 = .ok (.iconst 0, 1) := by decide +kernel
theorem dX5_odds_145 : decode cX5_odds 145 = .ok (.istore 8, 2) := by decide +kernel
theorem dX5_odds_147 : decode cX5_odds 147 = .ok (.iload 8, 2) := by decide +kernel
theorem dX5_odds_149 : decode cX5_odds 149 = .ok (.iload_n 2, 1) := by decide +kernel
theorem dX5_odds_150 : decode cX5_odds 150 = .ok (.if_icmp .ge 27, 3) := by decide +kernel
theorem dX5_odds_153 : decode cX5_odds 153 = .ok (.lload 6, 2) := by decide +kernel
theorem dX5_odds_155 : decode cX5_odds 155 = .ok (.iload_n 3, 1) := by decide +kernel
theorem dX5_odds_156 : decode cX5_odds 156 = .ok (.ifCond .ne 9, 3) := by decide +kernel
theorem dX5_odds_159 : decode cX5_odds 159 = .ok (.iload 4, 2) := by decide +kernel
theorem dX5_odds_161 : decode cX5_odds 161 = .ok (.i2l, 1) := by decide +kernel
theorem dX5_odds_162 : decode cX5_odds 162 = .ok (.goto 6, 3) := by decide +kernel
theorem dX5_odds_165 : decode cX5_odds 165 = .ok (.iload 5, 2) := by decide +kernel
theorem dX5_odds_167 : decode cX5_odds 167 = .ok (.i2l, 1) := by decide +kernel
theorem dX5_odds_168 : decode cX5_odds 168 = .ok (.lmul, 1) := by decide +kernel
theorem dX5_odds_169 : decode cX5_odds 169 = .ok (.lstore 6, 2) := by decide +kernel
theorem dX5_odds_171 : decode cX5_odds 171 = .ok (.iinc 8 1, 3) := by decide +kernel
theorem dX5_odds_174 : decode cX5_odds 174 = .ok (.goto (-27), 3) := by decide +kernel
theorem dX5_odds_177 : decode cX5_odds 177 = .ok (.lload 6, 2) := by decide +kernel
theorem dX5_odds_179 : decode cX5_odds 179 = .ok (.lreturn, 1) := by decide +kernel
theorem dX5_seed_0 : decode cX5_seed 0 = .ok (.aload_n 0, 1) := by decide +kernel
theorem dX5_seed_1 : decode cX5_seed 1 = .ok (.iconst 4, 1) := by decide +kernel
theorem dX5_seed_2 : decode cX5_seed 2 = .ok (.iload_n 1, 1) := by decide +kernel
theorem dX5_seed_3 : decode cX5_seed 3 = .ok (.invokevirtual 52, 3) := by decide +kernel
theorem dX5_seed_6 : decode cX5_seed 6 = .ok (.ireturn, 1) := by decide +kernel
theorem dX5_feed_0 : decode cX5_feed 0 = .ok (.iload_n 2, 1) := by decide +kernel
theorem dX5_feed_1 : decode cX5_feed 1 = .ok (.iconst 1, 1) := by decide +kernel
theorem dX5_feed_2 : decode cX5_feed 2 = .ok (.iconst 4, 1) := by decide +kernel
theorem dX5_feed_3 : decode cX5_feed 3 = .ok (.invokestatic 40, 3) := by decide +kernel
theorem dX5_feed_6 : decode cX5_feed 6 = .ok (.ifCond .ne 10, 3) := by decide +kernel
theorem dX5_feed_9 : decode cX5_feed 9 = .ok (.aload_n 0, 1) := by decide +kernel
theorem dX5_feed_10 : decode cX5_feed 10 = .ok (.ldc 34, 2) := by decide +kernel
theorem dX5_feed_12 : decode cX5_feed 12 = .ok (.invokevirtual 36, 3) := by decide +kernel
theorem dX5_feed_15 : decode cX5_feed 15 = .ok (.ireturn, 1) := by decide +kernel
theorem dX5_feed_16 : decode cX5_feed 16 = .ok (.aload_n 0, 1) := by decide +kernel
theorem dX5_feed_17 : decode cX5_feed 17 = .ok (.getfield 166, 3) := by decide +kernel
theorem dX5_feed_20 : decode cX5_feed 20 = .ok (.iload_n 2, 1) := by decide +kernel
theorem dX5_feed_21 : decode cX5_feed 21 = .ok (.iadd, 1) := by decide +kernel
theorem dX5_feed_22 : decode cX5_feed 22 = .ok (.bipush 120, 2) := by decide +kernel
theorem dX5_feed_24 : decode cX5_feed 24 = .ok (.if_icmp .le 10, 3) := by decide +kernel
theorem dX5_feed_27 : decode cX5_feed 27 = .ok (.aload_n 0, 1) := by decide +kernel
theorem dX5_feed_28 : decode cX5_feed 28 = .ok (.ldc 63, 2) := by decide +kernel
theorem dX5_feed_30 : decode cX5_feed 30 = .ok (.invokevirtual 36, 3) := by decide +kernel
theorem dX5_feed_33 : decode cX5_feed 33 = .ok (.ireturn, 1) := by decide +kernel
theorem dX5_feed_34 : decode cX5_feed 34 = .ok (.iload_n 2, 1) := by decide +kernel
theorem dX5_feed_35 : decode cX5_feed 35 = .ok (.iconst 1, 1) := by decide +kernel
theorem dX5_feed_36 : decode cX5_feed 36 = .ok (.isub, 1) := by decide +kernel
theorem dX5_feed_37 : decode cX5_feed 37 = .ok (.istore_n 3, 1) := by decide +kernel
theorem dX5_feed_38 : decode cX5_feed 38 = .ok (.iload_n 3, 1) := by decide +kernel
theorem dX5_feed_39 : decode cX5_feed 39 = .ok (.ifCond .lt 38, 3) := by decide +kernel
theorem dX5_feed_42 : decode cX5_feed 42 = .ok (.aload_n 0, 1) := by decide +kernel
theorem dX5_feed_43 : decode cX5_feed 43 = .ok (.getfield 31, 3) := by decide +kernel
theorem dX5_feed_46 : decode cX5_feed 46 = .ok (.aload_n 0, 1) := by decide +kernel
theorem dX5_feed_47 : decode cX5_feed 47 = .ok (.getfield 166, 3) := by decide +kernel
theorem dX5_feed_50 : decode cX5_feed 50 = .ok (.iload_n 1, 1) := by decide +kernel
theorem dX5_feed_51 : decode cX5_feed 51 = .ok (.bipush 8, 2) := by decide +kernel
theorem dX5_feed_53 : decode cX5_feed 53 = .ok (.iload_n 3, 1) := by decide +kernel
theorem dX5_feed_54 : decode cX5_feed 54 = .ok (.imul, 1) := by decide +kernel
theorem dX5_feed_55 : decode cX5_feed 55 = .ok (.ishr, 1) := by decide +kernel
theorem dX5_feed_56 : decode cX5_feed 56 = .ok (.sipush 255, 3) := by decide +kernel
theorem dX5_feed_59 : decode cX5_feed 59 = .ok (.iand, 1) := by decide +kernel
theorem dX5_feed_60 : decode cX5_feed 60 = .ok (.iastore, 1) := by decide +kernel
theorem dX5_feed_61 : decode cX5_feed 61 = .ok (.aload_n 0, 1) := by decide +kernel
theorem dX5_feed_62 : decode cX5_feed 62 = .ok (.dup, 1) := by decide +kernel
theorem dX5_feed_63 : decode cX5_feed 63 = .ok (.getfield 166, 3) := by decide +kernel
theorem dX5_feed_66 : decode cX5_feed 66 = .ok (.iconst 1, 1) := by decide +kernel
theorem dX5_feed_67 : decode cX5_feed 67 = .ok (.iadd, 1) := by decide +kernel
theorem dX5_feed_68 : decode cX5_feed 68 = .ok (.putfield 166, 3) := by decide +kernel
theorem dX5_feed_71 : decode cX5_feed 71 = .ok (.iinc 3 (-1), 3) := by decide +kernel
theorem dX5_feed_74 : decode cX5_feed 74 = .ok (.goto (-36), 3) := by decide +kernel
theorem dX5_feed_77 : decode cX5_feed 77 = .ok (.aload_n 0, 1) := by decide +kernel
theorem dX5_feed_78 : decode cX5_feed 78 = .ok (.getfield 166, 3) := by decide +kernel
theorem dX5_feed_81 : decode cX5_feed 81 = .ok (.ireturn, 1) := by decide +kernel
theorem dX5_wipe_0 : decode cX5_wipe 0 = .ok (.aload_n 0, 1) := by decide +kernel
theorem dX5_wipe_1 : decode cX5_wipe 1 = .ok (.getfield 166, 3) := by decide +kernel
theorem dX5_wipe_4 : decode cX5_wipe 4 = .ok (.istore_n 1, 1) := by decide +kernel
theorem dX5_wipe_5 : decode cX5_wipe 5 = .ok (.aload_n 0, 1) := by decide +kernel
theorem dX5_wipe_6 : decode cX5_wipe 6 = .ok (.iconst 0, 1) := by decide +kernel
theorem dX5_wipe_7 : decode cX5_wipe 7 = .ok (.putfield 166, 3) := by decide +kernel
theorem dX5_wipe_10 : decode cX5_wipe 10 = .ok (.iload_n 1, 1) := by decide +kernel
theorem dX5_wipe_11 : decode cX5_wipe 11 = .ok (.ireturn, 1) := by decide +kernel
theorem dX5_isByte_0 : decode cX5_isByte 0 = .ok (.iload_n 1, 1) := by decide +kernel
theorem dX5_isByte_1 : decode cX5_isByte 1 = .ok (.aload_n 0, 1) := by decide +kernel
theorem dX5_isByte_2 : decode cX5_isByte 2 = .ok (.getfield 166, 3) := by decide +kernel
theorem dX5_isByte_5 : decode cX5_isByte 5 = .ok (.if_icmp .ge 21, 3) := by decide +kernel
theorem dX5_isByte_8 : decode cX5_isByte 8 = .ok (.aload_n 0, 1) := by decide +kernel
theorem dX5_isByte_9 : decode cX5_isByte 9 = .ok (.getfield 31, 3) := by decide +kernel
theorem dX5_isByte_12 : decode cX5_isByte 12 = .ok (.iload_n 1, 1) := by decide +kernel
theorem dX5_isByte_13 : decode cX5_isByte 13 = .ok (.iaload, 1) := by decide +kernel
theorem dX5_isByte_14 : decode cX5_isByte 14 = .ok (.iload_n 2, 1) := by decide +kernel
theorem dX5_isByte_15 : decode cX5_isByte 15 = .ok (.iload_n 3, 1) := by decide +kernel
theorem dX5_isByte_16 : decode cX5_isByte 16 = .ok (.invokestatic 40, 3) := by decide +kernel
theorem dX5_isByte_19 : decode cX5_isByte 19 = .ok (.ifCond .eq 7, 3) := by decide +kernel
theorem dX5_isByte_22 : decode cX5_isByte 22 = .ok (.iconst 1, 1) := by decide +kernel
theorem dX5_isByte_23 : decode cX5_isByte 23 = .ok (.goto 4, 3) := by decide +kernel
theorem dX5_isByte_26 : decode cX5_isByte 26 = .ok (.iconst 0, 1) := by decide +kernel
theorem dX5_isByte_27 : decode cX5_isByte 27 = .ok (.ireturn, 1) := by decide +kernel
theorem dX5_isName_0 : decode cX5_isName 0 = .ok (.iload_n 2, 1) := by decide +kernel
theorem dX5_isName_1 : decode cX5_isName 1 = .ok (.bipush 7, 2) := by decide +kernel
theorem dX5_isName_3 : decode cX5_isName 3 = .ok (.if_icmp .gt 26, 3) := by decide +kernel
theorem dX5_isName_6 : decode cX5_isName 6 = .ok (.iload_n 2, 1) := by decide +kernel
theorem dX5_isName_7 : decode cX5_isName 7 = .ok (.bipush 7, 2) := by decide +kernel
theorem dX5_isName_9 : decode cX5_isName 9 = .ok (.if_icmp .eq 16, 3) := by decide +kernel
theorem dX5_isName_12 : decode cX5_isName 12 = .ok (.getstatic 170, 3) := by decide +kernel
theorem dX5_isName_15 : decode cX5_isName 15 = .ok (.bipush 7, 2) := by decide +kernel
theorem dX5_isName_17 : decode cX5_isName 17 = .ok (.iload_n 1, 1) := by decide +kernel
theorem dX5_isName_18 : decode cX5_isName 18 = .ok (.imul, 1) := by decide +kernel
theorem dX5_isName_19 : decode cX5_isName 19 = .ok (.iload_n 2, 1) := by decide +kernel
theorem dX5_isName_20 : decode cX5_isName 20 = .ok (.iadd, 1) := by decide +kernel
theorem dX5_isName_21 : decode cX5_isName 21 = .ok (.iaload, 1) := by decide +kernel
theorem dX5_isName_22 : decode cX5_isName 22 = .ok (.ifCond .ne 7, 3) := by decide +kernel
theorem dX5_isName_25 : decode cX5_isName 25 = .ok (.iconst 1, 1) := by decide +kernel
theorem dX5_isName_26 : decode cX5_isName 26 = .ok (.goto 4, 3) := by decide +kernel
theorem dX5_isName_29 : decode cX5_isName 29 = .ok (.iconst 0, 1) := by decide +kernel
theorem dX5_isName_30 : decode cX5_isName 30 = .ok (.istore_n 3, 1) := by decide +kernel
theorem dX5_isName_31 : decode cX5_isName 31 = .ok (.iconst 0, 1) := by decide +kernel
theorem dX5_isName_32 : decode cX5_isName 32 = .ok (.istore 4, 2) := by decide +kernel
theorem dX5_isName_34 : decode cX5_isName 34 = .ok (.iload 4, 2) := by decide +kernel
theorem dX5_isName_36 : decode cX5_isName 36 = .ok (.iload_n 2, 1) := by decide +kernel
theorem dX5_isName_37 : decode cX5_isName 37 = .ok (.if_icmp .ge 45, 3) := by decide +kernel
theorem dX5_isName_40 : decode cX5_isName 40 = .ok (.iload_n 3, 1) := by decide +kernel
theorem dX5_isName_41 : decode cX5_isName 41 = .ok (.ifCond .eq 41, 3) := by decide +kernel
theorem dX5_isName_44 : decode cX5_isName 44 = .ok (.getstatic 170, 3) := by decide +kernel
theorem dX5_isName_47 : decode cX5_isName 47 = .ok (.bipush 7, 2) := by decide +kernel
theorem dX5_isName_49 : decode cX5_isName 49 = .ok (.iload_n 1, 1) := by decide +kernel
theorem dX5_isName_50 : decode cX5_isName 50 = .ok (.imul, 1) := by decide +kernel
theorem dX5_isName_51 : decode cX5_isName 51 = .ok (.iload 4, 2) := by decide +kernel
theorem dX5_isName_53 : decode cX5_isName 53 = .ok (.iadd, 1) := by decide +kernel
theorem dX5_isName_54 : decode cX5_isName 54 = .ok (.iaload, 1) := by decide +kernel
theorem dX5_isName_55 : decode cX5_isName 55 = .ok (.aload_n 0, 1) := by decide +kernel
theorem dX5_isName_56 : decode cX5_isName 56 = .ok (.getfield 31, 3) := by decide +kernel
theorem dX5_isName_59 : decode cX5_isName 59 = .ok (.aload_n 0, 1) := by decide +kernel
theorem dX5_isName_60 : decode cX5_isName 60 = .ok (.getfield 173, 3) := by decide +kernel
theorem dX5_isName_63 : decode cX5_isName 63 = .ok (.iload 4, 2) := by decide +kernel
theorem dX5_isName_65 : decode cX5_isName 65 = .ok (.iadd, 1) := by decide +kernel
theorem dX5_isName_66 : decode cX5_isName 66 = .ok (.iaload, 1) := by decide +kernel
theorem dX5_isName_67 : decode cX5_isName 67 = .ok (.if_icmp .ne 7, 3) := by decide +kernel
theorem dX5_isName_70 : decode cX5_isName 70 = .ok (.iconst 1, 1) := by decide +kernel
theorem dX5_isName_71 : decode cX5_isName 71 = .ok (.goto 4, 3) := by decide +kernel
theorem dX5_isName_74 : decode cX5_isName 74 = .ok (.iconst 0, 1) := by decide +kernel
theorem dX5_isName_75 : decode cX5_isName 75 = .ok (.istore_n 3, 1) := by decide +kernel
theorem dX5_isName_76 : decode cX5_isName 76 = .ok (.iinc 4 1, 3) := by decide +kernel
theorem dX5_isName_79 : decode cX5_isName 79 = .ok (.goto (-45), 3) := by decide +kernel
theorem dX5_isName_82 : decode cX5_isName 82 = .ok (.iload_n 3, 1) := by decide +kernel
theorem dX5_isName_83 : decode cX5_isName 83 = .ok (.ireturn, 1) := by decide +kernel
theorem dX5_wordHere_0 : decode cX5_wordHere 0 = .ok (.iconst 0, 1) := by decide +kernel
theorem dX5_wordHere_1 : decode cX5_wordHere 1 = .ok (.istore_n 1, 1) := by decide +kernel
theorem dX5_wordHere_2 : decode cX5_wordHere 2 = .ok (.iload_n 1, 1) := by decide +kernel
theorem dX5_wordHere_3 : decode cX5_wordHere 3 = .ok (.bipush 14, 2) := by decide +kernel
theorem dX5_wordHere_5 : decode cX5_wordHere 5 = .ok (.if_icmp .ge 26, 3) := by decide +kernel
theorem dX5_wordHere_8 : decode cX5_wordHere 8 = .ok (.aload_n 0, 1) := by decide +kernel
theorem dX5_wordHere_9 : decode cX5_wordHere 9 = .ok (.iload_n 1, 1) := by decide +kernel
theorem dX5_wordHere_10 : decode cX5_wordHere 10 = .ok (.aload_n 0, 1) := by decide +kernel
theorem dX5_wordHere_11 : decode cX5_wordHere 11 = .ok (.getfield 176, 3) := by decide +kernel
theorem dX5_wordHere_14 : decode cX5_wordHere 14 = .ok (.aload_n 0, 1) := by decide +kernel
theorem dX5_wordHere_15 : decode cX5_wordHere 15 = .ok (.getfield 173, 3) := by decide +kernel
theorem dX5_wordHere_18 : decode cX5_wordHere 18 = .ok (.isub, 1) := by decide +kernel
theorem dX5_wordHere_19 : decode cX5_wordHere 19 = .ok (.invokevirtual 179, 3) := by decide +kernel
theorem dX5_wordHere_22 : decode cX5_wordHere 22 = .ok (.ifCond .ne 9, 3) := by decide +kernel
theorem dX5_wordHere_25 : decode cX5_wordHere 25 = .ok (.iinc 1 1, 3) := by decide +kernel
theorem dX5_wordHere_28 : decode cX5_wordHere 28 = .ok (.goto (-26), 3) := by decide +kernel
theorem dX5_wordHere_31 : decode cX5_wordHere 31 = .ok (.iload_n 1, 1) := by decide +kernel
theorem dX5_wordHere_32 : decode cX5_wordHere 32 = .ok (.bipush 14, 2) := by decide +kernel
theorem dX5_wordHere_34 : decode cX5_wordHere 34 = .ok (.if_icmp .ge 7, 3) := by decide +kernel
theorem dX5_wordHere_37 : decode cX5_wordHere 37 = .ok (.iload_n 1, 1) := by decide +kernel
theorem dX5_wordHere_38 : decode cX5_wordHere 38 = .ok (.goto 5, 3) := by decide +kernel
theorem dX5_wordHere_41 : decode cX5_wordHere 41 = .ok (.bipush 23, 2) := by decide +kernel
theorem dX5_wordHere_43 : decode cX5_wordHere 43 = .ok (.ireturn, 1) := by decide +kernel
theorem dX5_reads_0 : decode cX5_reads 0 = .ok (.aload_n 0, 1) := by decide +kernel
theorem dX5_reads_1 : decode cX5_reads 1 = .ok (.aload_n 0, 1) := by decide +kernel
theorem dX5_reads_2 : decode cX5_reads 2 = .ok (.getfield 176, 3) := by decide +kernel
theorem dX5_reads_5 : decode cX5_reads 5 = .ok (.bipush 32, 2) := by decide +kernel
theorem dX5_reads_7 : decode cX5_reads 7 = .ok (.bipush 32, 2) := by decide +kernel
theorem dX5_reads_9 : decode cX5_reads 9 = .ok (.invokevirtual 182, 3) := by decide +kernel
theorem dX5_reads_12 : decode cX5_reads 12 = .ok (.ifCond .eq 16, 3) := by decide +kernel
theorem dX5_reads_15 : decode cX5_reads 15 = .ok (.aload_n 0, 1) := by decide +kernel
theorem dX5_reads_16 : decode cX5_reads 16 = .ok (.dup, 1) := by decide +kernel
theorem dX5_reads_17 : decode cX5_reads 17 = .ok (.getfield 176, 3) := by decide +kernel
theorem dX5_reads_20 : decode cX5_reads 20 = .ok (.iconst 1, 1) := by decide +kernel
theorem dX5_reads_21 : decode cX5_reads 21 = .ok (.iadd, 1) := by decide +kernel
theorem dX5_reads_22 : decode cX5_reads 22 = .ok (.putfield 176, 3) := by decide +kernel
theorem dX5_reads_25 : decode cX5_reads 25 = .ok (.goto (-25), 3) := by decide +kernel
theorem dX5_reads_28 : decode cX5_reads 28 = .ok (.aload_n 0, 1) := by decide +kernel
theorem dX5_reads_29 : decode cX5_reads 29 = .ok (.aload_n 0, 1) := by decide +kernel
theorem dX5_reads_30 : decode cX5_reads 30 = .ok (.getfield 176, 3) := by decide +kernel
theorem dX5_reads_33 : decode cX5_reads 33 = .ok (.putfield 173, 3) := by decide +kernel
theorem dX5_reads_36 : decode cX5_reads 36 = .ok (.aload_n 0, 1) := by decide +kernel
theorem dX5_reads_37 : decode cX5_reads 37 = .ok (.iconst 0, 1) := by decide +kernel
theorem dX5_reads_38 : decode cX5_reads 38 = .ok (.putfield 185, 3) := by decide +kernel
theorem dX5_reads_41 : decode cX5_reads 41 = .ok (.aload_n 0, 1) := by decide +kernel
theorem dX5_reads_42 : decode cX5_reads 42 = .ok (.getfield 176, 3) := by decide +kernel
theorem dX5_reads_45 : decode cX5_reads 45 = .ok (.aload_n 0, 1) := by decide +kernel
theorem dX5_reads_46 : decode cX5_reads 46 = .ok (.getfield 166, 3) := by decide +kernel
theorem dX5_reads_49 : decode cX5_reads 49 = .ok (.if_icmp .ne 12, 3) := by decide +kernel
theorem dX5_reads_52 : decode cX5_reads 52 = .ok (.aload_n 0, 1) := by decide +kernel
theorem dX5_reads_53 : decode cX5_reads 53 = .ok (.bipush 22, 2) := by decide +kernel
theorem dX5_reads_55 : decode cX5_reads 55 = .ok (.putfield 188, 3) := by decide +kernel
theorem dX5_reads_58 : decode cX5_reads 58 = .ok (.goto 186, 3) := by decide +kernel
theorem dX5_reads_61 : decode cX5_reads 61 = .ok (.aload_n 0, 1) := by decide +kernel
theorem dX5_reads_62 : decode cX5_reads 62 = .ok (.aload_n 0, 1) := by decide +kernel
theorem dX5_reads_63 : decode cX5_reads 63 = .ok (.getfield 176, 3) := by decide +kernel
theorem dX5_reads_66 : decode cX5_reads 66 = .ok (.bipush 97, 2) := by decide +kernel
theorem dX5_reads_68 : decode cX5_reads 68 = .ok (.bipush 122, 2) := by decide +kernel
theorem dX5_reads_70 : decode cX5_reads 70 = .ok (.invokevirtual 182, 3) := by decide +kernel
theorem dX5_reads_73 : decode cX5_reads 73 = .ok (.ifCond .eq 42, 3) := by decide +kernel
theorem dX5_reads_76 : decode cX5_reads 76 = .ok (.aload_n 0, 1) := by decide +kernel
theorem dX5_reads_77 : decode cX5_reads 77 = .ok (.aload_n 0, 1) := by decide +kernel
theorem dX5_reads_78 : decode cX5_reads 78 = .ok (.getfield 176, 3) := by decide +kernel
theorem dX5_reads_81 : decode cX5_reads 81 = .ok (.bipush 97, 2) := by decide +kernel
theorem dX5_reads_83 : decode cX5_reads 83 = .ok (.bipush 122, 2) := by decide +kernel
theorem dX5_reads_85 : decode cX5_reads 85 = .ok (.invokevirtual 182, 3) := by decide +kernel
theorem dX5_reads_88 : decode cX5_reads 88 = .ok (.ifCond .eq 16, 3) := by decide +kernel
theorem dX5_reads_91 : decode cX5_reads 91 = .ok (.aload_n 0, 1) := by decide +kernel
theorem dX5_reads_92 : decode cX5_reads 92 = .ok (.dup, 1) := by decide +kernel
theorem dX5_reads_93 : decode cX5_reads 93 = .ok (.getfield 176, 3) := by decide +kernel
theorem dX5_reads_96 : decode cX5_reads 96 = .ok (.iconst 1, 1) := by decide +kernel
theorem dX5_reads_97 : decode cX5_reads 97 = .ok (.iadd, 1) := by decide +kernel
theorem dX5_reads_98 : decode cX5_reads 98 = .ok (.putfield 176, 3) := by decide +kernel
theorem dX5_reads_101 : decode cX5_reads 101 = .ok (.goto (-25), 3) := by decide +kernel
theorem dX5_reads_104 : decode cX5_reads 104 = .ok (.aload_n 0, 1) := by decide +kernel
theorem dX5_reads_105 : decode cX5_reads 105 = .ok (.aload_n 0, 1) := by decide +kernel
theorem dX5_reads_106 : decode cX5_reads 106 = .ok (.invokevirtual 191, 3) := by decide +kernel
theorem dX5_reads_109 : decode cX5_reads 109 = .ok (.putfield 188, 3) := by decide +kernel
theorem dX5_reads_112 : decode cX5_reads 112 = .ok (.goto 132, 3) := by decide +kernel
theorem dX5_reads_115 : decode cX5_reads 115 = .ok (.aload_n 0, 1) := by decide +kernel
theorem dX5_reads_116 : decode cX5_reads 116 = .ok (.aload_n 0, 1) := by decide +kernel
theorem dX5_reads_117 : decode cX5_reads 117 = .ok (.getfield 176, 3) := by decide +kernel
theorem dX5_reads_120 : decode cX5_reads 120 = .ok (.bipush 48, 2) := by decide +kernel
theorem dX5_reads_122 : decode cX5_reads 122 = .ok (.bipush 57, 2) := by decide +kernel
theorem dX5_reads_124 : decode cX5_reads 124 = .ok (.invokevirtual 182, 3) := by decide +kernel
theorem dX5_reads_127 : decode cX5_reads 127 = .ok (.ifCond .eq 81, 3) := by decide +kernel
theorem dX5_reads_130 : decode cX5_reads 130 = .ok (.aload_n 0, 1) := by decide +kernel
theorem dX5_reads_131 : decode cX5_reads 131 = .ok (.aload_n 0, 1) := by decide +kernel
theorem dX5_reads_132 : decode cX5_reads 132 = .ok (.getfield 176, 3) := by decide +kernel
theorem dX5_reads_135 : decode cX5_reads 135 = .ok (.bipush 48, 2) := by decide +kernel
theorem dX5_reads_137 : decode cX5_reads 137 = .ok (.bipush 57, 2) := by decide +kernel
theorem dX5_reads_139 : decode cX5_reads 139 = .ok (.invokevirtual 182, 3) := by decide +kernel
theorem dX5_reads_142 : decode cX5_reads 142 = .ok (.ifCond .eq 57, 3) := by decide +kernel
theorem dX5_reads_145 : decode cX5_reads 145 = .ok (.aload_n 0, 1) := by decide +kernel
theorem dX5_reads_146 : decode cX5_reads 146 = .ok (.aload_n 0, 1) := by decide +kernel
theorem dX5_reads_147 : decode cX5_reads 147 = .ok (.getfield 185, 3) := by decide +kernel
theorem dX5_reads_150 : decode cX5_reads 150 = .ok (.sipush 999, 3) := by decide +kernel
theorem dX5_reads_153 : decode cX5_reads 153 = .ok (.if_icmp .le 10, 3) := by decide +kernel
theorem dX5_reads_156 : decode cX5_reads 156 = .ok (.aload_n 0, 1) := by decide +kernel
theorem dX5_reads_157 : decode cX5_reads 157 = .ok (.getfield 185, 3) := by decide +kernel
theorem dX5_reads_160 : decode cX5_reads 160 = .ok (.goto 23, 3) := by decide +kernel
theorem dX5_reads_163 : decode cX5_reads 163 = .ok (.bipush 10, 2) := by decide +kernel
theorem dX5_reads_165 : decode cX5_reads 165 = .ok (.aload_n 0, 1) := by decide +kernel
theorem dX5_reads_166 : decode cX5_reads 166 = .ok (.getfield 185, 3) := by decide +kernel
theorem dX5_reads_169 : decode cX5_reads 169 = .ok (.imul, 1) := by decide +kernel
theorem dX5_reads_170 : decode cX5_reads 170 = .ok (.aload_n 0, 1) := by decide +kernel
theorem dX5_reads_171 : decode cX5_reads 171 = .ok (.getfield 31, 3) := by decide +kernel
theorem dX5_reads_174 : decode cX5_reads 174 = .ok (.aload_n 0, 1) := by decide +kernel
theorem dX5_reads_175 : decode cX5_reads 175 = .ok (.getfield 176, 3) := by decide +kernel
theorem dX5_reads_178 : decode cX5_reads 178 = .ok (.iaload, 1) := by decide +kernel
theorem dX5_reads_179 : decode cX5_reads 179 = .ok (.iadd, 1) := by decide +kernel
theorem dX5_reads_180 : decode cX5_reads 180 = .ok (.bipush 48, 2) := by decide +kernel
theorem dX5_reads_182 : decode cX5_reads 182 = .ok (.isub, 1) := by decide +kernel
theorem dX5_reads_183 : decode cX5_reads 183 = .ok (.putfield 185, 3) := by decide +kernel
theorem dX5_reads_186 : decode cX5_reads 186 = .ok (.aload_n 0, 1) := by decide +kernel
theorem dX5_reads_187 : decode cX5_reads 187 = .ok (.dup, 1) := by decide +kernel
theorem dX5_reads_188 : decode cX5_reads 188 = .ok (.getfield 176, 3) := by decide +kernel
theorem dX5_reads_191 : decode cX5_reads 191 = .ok (.iconst 1, 1) := by decide +kernel
theorem dX5_reads_192 : decode cX5_reads 192 = .ok (.iadd, 1) := by decide +kernel
theorem dX5_reads_193 : decode cX5_reads 193 = .ok (.putfield 176, 3) := by decide +kernel
theorem dX5_reads_196 : decode cX5_reads 196 = .ok (.goto (-66), 3) := by decide +kernel
theorem dX5_reads_199 : decode cX5_reads 199 = .ok (.aload_n 0, 1) := by decide +kernel
theorem dX5_reads_200 : decode cX5_reads 200 = .ok (.bipush 20, 2) := by decide +kernel
theorem dX5_reads_202 : decode cX5_reads 202 = .ok (.putfield 188, 3) := by decide +kernel
theorem dX5_reads_205 : decode cX5_reads 205 = .ok (.goto 39, 3) := by decide +kernel
theorem dX5_reads_208 : decode cX5_reads 208 = .ok (.aload_n 0, 1) := by decide +kernel
theorem dX5_reads_209 : decode cX5_reads 209 = .ok (.aload_n 0, 1) := by decide +kernel
theorem dX5_reads_210 : decode cX5_reads 210 = .ok (.aload_n 0, 1) := by decide +kernel
theorem dX5_reads_211 : decode cX5_reads 211 = .ok (.getfield 176, 3) := by decide +kernel
theorem dX5_reads_214 : decode cX5_reads 214 = .ok (.bipush 59, 2) := by decide +kernel
theorem dX5_reads_216 : decode cX5_reads 216 = .ok (.bipush 59, 2) := by decide +kernel
theorem dX5_reads_218 : decode cX5_reads 218 = .ok (.invokevirtual 182, 3) := by decide +kernel
theorem dX5_reads_221 : decode cX5_reads 221 = .ok (.ifCond .eq 8, 3) := by decide +kernel
theorem dX5_reads_224 : decode cX5_reads 224 = .ok (.bipush 21, 2) := by decide +kernel
theorem dX5_reads_226 : decode cX5_reads 226 = .ok (.goto 5, 3) := by decide +kernel
theorem dX5_reads_229 : decode cX5_reads 229 = .ok (.bipush 23, 2) := by decide +kernel
theorem dX5_reads_231 : decode cX5_reads 231 = .ok (.putfield 188, 3) := by decide +kernel
theorem dX5_reads_234 : decode cX5_reads 234 = .ok (.aload_n 0, 1) := by decide +kernel
theorem dX5_reads_235 : decode cX5_reads 235 = .ok (.dup, 1) := by decide +kernel
theorem dX5_reads_236 : decode cX5_reads 236 = .ok (.getfield 176, 3) := by decide +kernel
theorem dX5_reads_239 : decode cX5_reads 239 = .ok (.iconst 1, 1) := by decide +kernel
theorem dX5_reads_240 : decode cX5_reads 240 = .ok (.iadd, 1) := by decide +kernel
theorem dX5_reads_241 : decode cX5_reads 241 = .ok (.putfield 176, 3) := by decide +kernel
theorem dX5_reads_244 : decode cX5_reads 244 = .ok (.return_, 1) := by decide +kernel
theorem dX5_takes_0 : decode cX5_takes 0 = .ok (.aload_n 0, 1) := by decide +kernel
theorem dX5_takes_1 : decode cX5_takes 1 = .ok (.getfield 194, 3) := by decide +kernel
theorem dX5_takes_4 : decode cX5_takes 4 = .ok (.ifCond .ne 11, 3) := by decide +kernel
theorem dX5_takes_7 : decode cX5_takes 7 = .ok (.aload_n 0, 1) := by decide +kernel
theorem dX5_takes_8 : decode cX5_takes 8 = .ok (.getfield 188, 3) := by decide +kernel
theorem dX5_takes_11 : decode cX5_takes 11 = .ok (.iload_n 1, 1) := by decide +kernel
theorem dX5_takes_12 : decode cX5_takes 12 = .ok (.if_icmp .eq 5, 3) := by decide +kernel
theorem dX5_takes_15 : decode cX5_takes 15 = .ok (.iconst 0, 1) := by decide +kernel
theorem dX5_takes_16 : decode cX5_takes 16 = .ok (.ireturn, 1) := by decide +kernel
theorem dX5_takes_17 : decode cX5_takes 17 = .ok (.aload_n 0, 1) := by decide +kernel
theorem dX5_takes_18 : decode cX5_takes 18 = .ok (.invokevirtual 198, 3) := by decide +kernel
theorem dX5_takes_21 : decode cX5_takes 21 = .ok (.iconst 1, 1) := by decide +kernel
theorem dX5_takes_22 : decode cX5_takes 22 = .ok (.ireturn, 1) := by decide +kernel
theorem dX5_number_0 : decode cX5_number 0 = .ok (.aload_n 0, 1) := by decide +kernel
theorem dX5_number_1 : decode cX5_number 1 = .ok (.getfield 185, 3) := by decide +kernel
theorem dX5_number_4 : decode cX5_number 4 = .ok (.istore_n 3, 1) := by decide +kernel
theorem dX5_number_5 : decode cX5_number 5 = .ok (.aload_n 0, 1) := by decide +kernel
theorem dX5_number_6 : decode cX5_number 6 = .ok (.aload_n 0, 1) := by decide +kernel
theorem dX5_number_7 : decode cX5_number 7 = .ok (.getfield 194, 3) := by decide +kernel
theorem dX5_number_10 : decode cX5_number 10 = .ok (.ifCond .ne 21, 3) := by decide +kernel
theorem dX5_number_13 : decode cX5_number 13 = .ok (.aload_n 0, 1) := by decide +kernel
theorem dX5_number_14 : decode cX5_number 14 = .ok (.getfield 188, 3) := by decide +kernel
theorem dX5_number_17 : decode cX5_number 17 = .ok (.bipush 20, 2) := by decide +kernel
theorem dX5_number_19 : decode cX5_number 19 = .ok (.if_icmp .ne 12, 3) := by decide +kernel
theorem dX5_number_22 : decode cX5_number 22 = .ok (.iload_n 3, 1) := by decide +kernel
theorem dX5_number_23 : decode cX5_number 23 = .ok (.iload_n 1, 1) := by decide +kernel
theorem dX5_number_24 : decode cX5_number 24 = .ok (.iload_n 2, 1) := by decide +kernel
theorem dX5_number_25 : decode cX5_number 25 = .ok (.invokestatic 40, 3) := by decide +kernel
theorem dX5_number_28 : decode cX5_number 28 = .ok (.ifCond .ne 7, 3) := by decide +kernel
theorem dX5_number_31 : decode cX5_number 31 = .ok (.iconst 1, 1) := by decide +kernel
theorem dX5_number_32 : decode cX5_number 32 = .ok (.goto 4, 3) := by decide +kernel
theorem dX5_number_35 : decode cX5_number 35 = .ok (.iconst 0, 1) := by decide +kernel
theorem dX5_number_36 : decode cX5_number 36 = .ok (.putfield 194, 3) := by decide +kernel
theorem dX5_number_39 : decode cX5_number 39 = .ok (.aload_n 0, 1) := by decide +kernel
theorem dX5_number_40 : decode cX5_number 40 = .ok (.getfield 194, 3) := by decide +kernel
theorem dX5_number_43 : decode cX5_number 43 = .ok (.ifCond .ne 7, 3) := by decide +kernel
theorem dX5_number_46 : decode cX5_number 46 = .ok (.aload_n 0, 1) := by decide +kernel
theorem dX5_number_47 : decode cX5_number 47 = .ok (.invokevirtual 198, 3) := by decide +kernel
theorem dX5_number_50 : decode cX5_number 50 = .ok (.iload_n 3, 1) := by decide +kernel
theorem dX5_number_51 : decode cX5_number 51 = .ok (.ireturn, 1) := by decide +kernel
theorem dX5_perhaps_0 : decode cX5_perhaps 0 = .ok (.aload_n 0, 1) := by decide +kernel
theorem dX5_perhaps_1 : decode cX5_perhaps 1 = .ok (.iload_n 1, 1) := by decide +kernel
theorem dX5_perhaps_2 : decode cX5_perhaps 2 = .ok (.invokevirtual 201, 3) := by decide +kernel
theorem dX5_perhaps_5 : decode cX5_perhaps 5 = .ok (.ifCond .eq 12, 3) := by decide +kernel
theorem dX5_perhaps_8 : decode cX5_perhaps 8 = .ok (.aload_n 0, 1) := by decide +kernel
theorem dX5_perhaps_9 : decode cX5_perhaps 9 = .ok (.iload_n 2, 1) := by decide +kernel
theorem dX5_perhaps_10 : decode cX5_perhaps 10 = .ok (.iload_n 3, 1) := by decide +kernel
theorem dX5_perhaps_11 : decode cX5_perhaps 11 = .ok (.invokevirtual 204, 3) := by decide +kernel
theorem dX5_perhaps_14 : decode cX5_perhaps 14 = .ok (.goto 5, 3) := by decide +kernel
theorem dX5_perhaps_17 : decode cX5_perhaps 17 = .ok (.iload 4, 2) := by decide +kernel
theorem dX5_perhaps_19 : decode cX5_perhaps 19 = .ok (.ireturn, 1) := by decide +kernel
theorem dX5_dishItem_0 : decode cX5_dishItem 0 = .ok (.aload_n 0, 1) := by decide +kernel
theorem dX5_dishItem_1 : decode cX5_dishItem 1 = .ok (.getfield 188, 3) := by decide +kernel
theorem dX5_dishItem_4 : decode cX5_dishItem 4 = .ok (.istore_n 1, 1) := by decide +kernel
theorem dX5_dishItem_5 : decode cX5_dishItem 5 = .ok (.aload_n 0, 1) := by decide +kernel
theorem dX5_dishItem_6 : decode cX5_dishItem 6 = .ok (.aload_n 0, 1) := by decide +kernel
theorem dX5_dishItem_7 : decode cX5_dishItem 7 = .ok (.getfield 9, 3) := by decide +kernel
theorem dX5_dishItem_10 : decode cX5_dishItem 10 = .ok (.iconst 5, 1) := by decide +kernel
theorem dX5_dishItem_11 : decode cX5_dishItem 11 = .ok (.iaload, 1) := by decide +kernel
theorem dX5_dishItem_12 : decode cX5_dishItem 12 = .ok (.bipush 8, 2) := by decide +kernel
theorem dX5_dishItem_14 : decode cX5_dishItem 14 = .ok (.if_icmp .ne 7, 3) := by decide +kernel
theorem dX5_dishItem_17 : decode cX5_dishItem 17 = .ok (.iconst 1, 1) := by decide +kernel
theorem dX5_dishItem_18 : decode cX5_dishItem 18 = .ok (.goto 4, 3) := by decide +kernel
theorem dX5_dishItem_21 : decode cX5_dishItem 21 = .ok (.iconst 0, 1) := by decide +kernel
theorem dX5_dishItem_22 : decode cX5_dishItem 22 = .ok (.putfield 194, 3) := by decide +kernel
theorem dX5_dishItem_25 : decode cX5_dishItem 25 = .ok (.aload_n 0, 1) := by decide +kernel
theorem dX5_dishItem_26 : decode cX5_dishItem 26 = .ok (.getfield 194, 3) := by decide +kernel
theorem dX5_dishItem_29 : decode cX5_dishItem 29 = .ok (.ifCond .eq 4, 3) := by decide +kernel
theorem dX5_dishItem_32 : decode cX5_dishItem 32 = .ok (.return_, 1) := by decide +kernel
theorem dX5_dishItem_33 : decode cX5_dishItem 33 = .ok (.aload_n 0, 1) := by decide +kernel
theorem dX5_dishItem_34 : decode cX5_dishItem 34 = .ok (.invokevirtual 198, 3) := by decide +kernel
theorem dX5_dishItem_37 : decode cX5_dishItem 37 = .ok (.aload_n 0, 1) := by decide +kernel
theorem dX5_dishItem_38 : decode cX5_dishItem 38 = .ok (.bipush 7, 2) := by decide +kernel
theorem dX5_dishItem_40 : decode cX5_dishItem 40 = .ok (.iconst 0, 1) := by decide +kernel
theorem dX5_dishItem_41 : decode cX5_dishItem 41 = .ok (.bipush 99, 2) := by decide +kernel
theorem dX5_dishItem_43 : decode cX5_dishItem 43 = .ok (.bipush 10, 2) := by decide +kernel
theorem dX5_dishItem_45 : decode cX5_dishItem 45 = .ok (.invokevirtual 207, 3) := by decide +kernel
theorem dX5_dishItem_48 : decode cX5_dishItem 48 = .ok (.istore_n 2, 1) := by decide +kernel
theorem dX5_dishItem_49 : decode cX5_dishItem 49 = .ok (.aload_n 0, 1) := by decide +kernel
theorem dX5_dishItem_50 : decode cX5_dishItem 50 = .ok (.bipush 8, 2) := by decide +kernel
theorem dX5_dishItem_52 : decode cX5_dishItem 52 = .ok (.iconst 0, 1) := by decide +kernel
theorem dX5_dishItem_53 : decode cX5_dishItem 53 = .ok (.bipush 99, 2) := by decide +kernel
theorem dX5_dishItem_55 : decode cX5_dishItem 55 = .ok (.bipush 10, 2) := by decide +kernel
theorem dX5_dishItem_57 : decode cX5_dishItem 57 = .ok (.invokevirtual 207, 3) := by decide +kernel
theorem dX5_dishItem_60 : decode cX5_dishItem 60 = .ok (.istore_n 3, 1) := by decide +kernel
theorem dX5_dishItem_61 : decode cX5_dishItem 61 = .ok (.aload_n 0, 1) := by decide +kernel
theorem dX5_dishItem_62 : decode cX5_dishItem 62 = .ok (.bipush 9, 2) := by decide +kernel
theorem dX5_dishItem_64 : decode cX5_dishItem 64 = .ok (.invokevirtual 201, 3) := by decide +kernel
theorem dX5_dishItem_67 : decode cX5_dishItem 67 = .ok (.ifCond .eq 7, 3) := by decide +kernel
theorem dX5_dishItem_70 : decode cX5_dishItem 70 = .ok (.iconst 1, 1) := by decide +kernel
theorem dX5_dishItem_71 : decode cX5_dishItem 71 = .ok (.goto 4, 3) := by decide +kernel
theorem dX5_dishItem_74 : decode cX5_dishItem 74 = .ok (.iconst 0, 1) := by decide +kernel
theorem dX5_dishItem_75 : decode cX5_dishItem 75 = .ok (.istore 4, 2) := by decide +kernel
theorem dX5_dishItem_77 : decode cX5_dishItem 77 = .ok (.aload_n 0, 1) := by decide +kernel
theorem dX5_dishItem_78 : decode cX5_dishItem 78 = .ok (.bipush 10, 2) := by decide +kernel
theorem dX5_dishItem_80 : decode cX5_dishItem 80 = .ok (.invokevirtual 201, 3) := by decide +kernel
theorem dX5_dishItem_83 : decode cX5_dishItem 83 = .ok (.ifCond .eq 7, 3) := by decide +kernel
theorem dX5_dishItem_86 : decode cX5_dishItem 86 = .ok (.iconst 1, 1) := by decide +kernel
theorem dX5_dishItem_87 : decode cX5_dishItem 87 = .ok (.goto 4, 3) := by decide +kernel
theorem dX5_dishItem_90 : decode cX5_dishItem 90 = .ok (.iconst 0, 1) := by decide +kernel
theorem dX5_dishItem_91 : decode cX5_dishItem 91 = .ok (.istore 5, 2) := by decide +kernel
theorem dX5_dishItem_93 : decode cX5_dishItem 93 = .ok (.aload_n 0, 1) := by decide +kernel
theorem dX5_dishItem_94 : decode cX5_dishItem 94 = .ok (.getfield 194, 3) := by decide +kernel
theorem dX5_dishItem_97 : decode cX5_dishItem 97 = .ok (.ifCond .ne 16, 3) := by decide +kernel
theorem dX5_dishItem_100 : decode cX5_dishItem 100 = .ok (.aload_n 0, 1) := by decide +kernel
theorem dX5_dishItem_101 : decode cX5_dishItem 101 = .ok (.iload_n 1, 1) := by decide +kernel
theorem dX5_dishItem_102 : decode cX5_dishItem 102 = .ok (.iload_n 2, 1) := by decide +kernel
theorem dX5_dishItem_103 : decode cX5_dishItem 103 = .ok (.iload_n 3, 1) := by decide +kernel
theorem dX5_dishItem_104 : decode cX5_dishItem 104 = .ok (.iload 4, 2) := by decide +kernel
theorem dX5_dishItem_106 : decode cX5_dishItem 106 = .ok (.iload 5, 2) := by decide +kernel
theorem dX5_dishItem_108 : decode cX5_dishItem 108 = .ok (.invokevirtual 64, 3) := by decide +kernel
theorem dX5_dishItem_111 : decode cX5_dishItem 111 = .ok (.istore 6, 2) := by decide +kernel
theorem dX5_dishItem_113 : decode cX5_dishItem 113 = .ok (.return_, 1) := by decide +kernel
theorem dX5_deedItem_0 : decode cX5_deedItem 0 = .ok (.aload_n 0, 1) := by decide +kernel
theorem dX5_deedItem_1 : decode cX5_deedItem 1 = .ok (.iconst 0, 1) := by decide +kernel
theorem dX5_deedItem_2 : decode cX5_deedItem 2 = .ok (.iconst 5, 1) := by decide +kernel
theorem dX5_deedItem_3 : decode cX5_deedItem 3 = .ok (.invokevirtual 204, 3) := by decide +kernel
theorem dX5_deedItem_6 : decode cX5_deedItem 6 = .ok (.istore_n 1, 1) := by decide +kernel
theorem dX5_deedItem_7 : decode cX5_deedItem 7 = .ok (.aload_n 0, 1) := by decide +kernel
theorem dX5_deedItem_8 : decode cX5_deedItem 8 = .ok (.iconst 0, 1) := by decide +kernel
theorem dX5_deedItem_9 : decode cX5_deedItem 9 = .ok (.bipush 11, 2) := by decide +kernel
theorem dX5_deedItem_11 : decode cX5_deedItem 11 = .ok (.invokevirtual 204, 3) := by decide +kernel
theorem dX5_deedItem_14 : decode cX5_deedItem 14 = .ok (.istore_n 2, 1) := by decide +kernel
theorem dX5_deedItem_15 : decode cX5_deedItem 15 = .ok (.aload_n 0, 1) := by decide +kernel
theorem dX5_deedItem_16 : decode cX5_deedItem 16 = .ok (.getfield 194, 3) := by decide +kernel
theorem dX5_deedItem_19 : decode cX5_deedItem 19 = .ok (.ifCond .ne 13, 3) := by decide +kernel
theorem dX5_deedItem_22 : decode cX5_deedItem 22 = .ok (.aload_n 0, 1) := by decide +kernel
theorem dX5_deedItem_23 : decode cX5_deedItem 23 = .ok (.getfield 9, 3) := by decide +kernel
theorem dX5_deedItem_26 : decode cX5_deedItem 26 = .ok (.bipush 6, 2) := by decide +kernel
theorem dX5_deedItem_28 : decode cX5_deedItem 28 = .ok (.iload_n 1, 1) := by decide +kernel
theorem dX5_deedItem_29 : decode cX5_deedItem 29 = .ok (.iadd, 1) := by decide +kernel
theorem dX5_deedItem_30 : decode cX5_deedItem 30 = .ok (.iload_n 2, 1) := by decide +kernel
theorem dX5_deedItem_31 : decode cX5_deedItem 31 = .ok (.iastore, 1) := by decide +kernel
theorem dX5_deedItem_32 : decode cX5_deedItem 32 = .ok (.return_, 1) := by decide +kernel
theorem dX5_item_0 : decode cX5_item 0 = .ok (.aload_n 0, 1) := by decide +kernel
theorem dX5_item_1 : decode cX5_item 1 = .ok (.getfield 188, 3) := by decide +kernel
theorem dX5_item_4 : decode cX5_item 4 = .ok (.bipush 6, 2) := by decide +kernel
theorem dX5_item_6 : decode cX5_item 6 = .ok (.if_icmp .gt 10, 3) := by decide +kernel
theorem dX5_item_9 : decode cX5_item 9 = .ok (.aload_n 0, 1) := by decide +kernel
theorem dX5_item_10 : decode cX5_item 10 = .ok (.invokevirtual 211, 3) := by decide +kernel
theorem dX5_item_13 : decode cX5_item 13 = .ok (.goto 74, 3) := by decide +kernel
theorem dX5_item_16 : decode cX5_item 16 = .ok (.aload_n 0, 1) := by decide +kernel
theorem dX5_item_17 : decode cX5_item 17 = .ok (.bipush 11, 2) := by decide +kernel
theorem dX5_item_19 : decode cX5_item 19 = .ok (.invokevirtual 201, 3) := by decide +kernel
theorem dX5_item_22 : decode cX5_item 22 = .ok (.ifCond .eq 10, 3) := by decide +kernel
theorem dX5_item_25 : decode cX5_item 25 = .ok (.aload_n 0, 1) := by decide +kernel
theorem dX5_item_26 : decode cX5_item 26 = .ok (.invokevirtual 214, 3) := by decide +kernel
theorem dX5_item_29 : decode cX5_item 29 = .ok (.goto 58, 3) := by decide +kernel
theorem dX5_item_32 : decode cX5_item 32 = .ok (.aload_n 0, 1) := by decide +kernel
theorem dX5_item_33 : decode cX5_item 33 = .ok (.bipush 12, 2) := by decide +kernel
theorem dX5_item_35 : decode cX5_item 35 = .ok (.invokevirtual 201, 3) := by decide +kernel
theorem dX5_item_38 : decode cX5_item 38 = .ok (.ifCond .eq 19, 3) := by decide +kernel
theorem dX5_item_41 : decode cX5_item 41 = .ok (.aload_n 0, 1) := by decide +kernel
theorem dX5_item_42 : decode cX5_item 42 = .ok (.getfield 9, 3) := by decide +kernel
theorem dX5_item_45 : decode cX5_item 45 = .ok (.iconst 1, 1) := by decide +kernel
theorem dX5_item_46 : decode cX5_item 46 = .ok (.aload_n 0, 1) := by decide +kernel
theorem dX5_item_47 : decode cX5_item 47 = .ok (.iconst 0, 1) := by decide +kernel
theorem dX5_item_48 : decode cX5_item 48 = .ok (.bipush 99, 2) := by decide +kernel
theorem dX5_item_50 : decode cX5_item 50 = .ok (.invokevirtual 204, 3) := by decide +kernel
theorem dX5_item_53 : decode cX5_item 53 = .ok (.iastore, 1) := by decide +kernel
theorem dX5_item_54 : decode cX5_item 54 = .ok (.goto 33, 3) := by decide +kernel
theorem dX5_item_57 : decode cX5_item 57 = .ok (.aload_n 0, 1) := by decide +kernel
theorem dX5_item_58 : decode cX5_item 58 = .ok (.bipush 13, 2) := by decide +kernel
theorem dX5_item_60 : decode cX5_item 60 = .ok (.invokevirtual 201, 3) := by decide +kernel
theorem dX5_item_63 : decode cX5_item 63 = .ok (.ifCond .eq 19, 3) := by decide +kernel
theorem dX5_item_66 : decode cX5_item 66 = .ok (.aload_n 0, 1) := by decide +kernel
theorem dX5_item_67 : decode cX5_item 67 = .ok (.getfield 9, 3) := by decide +kernel
theorem dX5_item_70 : decode cX5_item 70 = .ok (.iconst 2, 1) := by decide +kernel
theorem dX5_item_71 : decode cX5_item 71 = .ok (.aload_n 0, 1) := by decide +kernel
theorem dX5_item_72 : decode cX5_item 72 = .ok (.iconst 0, 1) := by decide +kernel
theorem dX5_item_73 : decode cX5_item 73 = .ok (.bipush 9, 2) := by decide +kernel
theorem dX5_item_75 : decode cX5_item 75 = .ok (.invokevirtual 204, 3) := by decide +kernel
theorem dX5_item_78 : decode cX5_item 78 = .ok (.iastore, 1) := by decide +kernel
theorem dX5_item_79 : decode cX5_item 79 = .ok (.goto 8, 3) := by decide +kernel
theorem dX5_item_82 : decode cX5_item 82 = .ok (.aload_n 0, 1) := by decide +kernel
theorem dX5_item_83 : decode cX5_item 83 = .ok (.iconst 1, 1) := by decide +kernel
theorem dX5_item_84 : decode cX5_item 84 = .ok (.putfield 194, 3) := by decide +kernel
theorem dX5_item_87 : decode cX5_item 87 = .ok (.return_, 1) := by decide +kernel
theorem dX5_text_0 : decode cX5_text 0 = .ok (.aload_n 0, 1) := by decide +kernel
theorem dX5_text_1 : decode cX5_text 1 = .ok (.invokevirtual 133, 3) := by decide +kernel
theorem dX5_text_4 : decode cX5_text 4 = .ok (.aload_n 0, 1) := by decide +kernel
theorem dX5_text_5 : decode cX5_text 5 = .ok (.iconst 0, 1) := by decide +kernel
theorem dX5_text_6 : decode cX5_text 6 = .ok (.putfield 176, 3) := by decide +kernel
theorem dX5_text_9 : decode cX5_text 9 = .ok (.aload_n 0, 1) := by decide +kernel
theorem dX5_text_10 : decode cX5_text 10 = .ok (.iconst 0, 1) := by decide +kernel
theorem dX5_text_11 : decode cX5_text 11 = .ok (.putfield 194, 3) := by decide +kernel
theorem dX5_text_14 : decode cX5_text 14 = .ok (.aload_n 0, 1) := by decide +kernel
theorem dX5_text_15 : decode cX5_text 15 = .ok (.invokevirtual 198, 3) := by decide +kernel
theorem dX5_text_18 : decode cX5_text 18 = .ok (.aload_n 0, 1) := by decide +kernel
theorem dX5_text_19 : decode cX5_text 19 = .ok (.invokevirtual 217, 3) := by decide +kernel
theorem dX5_text_22 : decode cX5_text 22 = .ok (.iconst 1, 1) := by decide +kernel
theorem dX5_text_23 : decode cX5_text 23 = .ok (.istore_n 1, 1) := by decide +kernel
theorem dX5_text_24 : decode cX5_text 24 = .ok (.aload_n 0, 1) := by decide +kernel
theorem dX5_text_25 : decode cX5_text 25 = .ok (.bipush 21, 2) := by decide +kernel
theorem dX5_text_27 : decode cX5_text 27 = .ok (.invokevirtual 201, 3) := by decide +kernel
theorem dX5_text_30 : decode cX5_text 30 = .ok (.ifCond .eq 13, 3) := by decide +kernel
theorem dX5_text_33 : decode cX5_text 33 = .ok (.aload_n 0, 1) := by decide +kernel
theorem dX5_text_34 : decode cX5_text 34 = .ok (.invokevirtual 217, 3) := by decide +kernel
theorem dX5_text_37 : decode cX5_text 37 = .ok (.iinc 1 1, 3) := by decide +kernel
theorem dX5_text_40 : decode cX5_text 40 = .ok (.goto (-16), 3) := by decide +kernel
theorem dX5_text_43 : decode cX5_text 43 = .ok (.aload_n 0, 1) := by decide +kernel
theorem dX5_text_44 : decode cX5_text 44 = .ok (.aload_n 0, 1) := by decide +kernel
theorem dX5_text_45 : decode cX5_text 45 = .ok (.getfield 194, 3) := by decide +kernel
theorem dX5_text_48 : decode cX5_text 48 = .ok (.ifCond .ne 12, 3) := by decide +kernel
theorem dX5_text_51 : decode cX5_text 51 = .ok (.aload_n 0, 1) := by decide +kernel
theorem dX5_text_52 : decode cX5_text 52 = .ok (.getfield 188, 3) := by decide +kernel
theorem dX5_text_55 : decode cX5_text 55 = .ok (.bipush 22, 2) := by decide +kernel
theorem dX5_text_57 : decode cX5_text 57 = .ok (.if_icmp .eq 7, 3) := by decide +kernel
theorem dX5_text_60 : decode cX5_text 60 = .ok (.iconst 1, 1) := by decide +kernel
theorem dX5_text_61 : decode cX5_text 61 = .ok (.goto 4, 3) := by decide +kernel
theorem dX5_text_64 : decode cX5_text 64 = .ok (.iconst 0, 1) := by decide +kernel
theorem dX5_text_65 : decode cX5_text 65 = .ok (.putfield 194, 3) := by decide +kernel
theorem dX5_text_68 : decode cX5_text 68 = .ok (.aload_n 0, 1) := by decide +kernel
theorem dX5_text_69 : decode cX5_text 69 = .ok (.iconst 0, 1) := by decide +kernel
theorem dX5_text_70 : decode cX5_text 70 = .ok (.putfield 166, 3) := by decide +kernel
theorem dX5_text_73 : decode cX5_text 73 = .ok (.aload_n 0, 1) := by decide +kernel
theorem dX5_text_74 : decode cX5_text 74 = .ok (.getfield 194, 3) := by decide +kernel
theorem dX5_text_77 : decode cX5_text 77 = .ok (.ifCond .ne 5, 3) := by decide +kernel
theorem dX5_text_80 : decode cX5_text 80 = .ok (.iload_n 1, 1) := by decide +kernel
theorem dX5_text_81 : decode cX5_text 81 = .ok (.ireturn, 1) := by decide +kernel
theorem dX5_text_82 : decode cX5_text 82 = .ok (.aload_n 0, 1) := by decide +kernel
theorem dX5_text_83 : decode cX5_text 83 = .ok (.invokevirtual 136, 3) := by decide +kernel
theorem dX5_text_86 : decode cX5_text 86 = .ok (.iconst (-1), 1) := by decide +kernel
theorem dX5_text_87 : decode cX5_text 87 = .ok (.aload_n 0, 1) := by decide +kernel
theorem dX5_text_88 : decode cX5_text 88 = .ok (.getfield 173, 3) := by decide +kernel
theorem dX5_text_91 : decode cX5_text 91 = .ok (.isub, 1) := by decide +kernel
theorem dX5_text_92 : decode cX5_text 92 = .ok (.ireturn, 1) := by decide +kernel
theorem dX5_hold_0 : decode cX5_hold 0 = .ok (.iload_n 1, 1) := by decide +kernel
theorem dX5_hold_1 : decode cX5_hold 1 = .ok (.iconst 0, 1) := by decide +kernel
theorem dX5_hold_2 : decode cX5_hold 2 = .ok (.bipush 9, 2) := by decide +kernel
theorem dX5_hold_4 : decode cX5_hold 4 = .ok (.invokestatic 40, 3) := by decide +kernel
theorem dX5_hold_7 : decode cX5_hold 7 = .ok (.ifCond .eq 16, 3) := by decide +kernel
theorem dX5_hold_10 : decode cX5_hold 10 = .ok (.iload_n 2, 1) := by decide +kernel
theorem dX5_hold_11 : decode cX5_hold 11 = .ok (.iconst (-1), 1) := by decide +kernel
theorem dX5_hold_12 : decode cX5_hold 12 = .ok (.if_icmp .eq 18, 3) := by decide +kernel
theorem dX5_hold_15 : decode cX5_hold 15 = .ok (.aload_n 0, 1) := by decide +kernel
theorem dX5_hold_16 : decode cX5_hold 16 = .ok (.iload_n 2, 1) := by decide +kernel
theorem dX5_hold_17 : decode cX5_hold 17 = .ok (.invokevirtual 68, 3) := by decide +kernel
theorem dX5_hold_20 : decode cX5_hold 20 = .ok (.ifCond .ne 10, 3) := by decide +kernel
theorem dX5_hold_23 : decode cX5_hold 23 = .ok (.aload_n 0, 1) := by decide +kernel
theorem dX5_hold_24 : decode cX5_hold 24 = .ok (.ldc 34, 2) := by decide +kernel
theorem dX5_hold_26 : decode cX5_hold 26 = .ok (.invokevirtual 36, 3) := by decide +kernel
theorem dX5_hold_29 : decode cX5_hold 29 = .ok (.ireturn, 1) := by decide +kernel
theorem dX5_hold_30 : decode cX5_hold 30 = .ok (.aload_n 0, 1) := by decide +kernel
theorem dX5_hold_31 : decode cX5_hold 31 = .ok (.getfield 9, 3) := by decide +kernel
theorem dX5_hold_34 : decode cX5_hold 34 = .ok (.bipush 60, 2) := by decide +kernel
theorem dX5_hold_36 : decode cX5_hold 36 = .ok (.iload_n 1, 1) := by decide +kernel
theorem dX5_hold_37 : decode cX5_hold 37 = .ok (.iadd, 1) := by decide +kernel
theorem dX5_hold_38 : decode cX5_hold 38 = .ok (.iload_n 2, 1) := by decide +kernel
theorem dX5_hold_39 : decode cX5_hold 39 = .ok (.iastore, 1) := by decide +kernel
theorem dX5_hold_40 : decode cX5_hold 40 = .ok (.iconst 1, 1) := by decide +kernel
theorem dX5_hold_41 : decode cX5_hold 41 = .ok (.ireturn, 1) := by decide +kernel
theorem dX5_isUnder_0 : decode cX5_isUnder 0 = .ok (.iload_n 0, 1) := by decide +kernel
theorem dX5_isUnder_1 : decode cX5_isUnder 1 = .ok (.iconst 3, 1) := by decide +kernel
theorem dX5_isUnder_2 : decode cX5_isUnder 2 = .ok (.if_icmp .eq 8, 3) := by decide +kernel
theorem dX5_isUnder_5 : decode cX5_isUnder 5 = .ok (.iload_n 0, 1) := by decide +kernel
theorem dX5_isUnder_6 : decode cX5_isUnder 6 = .ok (.iconst 4, 1) := by decide +kernel
theorem dX5_isUnder_7 : decode cX5_isUnder 7 = .ok (.if_icmp .ne 7, 3) := by decide +kernel
theorem dX5_isUnder_10 : decode cX5_isUnder 10 = .ok (.iconst 1, 1) := by decide +kernel
theorem dX5_isUnder_11 : decode cX5_isUnder 11 = .ok (.goto 4, 3) := by decide +kernel
theorem dX5_isUnder_14 : decode cX5_isUnder 14 = .ok (.iconst 0, 1) := by decide +kernel
theorem dX5_isUnder_15 : decode cX5_isUnder 15 = .ok (.istore_n 2, 1) := by decide +kernel
theorem dX5_isUnder_16 : decode cX5_isUnder 16 = .ok (.iload_n 1, 1) := by decide +kernel
theorem dX5_isUnder_17 : decode cX5_isUnder 17 = .ok (.ifCond .eq 38, 3) := by decide +kernel
theorem dX5_isUnder_20 : decode cX5_isUnder 20 = .ok (.iload_n 1, 1) := by decide +kernel
theorem dX5_isUnder_21 : decode cX5_isUnder 21 = .ok (.iload_n 0, 1) := by decide +kernel
theorem dX5_isUnder_22 : decode cX5_isUnder 22 = .ok (.if_icmp .eq 33, 3) := by decide +kernel
theorem dX5_isUnder_25 : decode cX5_isUnder 25 = .ok (.iload_n 1, 1) := by decide +kernel
theorem dX5_isUnder_26 : decode cX5_isUnder 26 = .ok (.iconst 1, 1) := by decide +kernel
theorem dX5_isUnder_27 : decode cX5_isUnder 27 = .ok (.if_icmp .ne 9, 3) := by decide +kernel
theorem dX5_isUnder_30 : decode cX5_isUnder 30 = .ok (.iload_n 0, 1) := by decide +kernel
theorem dX5_isUnder_31 : decode cX5_isUnder 31 = .ok (.bipush 6, 2) := by decide +kernel
theorem dX5_isUnder_33 : decode cX5_isUnder 33 = .ok (.if_icmp .eq 22, 3) := by decide +kernel
theorem dX5_isUnder_36 : decode cX5_isUnder 36 = .ok (.iload_n 1, 1) := by decide +kernel
theorem dX5_isUnder_37 : decode cX5_isUnder 37 = .ok (.iconst 2, 1) := by decide +kernel
theorem dX5_isUnder_38 : decode cX5_isUnder 38 = .ok (.if_icmp .ne 7, 3) := by decide +kernel
theorem dX5_isUnder_41 : decode cX5_isUnder 41 = .ok (.iload_n 2, 1) := by decide +kernel
theorem dX5_isUnder_42 : decode cX5_isUnder 42 = .ok (.ifCond .ne 13, 3) := by decide +kernel
theorem dX5_isUnder_45 : decode cX5_isUnder 45 = .ok (.iload_n 1, 1) := by decide +kernel
theorem dX5_isUnder_46 : decode cX5_isUnder 46 = .ok (.iconst 3, 1) := by decide +kernel
theorem dX5_isUnder_47 : decode cX5_isUnder 47 = .ok (.if_icmp .ne 12, 3) := by decide +kernel
theorem dX5_isUnder_50 : decode cX5_isUnder 50 = .ok (.iload_n 0, 1) := by decide +kernel
theorem dX5_isUnder_51 : decode cX5_isUnder 51 = .ok (.iconst 4, 1) := by decide +kernel
theorem dX5_isUnder_52 : decode cX5_isUnder 52 = .ok (.if_icmp .ne 7, 3) := by decide +kernel
theorem dX5_isUnder_55 : decode cX5_isUnder 55 = .ok (.iconst 1, 1) := by decide +kernel
theorem dX5_isUnder_56 : decode cX5_isUnder 56 = .ok (.goto 4, 3) := by decide +kernel
theorem dX5_isUnder_59 : decode cX5_isUnder 59 = .ok (.iconst 0, 1) := by decide +kernel
theorem dX5_isUnder_60 : decode cX5_isUnder 60 = .ok (.ireturn, 1) := by decide +kernel
theorem dX5_as_0 : decode cX5_as 0 = .ok (.iload_n 1, 1) := by decide +kernel
theorem dX5_as_1 : decode cX5_as 1 = .ok (.iconst 0, 1) := by decide +kernel
theorem dX5_as_2 : decode cX5_as 2 = .ok (.bipush 9, 2) := by decide +kernel
theorem dX5_as_4 : decode cX5_as 4 = .ok (.invokestatic 40, 3) := by decide +kernel
theorem dX5_as_7 : decode cX5_as 7 = .ok (.ifCond .eq 13, 3) := by decide +kernel
theorem dX5_as_10 : decode cX5_as 10 = .ok (.iload_n 2, 1) := by decide +kernel
theorem dX5_as_11 : decode cX5_as 11 = .ok (.iconst 0, 1) := by decide +kernel
theorem dX5_as_12 : decode cX5_as 12 = .ok (.bipush 6, 2) := by decide +kernel
theorem dX5_as_14 : decode cX5_as 14 = .ok (.invokestatic 40, 3) := by decide +kernel
theorem dX5_as_17 : decode cX5_as 17 = .ok (.ifCond .ne 10, 3) := by decide +kernel
theorem dX5_as_20 : decode cX5_as 20 = .ok (.aload_n 0, 1) := by decide +kernel
theorem dX5_as_21 : decode cX5_as 21 = .ok (.ldc 34, 2) := by decide +kernel
theorem dX5_as_23 : decode cX5_as 23 = .ok (.invokevirtual 36, 3) := by decide +kernel
theorem dX5_as_26 : decode cX5_as 26 = .ok (.ireturn, 1) := by decide +kernel
theorem dX5_as_27 : decode cX5_as 27 = .ok (.aload_n 0, 1) := by decide +kernel
theorem dX5_as_28 : decode cX5_as 28 = .ok (.getfield 9, 3) := by decide +kernel
theorem dX5_as_31 : decode cX5_as 31 = .ok (.bipush 60, 2) := by decide +kernel
theorem dX5_as_33 : decode cX5_as 33 = .ok (.iload_n 1, 1) := by decide +kernel
theorem dX5_as_34 : decode cX5_as 34 = .ok (.iadd, 1) := by decide +kernel
theorem dX5_as_35 : decode cX5_as 35 = .ok (.iaload, 1) := by decide +kernel
theorem dX5_as_36 : decode cX5_as 36 = .ok (.istore_n 3, 1) := by decide +kernel
theorem dX5_as_37 : decode cX5_as 37 = .ok (.iload_n 3, 1) := by decide +kernel
theorem dX5_as_38 : decode cX5_as 38 = .ok (.ifCond .ge 10, 3) := by decide +kernel
theorem dX5_as_41 : decode cX5_as 41 = .ok (.aload_n 0, 1) := by decide +kernel
theorem dX5_as_42 : decode cX5_as 42 = .ok (.ldc 152, 2) := by decide +kernel
theorem dX5_as_44 : decode cX5_as 44 = .ok (.invokevirtual 36, 3) := by decide +kernel
theorem dX5_as_47 : decode cX5_as 47 = .ok (.ireturn, 1) := by decide +kernel
theorem dX5_as_48 : decode cX5_as 48 = .ok (.aload_n 0, 1) := by decide +kernel
theorem dX5_as_49 : decode cX5_as 49 = .ok (.iload_n 3, 1) := by decide +kernel
theorem dX5_as_50 : decode cX5_as 50 = .ok (.iconst 0, 1) := by decide +kernel
theorem dX5_as_51 : decode cX5_as 51 = .ok (.invokevirtual 44, 3) := by decide +kernel
theorem dX5_as_54 : decode cX5_as 54 = .ok (.iload_n 2, 1) := by decide +kernel
theorem dX5_as_55 : decode cX5_as 55 = .ok (.invokestatic 220, 3) := by decide +kernel
theorem dX5_as_58 : decode cX5_as 58 = .ok (.ifCond .eq 7, 3) := by decide +kernel
theorem dX5_as_61 : decode cX5_as 61 = .ok (.iload_n 3, 1) := by decide +kernel
theorem dX5_as_62 : decode cX5_as 62 = .ok (.goto 9, 3) := by decide +kernel
theorem dX5_as_65 : decode cX5_as 65 = .ok (.aload_n 0, 1) := by decide +kernel
theorem dX5_as_66 : decode cX5_as 66 = .ok (.ldc 223, 2) := by decide +kernel
theorem dX5_as_68 : decode cX5_as 68 = .ok (.invokevirtual 36, 3) := by decide +kernel
theorem dX5_as_71 : decode cX5_as 71 = .ok (.ireturn, 1) := by decide +kernel
theorem dX5_sheet_0 : decode cX5_sheet 0 = .ok (.iload_n 1, 1) := by decide +kernel
theorem dX5_sheet_1 : decode cX5_sheet 1 = .ok (.invokestatic 149, 3) := by decide +kernel
theorem dX5_sheet_4 : decode cX5_sheet 4 = .ok (.ifCond .eq 25, 3) := by decide +kernel
theorem dX5_sheet_7 : decode cX5_sheet 7 = .ok (.iload_n 2, 1) := by decide +kernel
theorem dX5_sheet_8 : decode cX5_sheet 8 = .ok (.ifCond .eq 28, 3) := by decide +kernel
theorem dX5_sheet_11 : decode cX5_sheet 11 = .ok (.iload_n 2, 1) := by decide +kernel
theorem dX5_sheet_12 : decode cX5_sheet 12 = .ok (.bipush 8, 2) := by decide +kernel
theorem dX5_sheet_14 : decode cX5_sheet 14 = .ok (.if_icmp .eq 22, 3) := by decide +kernel
theorem dX5_sheet_17 : decode cX5_sheet 17 = .ok (.iload_n 2, 1) := by decide +kernel
theorem dX5_sheet_18 : decode cX5_sheet 18 = .ok (.bipush 16, 2) := by decide +kernel
theorem dX5_sheet_20 : decode cX5_sheet 20 = .ok (.if_icmp .eq 16, 3) := by decide +kernel
theorem dX5_sheet_23 : decode cX5_sheet 23 = .ok (.iload_n 2, 1) := by decide +kernel
theorem dX5_sheet_24 : decode cX5_sheet 24 = .ok (.bipush 32, 2) := by decide +kernel
theorem dX5_sheet_26 : decode cX5_sheet 26 = .ok (.if_icmp .eq 10, 3) := by decide +kernel
theorem dX5_sheet_29 : decode cX5_sheet 29 = .ok (.aload_n 0, 1) := by decide +kernel
theorem dX5_sheet_30 : decode cX5_sheet 30 = .ok (.ldc 34, 2) := by decide +kernel
theorem dX5_sheet_32 : decode cX5_sheet 32 = .ok (.invokevirtual 36, 3) := by decide +kernel
theorem dX5_sheet_35 : decode cX5_sheet 35 = .ok (.ireturn, 1) := by decide +kernel
theorem dX5_sheet_36 : decode cX5_sheet 36 = .ok (.iload_n 3, 1) := by decide +kernel
theorem dX5_sheet_37 : decode cX5_sheet 37 = .ok (.ifCond .ge 10, 3) := by decide +kernel
theorem dX5_sheet_40 : decode cX5_sheet 40 = .ok (.aload_n 0, 1) := by decide +kernel
theorem dX5_sheet_41 : decode cX5_sheet 41 = .ok (.ldc 224, 2) := by decide +kernel
theorem dX5_sheet_43 : decode cX5_sheet 43 = .ok (.invokevirtual 36, 3) := by decide +kernel
theorem dX5_sheet_46 : decode cX5_sheet 46 = .ok (.ireturn, 1) := by decide +kernel
theorem dX5_sheet_47 : decode cX5_sheet 47 = .ok (.iload_n 3, 1) := by decide +kernel
theorem dX5_sheet_48 : decode cX5_sheet 48 = .ok (.bipush 40, 2) := by decide +kernel
theorem dX5_sheet_50 : decode cX5_sheet 50 = .ok (.if_icmp .le 10, 3) := by decide +kernel
theorem dX5_sheet_53 : decode cX5_sheet 53 = .ok (.aload_n 0, 1) := by decide +kernel
theorem dX5_sheet_54 : decode cX5_sheet 54 = .ok (.ldc 34, 2) := by decide +kernel
theorem dX5_sheet_56 : decode cX5_sheet 56 = .ok (.invokevirtual 36, 3) := by decide +kernel
theorem dX5_sheet_59 : decode cX5_sheet 59 = .ok (.ireturn, 1) := by decide +kernel
theorem dX5_sheet_60 : decode cX5_sheet 60 = .ok (.aload_n 0, 1) := by decide +kernel
theorem dX5_sheet_61 : decode cX5_sheet 61 = .ok (.getfield 22, 3) := by decide +kernel
theorem dX5_sheet_64 : decode cX5_sheet 64 = .ok (.iload_n 1, 1) := by decide +kernel
theorem dX5_sheet_65 : decode cX5_sheet 65 = .ok (.iload_n 2, 1) := by decide +kernel
theorem dX5_sheet_66 : decode cX5_sheet 66 = .ok (.iastore, 1) := by decide +kernel
theorem dX5_sheet_67 : decode cX5_sheet 67 = .ok (.aload_n 0, 1) := by decide +kernel
theorem dX5_sheet_68 : decode cX5_sheet 68 = .ok (.getfield 25, 3) := by decide +kernel
theorem dX5_sheet_71 : decode cX5_sheet 71 = .ok (.iload_n 1, 1) := by decide +kernel
theorem dX5_sheet_72 : decode cX5_sheet 72 = .ok (.iload_n 2, 1) := by decide +kernel
theorem dX5_sheet_73 : decode cX5_sheet 73 = .ok (.ifCond .ne 7, 3) := by decide +kernel
theorem dX5_sheet_76 : decode cX5_sheet 76 = .ok (.iconst 0, 1) := by decide +kernel
theorem dX5_sheet_77 : decode cX5_sheet 77 = .ok (.goto 4, 3) := by decide +kernel
theorem dX5_sheet_80 : decode cX5_sheet 80 = .ok (.iload_n 3, 1) := by decide +kernel
theorem dX5_sheet_81 : decode cX5_sheet 81 = .ok (.iastore, 1) := by decide +kernel
theorem dX5_sheet_82 : decode cX5_sheet 82 = .ok (.iconst 0, 1) := by decide +kernel
theorem dX5_sheet_83 : decode cX5_sheet 83 = .ok (.istore 4, 2) := by decide +kernel
theorem dX5_sheet_85 : decode cX5_sheet 85 = .ok (.iload 4, 2) := by decide +kernel
theorem dX5_sheet_87 : decode cX5_sheet 87 = .ok (.bipush 40, 2) := by decide +kernel
theorem dX5_sheet_89 : decode cX5_sheet 89 = .ok (.if_icmp .ge 22, 3) := by decide +kernel
theorem dX5_sheet_92 : decode cX5_sheet 92 = .ok (.aload_n 0, 1) := by decide +kernel
theorem dX5_sheet_93 : decode cX5_sheet 93 = .ok (.getfield 28, 3) := by decide +kernel
theorem dX5_sheet_96 : decode cX5_sheet 96 = .ok (.bipush 40, 2) := by decide +kernel
theorem dX5_sheet_98 : decode cX5_sheet 98 = .ok (.iload_n 1, 1) := by decide +kernel
theorem dX5_sheet_99 : decode cX5_sheet 99 = .ok (.imul, 1) := by decide +kernel
theorem dX5_sheet_100 : decode cX5_sheet 100 = .ok (.iload 4, 2) := by decide +kernel
theorem dX5_sheet_102 : decode cX5_sheet 102 = .ok (.iadd, 1) := by decide +kernel
theorem dX5_sheet_103 : decode cX5_sheet 103 = .ok (.iconst 0, 1) := by decide +kernel
theorem dX5_sheet_104 : decode cX5_sheet 104 = .ok (.iastore, 1) := by decide +kernel
theorem dX5_sheet_105 : decode cX5_sheet 105 = .ok (.iinc 4 1, 3) := by decide +kernel
theorem dX5_sheet_108 : decode cX5_sheet 108 = .ok (.goto (-23), 3) := by decide +kernel
theorem dX5_sheet_111 : decode cX5_sheet 111 = .ok (.aload_n 0, 1) := by decide +kernel
theorem dX5_sheet_112 : decode cX5_sheet 112 = .ok (.getfield 25, 3) := by decide +kernel
theorem dX5_sheet_115 : decode cX5_sheet 115 = .ok (.iload_n 1, 1) := by decide +kernel
theorem dX5_sheet_116 : decode cX5_sheet 116 = .ok (.iaload, 1) := by decide +kernel
theorem dX5_sheet_117 : decode cX5_sheet 117 = .ok (.ireturn, 1) := by decide +kernel
theorem dX5_write_0 : decode cX5_write 0 = .ok (.aload_n 0, 1) := by decide +kernel
theorem dX5_write_1 : decode cX5_write 1 = .ok (.iload_n 1, 1) := by decide +kernel
theorem dX5_write_2 : decode cX5_write 2 = .ok (.invokevirtual 153, 3) := by decide +kernel
theorem dX5_write_5 : decode cX5_write 5 = .ok (.istore 4, 2) := by decide +kernel
theorem dX5_write_7 : decode cX5_write 7 = .ok (.iload 4, 2) := by decide +kernel
theorem dX5_write_9 : decode cX5_write 9 = .ok (.ifCond .ne 24, 3) := by decide +kernel
theorem dX5_write_12 : decode cX5_write 12 = .ok (.iload_n 2, 1) := by decide +kernel
theorem dX5_write_13 : decode cX5_write 13 = .ok (.iconst 0, 1) := by decide +kernel
theorem dX5_write_14 : decode cX5_write 14 = .ok (.aload_n 0, 1) := by decide +kernel
theorem dX5_write_15 : decode cX5_write 15 = .ok (.getfield 25, 3) := by decide +kernel
theorem dX5_write_18 : decode cX5_write 18 = .ok (.iload_n 1, 1) := by decide +kernel
theorem dX5_write_19 : decode cX5_write 19 = .ok (.iaload, 1) := by decide +kernel
theorem dX5_write_20 : decode cX5_write 20 = .ok (.iconst 1, 1) := by decide +kernel
theorem dX5_write_21 : decode cX5_write 21 = .ok (.isub, 1) := by decide +kernel
theorem dX5_write_22 : decode cX5_write 22 = .ok (.invokestatic 40, 3) := by decide +kernel
theorem dX5_write_25 : decode cX5_write 25 = .ok (.ifCond .ne 8, 3) := by decide +kernel
theorem dX5_write_28 : decode cX5_write 28 = .ok (.ldc 34, 2) := by decide +kernel
theorem dX5_write_30 : decode cX5_write 30 = .ok (.goto 5, 3) := by decide +kernel
theorem dX5_write_33 : decode cX5_write 33 = .ok (.iload 4, 2) := by decide +kernel
theorem dX5_write_35 : decode cX5_write 35 = .ok (.istore 4, 2) := by decide +kernel
theorem dX5_write_37 : decode cX5_write 37 = .ok (.iload 4, 2) := by decide +kernel
theorem dX5_write_39 : decode cX5_write 39 = .ok (.ifCond .eq 10, 3) := by decide +kernel
theorem dX5_write_42 : decode cX5_write 42 = .ok (.aload_n 0, 1) := by decide +kernel
theorem dX5_write_43 : decode cX5_write 43 = .ok (.iload 4, 2) := by decide +kernel
theorem dX5_write_45 : decode cX5_write 45 = .ok (.invokevirtual 36, 3) := by decide +kernel
theorem dX5_write_48 : decode cX5_write 48 = .ok (.ireturn, 1) := by decide +kernel
theorem dX5_write_49 : decode cX5_write 49 = .ok (.aload_n 0, 1) := by decide +kernel
theorem dX5_write_50 : decode cX5_write 50 = .ok (.getfield 28, 3) := by decide +kernel
theorem dX5_write_53 : decode cX5_write 53 = .ok (.bipush 40, 2) := by decide +kernel
theorem dX5_write_55 : decode cX5_write 55 = .ok (.iload_n 1, 1) := by decide +kernel
theorem dX5_write_56 : decode cX5_write 56 = .ok (.imul, 1) := by decide +kernel
theorem dX5_write_57 : decode cX5_write 57 = .ok (.iload_n 2, 1) := by decide +kernel
theorem dX5_write_58 : decode cX5_write 58 = .ok (.iadd, 1) := by decide +kernel
theorem dX5_write_59 : decode cX5_write 59 = .ok (.aload_n 0, 1) := by decide +kernel
theorem dX5_write_60 : decode cX5_write 60 = .ok (.getfield 22, 3) := by decide +kernel
theorem dX5_write_63 : decode cX5_write 63 = .ok (.iload_n 1, 1) := by decide +kernel
theorem dX5_write_64 : decode cX5_write 64 = .ok (.iaload, 1) := by decide +kernel
theorem dX5_write_65 : decode cX5_write 65 = .ok (.bipush 8, 2) := by decide +kernel
theorem dX5_write_67 : decode cX5_write 67 = .ok (.if_icmp .ne 8, 3) := by decide +kernel
theorem dX5_write_70 : decode cX5_write 70 = .ok (.iload_n 3, 1) := by decide +kernel
theorem dX5_write_71 : decode cX5_write 71 = .ok (.i2b, 1) := by decide +kernel
theorem dX5_write_72 : decode cX5_write 72 = .ok (.goto 20, 3) := by decide +kernel
theorem dX5_write_75 : decode cX5_write 75 = .ok (.aload_n 0, 1) := by decide +kernel
theorem dX5_write_76 : decode cX5_write 76 = .ok (.getfield 22, 3) := by decide +kernel
theorem dX5_write_79 : decode cX5_write 79 = .ok (.iload_n 1, 1) := by decide +kernel
theorem dX5_write_80 : decode cX5_write 80 = .ok (.iaload, 1) := by decide +kernel
theorem dX5_write_81 : decode cX5_write 81 = .ok (.bipush 16, 2) := by decide +kernel
theorem dX5_write_83 : decode cX5_write 83 = .ok (.if_icmp .ne 8, 3) := by decide +kernel
theorem dX5_write_86 : decode cX5_write 86 = .ok (.iload_n 3, 1) := by decide +kernel
theorem dX5_write_87 : decode cX5_write 87 = .ok (.i2s, 1) := by decide +kernel
theorem dX5_write_88 : decode cX5_write 88 = .ok (.goto 4, 3) := by decide +kernel
theorem dX5_write_91 : decode cX5_write 91 = .ok (.iload_n 3, 1) := by decide +kernel
theorem dX5_write_92 : decode cX5_write 92 = .ok (.iastore, 1) := by decide +kernel
theorem dX5_write_93 : decode cX5_write 93 = .ok (.iconst 1, 1) := by decide +kernel
theorem dX5_write_94 : decode cX5_write 94 = .ok (.ireturn, 1) := by decide +kernel
theorem dX5_notCopied_0 : decode cX5_notCopied 0 = .ok (.iload_n 1, 1) := by decide +kernel
theorem dX5_notCopied_1 : decode cX5_notCopied 1 = .ok (.invokestatic 149, 3) := by decide +kernel
theorem dX5_notCopied_4 : decode cX5_notCopied 4 = .ok (.ifCond .eq 10, 3) := by decide +kernel
theorem dX5_notCopied_7 : decode cX5_notCopied 7 = .ok (.iload_n 3, 1) := by decide +kernel
theorem dX5_notCopied_8 : decode cX5_notCopied 8 = .ok (.invokestatic 149, 3) := by decide +kernel
theorem dX5_notCopied_11 : decode cX5_notCopied 11 = .ok (.ifCond .ne 6, 3) := by decide +kernel
theorem dX5_notCopied_14 : decode cX5_notCopied 14 = .ok (.ldc 34, 2) := by decide +kernel
theorem dX5_notCopied_16 : decode cX5_notCopied 16 = .ok (.ireturn, 1) := by decide +kernel
theorem dX5_notCopied_17 : decode cX5_notCopied 17 = .ok (.aload_n 0, 1) := by decide +kernel
theorem dX5_notCopied_18 : decode cX5_notCopied 18 = .ok (.getfield 22, 3) := by decide +kernel
theorem dX5_notCopied_21 : decode cX5_notCopied 21 = .ok (.iload_n 1, 1) := by decide +kernel
theorem dX5_notCopied_22 : decode cX5_notCopied 22 = .ok (.iaload, 1) := by decide +kernel
theorem dX5_notCopied_23 : decode cX5_notCopied 23 = .ok (.ifCond .eq 12, 3) := by decide +kernel
theorem dX5_notCopied_26 : decode cX5_notCopied 26 = .ok (.aload_n 0, 1) := by decide +kernel
theorem dX5_notCopied_27 : decode cX5_notCopied 27 = .ok (.getfield 22, 3) := by decide +kernel
theorem dX5_notCopied_30 : decode cX5_notCopied 30 = .ok (.iload_n 3, 1) := by decide +kernel
theorem dX5_notCopied_31 : decode cX5_notCopied 31 = .ok (.iaload, 1) := by decide +kernel
theorem dX5_notCopied_32 : decode cX5_notCopied 32 = .ok (.ifCond .ne 6, 3) := by decide +kernel
theorem dX5_notCopied_35 : decode cX5_notCopied 35 = .ok (.ldc 152, 2) := by decide +kernel
theorem dX5_notCopied_37 : decode cX5_notCopied 37 = .ok (.ireturn, 1) := by decide +kernel
theorem dX5_notCopied_38 : decode cX5_notCopied 38 = .ok (.aload_n 0, 1) := by decide +kernel
theorem dX5_notCopied_39 : decode cX5_notCopied 39 = .ok (.getfield 22, 3) := by decide +kernel
theorem dX5_notCopied_42 : decode cX5_notCopied 42 = .ok (.iload_n 1, 1) := by decide +kernel
theorem dX5_notCopied_43 : decode cX5_notCopied 43 = .ok (.iaload, 1) := by decide +kernel
theorem dX5_notCopied_44 : decode cX5_notCopied 44 = .ok (.aload_n 0, 1) := by decide +kernel
theorem dX5_notCopied_45 : decode cX5_notCopied 45 = .ok (.getfield 22, 3) := by decide +kernel
theorem dX5_notCopied_48 : decode cX5_notCopied 48 = .ok (.iload_n 3, 1) := by decide +kernel
theorem dX5_notCopied_49 : decode cX5_notCopied 49 = .ok (.iaload, 1) := by decide +kernel
theorem dX5_notCopied_50 : decode cX5_notCopied 50 = .ok (.if_icmp .eq 6, 3) := by decide +kernel
theorem dX5_notCopied_53 : decode cX5_notCopied 53 = .ok (.ldc 223, 2) := by decide +kernel
theorem dX5_notCopied_55 : decode cX5_notCopied 55 = .ok (.ireturn, 1) := by decide +kernel
theorem dX5_notCopied_56 : decode cX5_notCopied 56 = .ok (.iload 5, 2) := by decide +kernel
theorem dX5_notCopied_58 : decode cX5_notCopied 58 = .ok (.ifCond .lt 43, 3) := by decide +kernel
theorem dX5_notCopied_61 : decode cX5_notCopied 61 = .ok (.iload_n 2, 1) := by decide +kernel
theorem dX5_notCopied_62 : decode cX5_notCopied 62 = .ok (.ifCond .lt 39, 3) := by decide +kernel
theorem dX5_notCopied_65 : decode cX5_notCopied 65 = .ok (.iload 4, 2) := by decide +kernel
theorem dX5_notCopied_67 : decode cX5_notCopied 67 = .ok (.ifCond .lt 34, 3) := by decide +kernel
theorem dX5_notCopied_70 : decode cX5_notCopied 70 = .ok (.iload 5, 2) := by decide +kernel
theorem dX5_notCopied_72 : decode cX5_notCopied 72 = .ok (.aload_n 0, 1) := by decide +kernel
theorem dX5_notCopied_73 : decode cX5_notCopied 73 = .ok (.getfield 25, 3) := by decide +kernel
theorem dX5_notCopied_76 : decode cX5_notCopied 76 = .ok (.iload_n 1, 1) := by decide +kernel
theorem dX5_notCopied_77 : decode cX5_notCopied 77 = .ok (.iaload, 1) := by decide +kernel
theorem dX5_notCopied_78 : decode cX5_notCopied 78 = .ok (.iload_n 2, 1) := by decide +kernel
theorem dX5_notCopied_79 : decode cX5_notCopied 79 = .ok (.isub, 1) := by decide +kernel
theorem dX5_notCopied_80 : decode cX5_notCopied 80 = .ok (.if_icmp .gt 21, 3) := by decide +kernel
theorem dX5_notCopied_83 : decode cX5_notCopied 83 = .ok (.iload 5, 2) := by decide +kernel
theorem dX5_notCopied_85 : decode cX5_notCopied 85 = .ok (.aload_n 0, 1) := by decide +kernel
theorem dX5_notCopied_86 : decode cX5_notCopied 86 = .ok (.getfield 25, 3) := by decide +kernel
theorem dX5_notCopied_89 : decode cX5_notCopied 89 = .ok (.iload_n 3, 1) := by decide +kernel
theorem dX5_notCopied_90 : decode cX5_notCopied 90 = .ok (.iaload, 1) := by decide +kernel
theorem dX5_notCopied_91 : decode cX5_notCopied 91 = .ok (.iload 4, 2) := by decide +kernel
theorem dX5_notCopied_93 : decode cX5_notCopied 93 = .ok (.isub, 1) := by decide +kernel
theorem dX5_notCopied_94 : decode cX5_notCopied 94 = .ok (.if_icmp .gt 7, 3) := by decide +kernel
theorem dX5_notCopied_97 : decode cX5_notCopied 97 = .ok (.iconst 1, 1) := by decide +kernel
theorem dX5_notCopied_98 : decode cX5_notCopied 98 = .ok (.goto 4, 3) := by decide +kernel
theorem dX5_notCopied_101 : decode cX5_notCopied 101 = .ok (.iconst 0, 1) := by decide +kernel
theorem dX5_notCopied_102 : decode cX5_notCopied 102 = .ok (.istore 6, 2) := by decide +kernel
theorem dX5_notCopied_104 : decode cX5_notCopied 104 = .ok (.iload 6, 2) := by decide +kernel
theorem dX5_notCopied_106 : decode cX5_notCopied 106 = .ok (.ifCond .eq 7, 3) := by decide +kernel
theorem dX5_notCopied_109 : decode cX5_notCopied 109 = .ok (.iconst 0, 1) := by decide +kernel
theorem dX5_notCopied_110 : decode cX5_notCopied 110 = .ok (.goto 5, 3) := by decide +kernel
theorem dX5_notCopied_113 : decode cX5_notCopied 113 = .ok (.ldc 34, 2) := by decide +kernel
theorem dX5_notCopied_115 : decode cX5_notCopied 115 = .ok (.ireturn, 1) := by decide +kernel
theorem dX5_copy_0 : decode cX5_copy 0 = .ok (.aload_n 0, 1) := by decide +kernel
theorem dX5_copy_1 : decode cX5_copy 1 = .ok (.iload_n 1, 1) := by decide +kernel
theorem dX5_copy_2 : decode cX5_copy 2 = .ok (.iload_n 2, 1) := by decide +kernel
theorem dX5_copy_3 : decode cX5_copy 3 = .ok (.iload_n 3, 1) := by decide +kernel
theorem dX5_copy_4 : decode cX5_copy 4 = .ok (.iload 4, 2) := by decide +kernel
theorem dX5_copy_6 : decode cX5_copy 6 = .ok (.iload 5, 2) := by decide +kernel
theorem dX5_copy_8 : decode cX5_copy 8 = .ok (.invokevirtual 225, 3) := by decide +kernel
theorem dX5_copy_11 : decode cX5_copy 11 = .ok (.istore 6, 2) := by decide +kernel
theorem dX5_copy_13 : decode cX5_copy 13 = .ok (.iload 6, 2) := by decide +kernel
theorem dX5_copy_15 : decode cX5_copy 15 = .ok (.ifCond .eq 10, 3) := by decide +kernel
theorem dX5_copy_18 : decode cX5_copy 18 = .ok (.aload_n 0, 1) := by decide +kernel
theorem dX5_copy_19 : decode cX5_copy 19 = .ok (.iload 6, 2) := by decide +kernel
theorem dX5_copy_21 : decode cX5_copy 21 = .ok (.invokevirtual 36, 3) := by decide +kernel
theorem dX5_copy_24 : decode cX5_copy 24 = .ok (.ireturn, 1) := by decide +kernel
theorem dX5_copy_25 : decode cX5_copy 25 = .ok (.iconst 0, 1) := by decide +kernel
theorem dX5_copy_26 : decode cX5_copy 26 = .ok (.istore 7, 2) := by decide +kernel
theorem dX5_copy_28 : decode cX5_copy 28 = .ok (.iload 7, 2) := by decide +kernel
theorem dX5_copy_30 : decode cX5_copy 30 = .ok (.iload 5, 2) := by decide +kernel
theorem dX5_copy_32 : decode cX5_copy 32 = .ok (.if_icmp .ge 58, 3) := by decide +kernel
theorem dX5_copy_35 : decode cX5_copy 35 = .ok (.iload_n 2, 1) := by decide +kernel
theorem dX5_copy_36 : decode cX5_copy 36 = .ok (.iload 4, 2) := by decide +kernel
theorem dX5_copy_38 : decode cX5_copy 38 = .ok (.if_icmp .ge 13, 3) := by decide +kernel
theorem dX5_copy_41 : decode cX5_copy 41 = .ok (.iload 5, 2) := by decide +kernel
theorem dX5_copy_43 : decode cX5_copy 43 = .ok (.iconst 1, 1) := by decide +kernel
theorem dX5_copy_44 : decode cX5_copy 44 = .ok (.isub, 1) := by decide +kernel
theorem dX5_copy_45 : decode cX5_copy 45 = .ok (.iload 7, 2) := by decide +kernel
theorem dX5_copy_47 : decode cX5_copy 47 = .ok (.isub, 1) := by decide +kernel
theorem dX5_copy_48 : decode cX5_copy 48 = .ok (.goto 5, 3) := by decide +kernel
theorem dX5_copy_51 : decode cX5_copy 51 = .ok (.iload 7, 2) := by decide +kernel
theorem dX5_copy_53 : decode cX5_copy 53 = .ok (.istore 8, 2) := by decide +kernel
theorem dX5_copy_55 : decode cX5_copy 55 = .ok (.aload_n 0, 1) := by decide +kernel
theorem dX5_copy_56 : decode cX5_copy 56 = .ok (.getfield 28, 3) := by decide +kernel
theorem dX5_copy_59 : decode cX5_copy 59 = .ok (.bipush 40, 2) := by decide +kernel
theorem dX5_copy_61 : decode cX5_copy 61 = .ok (.iload_n 3, 1) := by decide +kernel
theorem dX5_copy_62 : decode cX5_copy 62 = .ok (.imul, 1) := by decide +kernel
theorem dX5_copy_63 : decode cX5_copy 63 = .ok (.iload 4, 2) := by decide +kernel
theorem dX5_copy_65 : decode cX5_copy 65 = .ok (.iadd, 1) := by decide +kernel
theorem dX5_copy_66 : decode cX5_copy 66 = .ok (.iload 8, 2) := by decide +kernel
theorem dX5_copy_68 : decode cX5_copy 68 = .ok (.iadd, 1) := by decide +kernel
theorem dX5_copy_69 : decode cX5_copy 69 = .ok (.aload_n 0, 1) := by decide +kernel
theorem dX5_copy_70 : decode cX5_copy 70 = .ok (.getfield 28, 3) := by decide +kernel
theorem dX5_copy_73 : decode cX5_copy 73 = .ok (.bipush 40, 2) := by decide +kernel
theorem dX5_copy_75 : decode cX5_copy 75 = .ok (.iload_n 1, 1) := by decide +kernel
theorem dX5_copy_76 : decode cX5_copy 76 = .ok (.imul, 1) := by decide +kernel
theorem dX5_copy_77 : decode cX5_copy 77 = .ok (.iload_n 2, 1) := by decide +kernel
theorem dX5_copy_78 : decode cX5_copy 78 = .ok (.iadd, 1) := by decide +kernel
theorem dX5_copy_79 : decode cX5_copy 79 = .ok (.iload 8, 2) := by decide +kernel
theorem dX5_copy_81 : decode cX5_copy 81 = .ok (.iadd, 1) := by decide +kernel
theorem dX5_copy_82 : decode cX5_copy 82 = .ok (.iaload, 1) := by decide +kernel
theorem dX5_copy_83 : decode cX5_copy 83 = .ok (.iastore, 1) := by decide +kernel
theorem dX5_copy_84 : decode cX5_copy 84 = .ok (.iinc 7 1, 3) := by decide +kernel
theorem dX5_copy_87 : decode cX5_copy 87 = .ok (.goto (-59), 3) := by decide +kernel
theorem dX5_copy_90 : decode cX5_copy 90 = .ok (.iload 5, 2) := by decide +kernel
theorem dX5_copy_92 : decode cX5_copy 92 = .ok (.ireturn, 1) := by decide +kernel
theorem dX5_load_0 : decode cX5_load 0 = .ok (.aload_n 0, 1) := by decide +kernel
theorem dX5_load_1 : decode cX5_load 1 = .ok (.iload_n 1, 1) := by decide +kernel
theorem dX5_load_2 : decode cX5_load 2 = .ok (.invokevirtual 153, 3) := by decide +kernel
theorem dX5_load_5 : decode cX5_load 5 = .ok (.istore_n 2, 1) := by decide +kernel
theorem dX5_load_6 : decode cX5_load 6 = .ok (.iload_n 2, 1) := by decide +kernel
theorem dX5_load_7 : decode cX5_load 7 = .ok (.ifCond .eq 9, 3) := by decide +kernel
theorem dX5_load_10 : decode cX5_load 10 = .ok (.aload_n 0, 1) := by decide +kernel
theorem dX5_load_11 : decode cX5_load 11 = .ok (.iload_n 2, 1) := by decide +kernel
theorem dX5_load_12 : decode cX5_load 12 = .ok (.invokevirtual 36, 3) := by decide +kernel
theorem dX5_load_15 : decode cX5_load 15 = .ok (.ireturn, 1) := by decide +kernel
theorem dX5_load_16 : decode cX5_load 16 = .ok (.iconst 0, 1) := by decide +kernel
theorem dX5_load_17 : decode cX5_load 17 = .ok (.istore_n 3, 1) := by decide +kernel
theorem dX5_load_18 : decode cX5_load 18 = .ok (.iload_n 3, 1) := by decide +kernel
theorem dX5_load_19 : decode cX5_load 19 = .ok (.aload_n 0, 1) := by decide +kernel
theorem dX5_load_20 : decode cX5_load 20 = .ok (.getfield 25, 3) := by decide +kernel
theorem dX5_load_23 : decode cX5_load 23 = .ok (.iload_n 1, 1) := by decide +kernel
theorem dX5_load_24 : decode cX5_load 24 = .ok (.iaload, 1) := by decide +kernel
theorem dX5_load_25 : decode cX5_load 25 = .ok (.if_icmp .ge 52, 3) := by decide +kernel
theorem dX5_load_28 : decode cX5_load 28 = .ok (.iload_n 3, 1) := by decide +kernel
theorem dX5_load_29 : decode cX5_load 29 = .ok (.bipush 6, 2) := by decide +kernel
theorem dX5_load_31 : decode cX5_load 31 = .ok (.if_icmp .ge 46, 3) := by decide +kernel
theorem dX5_load_34 : decode cX5_load 34 = .ok (.aload_n 0, 1) := by decide +kernel
theorem dX5_load_35 : decode cX5_load 35 = .ok (.getfield 28, 3) := by decide +kernel
theorem dX5_load_38 : decode cX5_load 38 = .ok (.bipush 40, 2) := by decide +kernel
theorem dX5_load_40 : decode cX5_load 40 = .ok (.iload_n 1, 1) := by decide +kernel
theorem dX5_load_41 : decode cX5_load 41 = .ok (.imul, 1) := by decide +kernel
theorem dX5_load_42 : decode cX5_load 42 = .ok (.iload_n 3, 1) := by decide +kernel
theorem dX5_load_43 : decode cX5_load 43 = .ok (.iadd, 1) := by decide +kernel
theorem dX5_load_44 : decode cX5_load 44 = .ok (.iaload, 1) := by decide +kernel
theorem dX5_load_45 : decode cX5_load 45 = .ok (.invokestatic 55, 3) := by decide +kernel
theorem dX5_load_48 : decode cX5_load 48 = .ok (.ifCond .eq 29, 3) := by decide +kernel
theorem dX5_load_51 : decode cX5_load 51 = .ok (.aload_n 0, 1) := by decide +kernel
theorem dX5_load_52 : decode cX5_load 52 = .ok (.getfield 9, 3) := by decide +kernel
theorem dX5_load_55 : decode cX5_load 55 = .ok (.bipush 6, 2) := by decide +kernel
theorem dX5_load_57 : decode cX5_load 57 = .ok (.iload_n 3, 1) := by decide +kernel
theorem dX5_load_58 : decode cX5_load 58 = .ok (.iadd, 1) := by decide +kernel
theorem dX5_load_59 : decode cX5_load 59 = .ok (.aload_n 0, 1) := by decide +kernel
theorem dX5_load_60 : decode cX5_load 60 = .ok (.getfield 28, 3) := by decide +kernel
theorem dX5_load_63 : decode cX5_load 63 = .ok (.bipush 40, 2) := by decide +kernel
theorem dX5_load_65 : decode cX5_load 65 = .ok (.iload_n 1, 1) := by decide +kernel
theorem dX5_load_66 : decode cX5_load 66 = .ok (.imul, 1) := by decide +kernel
theorem dX5_load_67 : decode cX5_load 67 = .ok (.iload_n 3, 1) := by decide +kernel
theorem dX5_load_68 : decode cX5_load 68 = .ok (.iadd, 1) := by decide +kernel
theorem dX5_load_69 : decode cX5_load 69 = .ok (.iaload, 1) := by decide +kernel
theorem dX5_load_70 : decode cX5_load 70 = .ok (.iastore, 1) := by decide +kernel
theorem dX5_load_71 : decode cX5_load 71 = .ok (.iinc 3 1, 3) := by decide +kernel
theorem dX5_load_74 : decode cX5_load 74 = .ok (.goto (-56), 3) := by decide +kernel
theorem dX5_load_77 : decode cX5_load 77 = .ok (.iload_n 3, 1) := by decide +kernel
theorem dX5_load_78 : decode cX5_load 78 = .ok (.ireturn, 1) := by decide +kernel
theorem dX5_judge_0 : decode cX5_judge 0 = .ok (.aload_n 0, 1) := by decide +kernel
theorem dX5_judge_1 : decode cX5_judge 1 = .ok (.iload_n 1, 1) := by decide +kernel
theorem dX5_judge_2 : decode cX5_judge 2 = .ok (.invokevirtual 153, 3) := by decide +kernel
theorem dX5_judge_5 : decode cX5_judge 5 = .ok (.istore_n 2, 1) := by decide +kernel
theorem dX5_judge_6 : decode cX5_judge 6 = .ok (.iload_n 2, 1) := by decide +kernel
theorem dX5_judge_7 : decode cX5_judge 7 = .ok (.ifCond .eq 9, 3) := by decide +kernel
theorem dX5_judge_10 : decode cX5_judge 10 = .ok (.aload_n 0, 1) := by decide +kernel
theorem dX5_judge_11 : decode cX5_judge 11 = .ok (.iload_n 2, 1) := by decide +kernel
theorem dX5_judge_12 : decode cX5_judge 12 = .ok (.invokevirtual 36, 3) := by decide +kernel
theorem dX5_judge_15 : decode cX5_judge 15 = .ok (.ireturn, 1) := by decide +kernel
theorem dX5_judge_16 : decode cX5_judge 16 = .ok (.iconst 0, 1) := by decide +kernel
theorem dX5_judge_17 : decode cX5_judge 17 = .ok (.istore_n 3, 1) := by decide +kernel
theorem dX5_judge_18 : decode cX5_judge 18 = .ok (.iload_n 3, 1) := by decide +kernel
theorem dX5_judge_19 : decode cX5_judge 19 = .ok (.aload_n 0, 1) := by decide +kernel
theorem dX5_judge_20 : decode cX5_judge 20 = .ok (.getfield 25, 3) := by decide +kernel
theorem dX5_judge_23 : decode cX5_judge 23 = .ok (.iload_n 1, 1) := by decide +kernel
theorem dX5_judge_24 : decode cX5_judge 24 = .ok (.iaload, 1) := by decide +kernel
theorem dX5_judge_25 : decode cX5_judge 25 = .ok (.if_icmp .ge 41, 3) := by decide +kernel
theorem dX5_judge_28 : decode cX5_judge 28 = .ok (.aload_n 0, 1) := by decide +kernel
theorem dX5_judge_29 : decode cX5_judge 29 = .ok (.iload_n 3, 1) := by decide +kernel
theorem dX5_judge_30 : decode cX5_judge 30 = .ok (.invokevirtual 68, 3) := by decide +kernel
theorem dX5_judge_33 : decode cX5_judge 33 = .ok (.ifCond .eq 23, 3) := by decide +kernel
theorem dX5_judge_36 : decode cX5_judge 36 = .ok (.aload_n 0, 1) := by decide +kernel
theorem dX5_judge_37 : decode cX5_judge 37 = .ok (.getfield 28, 3) := by decide +kernel
theorem dX5_judge_40 : decode cX5_judge 40 = .ok (.bipush 40, 2) := by decide +kernel
theorem dX5_judge_42 : decode cX5_judge 42 = .ok (.iload_n 1, 1) := by decide +kernel
theorem dX5_judge_43 : decode cX5_judge 43 = .ok (.imul, 1) := by decide +kernel
theorem dX5_judge_44 : decode cX5_judge 44 = .ok (.iload_n 3, 1) := by decide +kernel
theorem dX5_judge_45 : decode cX5_judge 45 = .ok (.iadd, 1) := by decide +kernel
theorem dX5_judge_46 : decode cX5_judge 46 = .ok (.iaload, 1) := by decide +kernel
theorem dX5_judge_47 : decode cX5_judge 47 = .ok (.aload_n 0, 1) := by decide +kernel
theorem dX5_judge_48 : decode cX5_judge 48 = .ok (.iload_n 3, 1) := by decide +kernel
theorem dX5_judge_49 : decode cX5_judge 49 = .ok (.iconst 1, 1) := by decide +kernel
theorem dX5_judge_50 : decode cX5_judge 50 = .ok (.invokevirtual 44, 3) := by decide +kernel
theorem dX5_judge_53 : decode cX5_judge 53 = .ok (.if_icmp .eq 7, 3) := by decide +kernel
theorem dX5_judge_56 : decode cX5_judge 56 = .ok (.iconst 1, 1) := by decide +kernel
theorem dX5_judge_57 : decode cX5_judge 57 = .ok (.iload_n 3, 1) := by decide +kernel
theorem dX5_judge_58 : decode cX5_judge 58 = .ok (.iadd, 1) := by decide +kernel
theorem dX5_judge_59 : decode cX5_judge 59 = .ok (.ireturn, 1) := by decide +kernel
theorem dX5_judge_60 : decode cX5_judge 60 = .ok (.iinc 3 1, 3) := by decide +kernel
theorem dX5_judge_63 : decode cX5_judge 63 = .ok (.goto (-45), 3) := by decide +kernel
theorem dX5_judge_66 : decode cX5_judge 66 = .ok (.iconst 0, 1) := by decide +kernel
theorem dX5_judge_67 : decode cX5_judge 67 = .ok (.ireturn, 1) := by decide +kernel
theorem dX5_image_0 : decode cX5_image 0 = .ok (.aload_n 0, 1) := by decide +kernel
theorem dX5_image_1 : decode cX5_image 1 = .ok (.getfield 9, 3) := by decide +kernel
theorem dX5_image_4 : decode cX5_image 4 = .ok (.aload_n 0, 1) := by decide +kernel
theorem dX5_image_5 : decode cX5_image 5 = .ok (.getfield 13, 3) := by decide +kernel
theorem dX5_image_8 : decode cX5_image 8 = .ok (.invokestatic 129, 3) := by decide +kernel
theorem dX5_image_11 : decode cX5_image 11 = .ok (.aload_n 0, 1) := by decide +kernel
theorem dX5_image_12 : decode cX5_image 12 = .ok (.iconst 1, 1) := by decide +kernel
theorem dX5_image_13 : decode cX5_image 13 = .ok (.putfield 228, 3) := by decide +kernel
theorem dX5_image_16 : decode cX5_image 16 = .ok (.iconst 1, 1) := by decide +kernel
theorem dX5_image_17 : decode cX5_image 17 = .ok (.ireturn, 1) := by decide +kernel
theorem dX5_undo_0 : decode cX5_undo 0 = .ok (.aload_n 0, 1) := by decide +kernel
theorem dX5_undo_1 : decode cX5_undo 1 = .ok (.getfield 228, 3) := by decide +kernel
theorem dX5_undo_4 : decode cX5_undo 4 = .ok (.ifCond .ne 10, 3) := by decide +kernel
theorem dX5_undo_7 : decode cX5_undo 7 = .ok (.aload_n 0, 1) := by decide +kernel
theorem dX5_undo_8 : decode cX5_undo 8 = .ok (.ldc 35, 2) := by decide +kernel
theorem dX5_undo_10 : decode cX5_undo 10 = .ok (.invokevirtual 36, 3) := by decide +kernel
theorem dX5_undo_13 : decode cX5_undo 13 = .ok (.ireturn, 1) := by decide +kernel
theorem dX5_undo_14 : decode cX5_undo 14 = .ok (.aload_n 0, 1) := by decide +kernel
theorem dX5_undo_15 : decode cX5_undo 15 = .ok (.getfield 13, 3) := by decide +kernel
theorem dX5_undo_18 : decode cX5_undo 18 = .ok (.aload_n 0, 1) := by decide +kernel
theorem dX5_undo_19 : decode cX5_undo 19 = .ok (.getfield 9, 3) := by decide +kernel
theorem dX5_undo_22 : decode cX5_undo 22 = .ok (.invokestatic 129, 3) := by decide +kernel
theorem dX5_undo_25 : decode cX5_undo 25 = .ok (.aload_n 0, 1) := by decide +kernel
theorem dX5_undo_26 : decode cX5_undo 26 = .ok (.getfield 9, 3) := by decide +kernel
theorem dX5_undo_29 : decode cX5_undo 29 = .ok (.iconst 0, 1) := by decide +kernel
theorem dX5_undo_30 : decode cX5_undo 30 = .ok (.iaload, 1) := by decide +kernel
theorem dX5_undo_31 : decode cX5_undo 31 = .ok (.ireturn, 1) := by decide +kernel
theorem dX5_tear_0 : decode cX5_tear 0 = .ok (.aload_n 0, 1) := by decide +kernel
theorem dX5_tear_1 : decode cX5_tear 1 = .ok (.getfield 228, 3) := by decide +kernel
theorem dX5_tear_4 : decode cX5_tear 4 = .ok (.ifCond .eq 7, 3) := by decide +kernel
theorem dX5_tear_7 : decode cX5_tear 7 = .ok (.iconst 1, 1) := by decide +kernel
theorem dX5_tear_8 : decode cX5_tear 8 = .ok (.goto 4, 3) := by decide +kernel
theorem dX5_tear_11 : decode cX5_tear 11 = .ok (.iconst 0, 1) := by decide +kernel
theorem dX5_tear_12 : decode cX5_tear 12 = .ok (.istore_n 1, 1) := by decide +kernel
theorem dX5_tear_13 : decode cX5_tear 13 = .ok (.aload_n 0, 1) := by decide +kernel
theorem dX5_tear_14 : decode cX5_tear 14 = .ok (.iconst 0, 1) := by decide +kernel
theorem dX5_tear_15 : decode cX5_tear 15 = .ok (.putfield 228, 3) := by decide +kernel
theorem dX5_tear_18 : decode cX5_tear 18 = .ok (.iload_n 1, 1) := by decide +kernel
theorem dX5_tear_19 : decode cX5_tear 19 = .ok (.ireturn, 1) := by decide +kernel
theorem dX5_manyHeld_0 : decode cX5_manyHeld 0 = .ok (.iconst 0, 1) := by decide +kernel
theorem dX5_manyHeld_1 : decode cX5_manyHeld 1 = .ok (.istore_n 1, 1) := by decide +kernel
theorem dX5_manyHeld_2 : decode cX5_manyHeld 2 = .ok (.bipush 60, 2) := by decide +kernel
theorem dX5_manyHeld_4 : decode cX5_manyHeld 4 = .ok (.istore_n 2, 1) := by decide +kernel
theorem dX5_manyHeld_5 : decode cX5_manyHeld 5 = .ok (.iload_n 2, 1) := by decide +kernel
theorem dX5_manyHeld_6 : decode cX5_manyHeld 6 = .ok (.bipush 70, 2) := by decide +kernel
theorem dX5_manyHeld_8 : decode cX5_manyHeld 8 = .ok (.if_icmp .ge 26, 3) := by decide +kernel
theorem dX5_manyHeld_11 : decode cX5_manyHeld 11 = .ok (.iload_n 1, 1) := by decide +kernel
theorem dX5_manyHeld_12 : decode cX5_manyHeld 12 = .ok (.aload_n 0, 1) := by decide +kernel
theorem dX5_manyHeld_13 : decode cX5_manyHeld 13 = .ok (.getfield 9, 3) := by decide +kernel
theorem dX5_manyHeld_16 : decode cX5_manyHeld 16 = .ok (.iload_n 2, 1) := by decide +kernel
theorem dX5_manyHeld_17 : decode cX5_manyHeld 17 = .ok (.iaload, 1) := by decide +kernel
theorem dX5_manyHeld_18 : decode cX5_manyHeld 18 = .ok (.ifCond .lt 7, 3) := by decide +kernel
theorem dX5_manyHeld_21 : decode cX5_manyHeld 21 = .ok (.iconst 1, 1) := by decide +kernel
theorem dX5_manyHeld_22 : decode cX5_manyHeld 22 = .ok (.goto 4, 3) := by decide +kernel
theorem dX5_manyHeld_25 : decode cX5_manyHeld 25 = .ok (.iconst 0, 1) := by decide +kernel
theorem dX5_manyHeld_26 : decode cX5_manyHeld 26 = .ok (.iadd, 1) := by decide +kernel
theorem dX5_manyHeld_27 : decode cX5_manyHeld 27 = .ok (.istore_n 1, 1) := by decide +kernel
theorem dX5_manyHeld_28 : decode cX5_manyHeld 28 = .ok (.iinc 2 1, 3) := by decide +kernel
theorem dX5_manyHeld_31 : decode cX5_manyHeld 31 = .ok (.goto (-26), 3) := by decide +kernel
theorem dX5_manyHeld_34 : decode cX5_manyHeld 34 = .ok (.iload_n 1, 1) := by decide +kernel
theorem dX5_manyHeld_35 : decode cX5_manyHeld 35 = .ok (.ireturn, 1) := by decide +kernel
theorem dX5_count_0 : decode cX5_count 0 = .ok (.iload_n 1, 1) := by decide +kernel
theorem dX5_count_1 : decode cX5_count 1 = .ok (.tableswitch 101 0 7 #[47, 54, 61, 68, 75, 84, 89, 96], 47) := by decide +kernel
theorem dX5_count_48 : decode cX5_count 48 = .ok (.aload_n 0, 1) := by decide +kernel
theorem dX5_count_49 : decode cX5_count 49 = .ok (.getfield 9, 3) := by decide +kernel
theorem dX5_count_52 : decode cX5_count 52 = .ok (.iconst 0, 1) := by decide +kernel
theorem dX5_count_53 : decode cX5_count 53 = .ok (.iaload, 1) := by decide +kernel
theorem dX5_count_54 : decode cX5_count 54 = .ok (.ireturn, 1) := by decide +kernel
theorem dX5_count_55 : decode cX5_count 55 = .ok (.aload_n 0, 1) := by decide +kernel
theorem dX5_count_56 : decode cX5_count 56 = .ok (.getfield 9, 3) := by decide +kernel
theorem dX5_count_59 : decode cX5_count 59 = .ok (.iconst 5, 1) := by decide +kernel
theorem dX5_count_60 : decode cX5_count 60 = .ok (.iaload, 1) := by decide +kernel
theorem dX5_count_61 : decode cX5_count 61 = .ok (.ireturn, 1) := by decide +kernel
theorem dX5_count_62 : decode cX5_count 62 = .ok (.aload_n 0, 1) := by decide +kernel
theorem dX5_count_63 : decode cX5_count 63 = .ok (.getfield 9, 3) := by decide +kernel
theorem dX5_count_66 : decode cX5_count 66 = .ok (.iconst 1, 1) := by decide +kernel
theorem dX5_count_67 : decode cX5_count 67 = .ok (.iaload, 1) := by decide +kernel
theorem dX5_count_68 : decode cX5_count 68 = .ok (.ireturn, 1) := by decide +kernel
theorem dX5_count_69 : decode cX5_count 69 = .ok (.aload_n 0, 1) := by decide +kernel
theorem dX5_count_70 : decode cX5_count 70 = .ok (.getfield 9, 3) := by decide +kernel
theorem dX5_count_73 : decode cX5_count 73 = .ok (.iconst 3, 1) := by decide +kernel
theorem dX5_count_74 : decode cX5_count 74 = .ok (.iaload, 1) := by decide +kernel
theorem dX5_count_75 : decode cX5_count 75 = .ok (.ireturn, 1) := by decide +kernel
theorem dX5_count_76 : decode cX5_count 76 = .ok (.aload_n 0, 1) := by decide +kernel
theorem dX5_count_77 : decode cX5_count 77 = .ok (.iconst 3, 1) := by decide +kernel
theorem dX5_count_78 : decode cX5_count 78 = .ok (.invokevirtual 117, 3) := by decide +kernel
theorem dX5_count_81 : decode cX5_count 81 = .ok (.invokestatic 142, 3) := by decide +kernel
theorem dX5_count_84 : decode cX5_count 84 = .ok (.ireturn, 1) := by decide +kernel
theorem dX5_count_85 : decode cX5_count 85 = .ok (.aload_n 0, 1) := by decide +kernel
theorem dX5_count_86 : decode cX5_count 86 = .ok (.getfield 166, 3) := by decide +kernel
theorem dX5_count_89 : decode cX5_count 89 = .ok (.ireturn, 1) := by decide +kernel
theorem dX5_count_90 : decode cX5_count 90 = .ok (.aload_n 0, 1) := by decide +kernel
theorem dX5_count_91 : decode cX5_count 91 = .ok (.getfield 9, 3) := by decide +kernel
theorem dX5_count_94 : decode cX5_count 94 = .ok (.iconst 4, 1) := by decide +kernel
theorem dX5_count_95 : decode cX5_count 95 = .ok (.iaload, 1) := by decide +kernel
theorem dX5_count_96 : decode cX5_count 96 = .ok (.ireturn, 1) := by decide +kernel
theorem dX5_count_97 : decode cX5_count 97 = .ok (.aload_n 0, 1) := by decide +kernel
theorem dX5_count_98 : decode cX5_count 98 = .ok (.invokevirtual 231, 3) := by decide +kernel
theorem dX5_count_101 : decode cX5_count 101 = .ok (.ireturn, 1) := by decide +kernel
theorem dX5_count_102 : decode cX5_count 102 = .ok (.aload_n 0, 1) := by decide +kernel
theorem dX5_count_103 : decode cX5_count 103 = .ok (.ldc 34, 2) := by decide +kernel
theorem dX5_count_105 : decode cX5_count 105 = .ok (.invokevirtual 36, 3) := by decide +kernel
theorem dX5_count_108 : decode cX5_count 108 = .ok (.ireturn, 1) := by decide +kernel
theorem dX5_status_0 : decode cX5_status 0 = .ok (.iload_n 1, 1) := by decide +kernel
theorem dX5_status_1 : decode cX5_status 1 = .ok (.iconst (-1), 1) := by decide +kernel
theorem dX5_status_2 : decode cX5_status 2 = .ok (.bipush 6, 2) := by decide +kernel
theorem dX5_status_4 : decode cX5_status 4 = .ok (.invokestatic 40, 3) := by decide +kernel
theorem dX5_status_7 : decode cX5_status 7 = .ok (.ifCond .ne 10, 3) := by decide +kernel
theorem dX5_status_10 : decode cX5_status 10 = .ok (.aload_n 0, 1) := by decide +kernel
theorem dX5_status_11 : decode cX5_status 11 = .ok (.ldc 34, 2) := by decide +kernel
theorem dX5_status_13 : decode cX5_status 13 = .ok (.invokevirtual 36, 3) := by decide +kernel
theorem dX5_status_16 : decode cX5_status 16 = .ok (.ireturn, 1) := by decide +kernel
theorem dX5_status_17 : decode cX5_status 17 = .ok (.iconst 0, 1) := by decide +kernel
theorem dX5_status_18 : decode cX5_status 18 = .ok (.istore_n 2, 1) := by decide +kernel
theorem dX5_status_19 : decode cX5_status 19 = .ok (.iconst 0, 1) := by decide +kernel
theorem dX5_status_20 : decode cX5_status 20 = .ok (.istore_n 3, 1) := by decide +kernel
theorem dX5_status_21 : decode cX5_status 21 = .ok (.iload_n 3, 1) := by decide +kernel
theorem dX5_status_22 : decode cX5_status 22 = .ok (.bipush 7, 2) := by decide +kernel
theorem dX5_status_24 : decode cX5_status 24 = .ok (.if_icmp .ge 31, 3) := by decide +kernel
theorem dX5_status_27 : decode cX5_status 27 = .ok (.iload_n 2, 1) := by decide +kernel
theorem dX5_status_28 : decode cX5_status 28 = .ok (.iload_n 1, 1) := by decide +kernel
theorem dX5_status_29 : decode cX5_status 29 = .ok (.ifCond .lt 8, 3) := by decide +kernel
theorem dX5_status_32 : decode cX5_status 32 = .ok (.iload_n 1, 1) := by decide +kernel
theorem dX5_status_33 : decode cX5_status 33 = .ok (.iload_n 3, 1) := by decide +kernel
theorem dX5_status_34 : decode cX5_status 34 = .ok (.if_icmp .ne 12, 3) := by decide +kernel
theorem dX5_status_37 : decode cX5_status 37 = .ok (.aload_n 0, 1) := by decide +kernel
theorem dX5_status_38 : decode cX5_status 38 = .ok (.getfield 19, 3) := by decide +kernel
theorem dX5_status_41 : decode cX5_status 41 = .ok (.iload_n 3, 1) := by decide +kernel
theorem dX5_status_42 : decode cX5_status 42 = .ok (.iaload, 1) := by decide +kernel
theorem dX5_status_43 : decode cX5_status 43 = .ok (.goto 4, 3) := by decide +kernel
theorem dX5_status_46 : decode cX5_status 46 = .ok (.iconst 0, 1) := by decide +kernel
theorem dX5_status_47 : decode cX5_status 47 = .ok (.iadd, 1) := by decide +kernel
theorem dX5_status_48 : decode cX5_status 48 = .ok (.istore_n 2, 1) := by decide +kernel
theorem dX5_status_49 : decode cX5_status 49 = .ok (.iinc 3 1, 3) := by decide +kernel
theorem dX5_status_52 : decode cX5_status 52 = .ok (.goto (-31), 3) := by decide +kernel
theorem dX5_status_55 : decode cX5_status 55 = .ok (.iload_n 2, 1) := by decide +kernel
theorem dX5_status_56 : decode cX5_status 56 = .ok (.ireturn, 1) := by decide +kernel
