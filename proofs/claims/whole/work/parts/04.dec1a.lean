theorem dX4_init_0 : decode cX4_init 0 = .ok (.aload_n 0, 1) := by decide +kernel
theorem dX4_init_1 : decode cX4_init 1 = .ok (.invokespecial 1, 3) := by decide +kernel
theorem dX4_init_4 : decode cX4_init 4 = .ok (.aload_n 0, 1) := by decide +kernel
theorem dX4_init_5 : decode cX4_init 5 = .ok (.new 7, 3) := by decide +kernel
theorem dX4_init_8 : decode cX4_init 8 = .ok (.dup, 1) := by decide +kernel
theorem dX4_init_9 : decode cX4_init 9 = .ok (.invokespecial 9, 3) := by decide +kernel
theorem dX4_init_12 : decode cX4_init 12 = .ok (.putfield 10, 3) := by decide +kernel
theorem dX4_init_15 : decode cX4_init 15 = .ok (.aload_n 0, 1) := by decide +kernel
theorem dX4_init_16 : decode cX4_init 16 = .ok (.new 7, 3) := by decide +kernel
theorem dX4_init_19 : decode cX4_init 19 = .ok (.dup, 1) := by decide +kernel
theorem dX4_init_20 : decode cX4_init 20 = .ok (.invokespecial 9, 3) := by decide +kernel
theorem dX4_init_23 : decode cX4_init 23 = .ok (.putfield 16, 3) := by decide +kernel
theorem dX4_init_26 : decode cX4_init 26 = .ok (.aload_n 0, 1) := by decide +kernel
theorem dX4_init_27 : decode cX4_init 27 = .ok (.new 7, 3) := by decide +kernel
theorem dX4_init_30 : decode cX4_init 30 = .ok (.dup, 1) := by decide +kernel
theorem dX4_init_31 : decode cX4_init 31 = .ok (.invokespecial 9, 3) := by decide +kernel
theorem dX4_init_34 : decode cX4_init 34 = .ok (.putfield 19, 3) := by decide +kernel
theorem dX4_init_37 : decode cX4_init 37 = .ok (.aload_n 0, 1) := by decide +kernel
theorem dX4_init_38 : decode cX4_init 38 = .ok (.new 22, 3) := by decide +kernel
theorem dX4_init_41 : decode cX4_init 41 = .ok (.dup, 1) := by decide +kernel
theorem dX4_init_42 : decode cX4_init 42 = .ok (.invokespecial 24, 3) := by decide +kernel
theorem dX4_init_45 : decode cX4_init 45 = .ok (.putfield 25, 3) := by decide +kernel
theorem dX4_init_48 : decode cX4_init 48 = .ok (.aload_n 0, 1) := by decide +kernel
theorem dX4_init_49 : decode cX4_init 49 = .ok (.iconst 4, 1) := by decide +kernel
theorem dX4_init_50 : decode cX4_init 50 = .ok (.anewarray 29, 3) := by decide +kernel
theorem dX4_init_53 : decode cX4_init 53 = .ok (.putfield 31, 3) := by decide +kernel
theorem dX4_init_56 : decode cX4_init 56 = .ok (.aload_n 0, 1) := by decide +kernel
theorem dX4_init_57 : decode cX4_init 57 = .ok (.bipush 7, 2) := by decide +kernel
theorem dX4_init_59 : decode cX4_init 59 = .ok (.newarray .int, 2) := by decide +kernel
theorem dX4_init_61 : decode cX4_init 61 = .ok (.putfield 35, 3) := by decide +kernel
theorem dX4_init_64 : decode cX4_init 64 = .ok (.aload_n 0, 1) := by decide +kernel
theorem dX4_init_65 : decode cX4_init 65 = .ok (.iconst 0, 1) := by decide +kernel
theorem dX4_init_66 : decode cX4_init 66 = .ok (.putfield 39, 3) := by decide +kernel
theorem dX4_init_69 : decode cX4_init 69 = .ok (.iconst 0, 1) := by decide +kernel
theorem dX4_init_70 : decode cX4_init 70 = .ok (.istore_n 1, 1) := by decide +kernel
theorem dX4_init_71 : decode cX4_init 71 = .ok (.iload_n 1, 1) := by decide +kernel
theorem dX4_init_72 : decode cX4_init 72 = .ok (.iconst 4, 1) := by decide +kernel
theorem dX4_init_73 : decode cX4_init 73 = .ok (.if_icmp .ge 22, 3) := by decide +kernel
theorem dX4_init_76 : decode cX4_init 76 = .ok (.aload_n 0, 1) := by decide +kernel
theorem dX4_init_77 : decode cX4_init 77 = .ok (.getfield 31, 3) := by decide +kernel
theorem dX4_init_80 : decode cX4_init 80 = .ok (.iload_n 1, 1) := by decide +kernel
theorem dX4_init_81 : decode cX4_init 81 = .ok (.new 29, 3) := by decide +kernel
theorem dX4_init_84 : decode cX4_init 84 = .ok (.dup, 1) := by decide +kernel
theorem dX4_init_85 : decode cX4_init 85 = .ok (.invokespecial 43, 3) := by decide +kernel
theorem dX4_init_88 : decode cX4_init 88 = .ok (.aastore, 1) := by decide +kernel
theorem dX4_init_89 : decode cX4_init 89 = .ok (.iinc 1 1, 3) := by decide +kernel
theorem dX4_init_92 : decode cX4_init 92 = .ok (.goto (-21), 3) := by decide +kernel
theorem dX4_init_95 : decode cX4_init 95 = .ok (.return_, 1) := by decide +kernel
theorem dX4_set_0 : decode cX4_set 0 = .ok (.iload_n 1, 1) := by decide +kernel
theorem dX4_set_1 : decode cX4_set 1 = .ok (.ifCond .ne 31, 3) := by decide +kernel
theorem dX4_set_4 : decode cX4_set 4 = .ok (.iload_n 2, 1) := by decide +kernel
theorem dX4_set_5 : decode cX4_set 5 = .ok (.iconst 0, 1) := by decide +kernel
theorem dX4_set_6 : decode cX4_set 6 = .ok (.bipush 99, 2) := by decide +kernel
theorem dX4_set_8 : decode cX4_set 8 = .ok (.invokestatic 44, 3) := by decide +kernel
theorem dX4_set_11 : decode cX4_set 11 = .ok (.ifCond .eq 21, 3) := by decide +kernel
theorem dX4_set_14 : decode cX4_set 14 = .ok (.aload_n 0, 1) := by decide +kernel
theorem dX4_set_15 : decode cX4_set 15 = .ok (.getfield 10, 3) := by decide +kernel
theorem dX4_set_18 : decode cX4_set 18 = .ok (.getfield 48, 3) := by decide +kernel
theorem dX4_set_21 : decode cX4_set 21 = .ok (.istore_n 3, 1) := by decide +kernel
theorem dX4_set_22 : decode cX4_set 22 = .ok (.aload_n 0, 1) := by decide +kernel
theorem dX4_set_23 : decode cX4_set 23 = .ok (.getfield 10, 3) := by decide +kernel
theorem dX4_set_26 : decode cX4_set 26 = .ok (.iload_n 2, 1) := by decide +kernel
theorem dX4_set_27 : decode cX4_set 27 = .ok (.putfield 48, 3) := by decide +kernel
theorem dX4_set_30 : decode cX4_set 30 = .ok (.iload_n 3, 1) := by decide +kernel
theorem dX4_set_31 : decode cX4_set 31 = .ok (.ireturn, 1) := by decide +kernel
theorem dX4_set_32 : decode cX4_set 32 = .ok (.iload_n 1, 1) := by decide +kernel
theorem dX4_set_33 : decode cX4_set 33 = .ok (.iconst 1, 1) := by decide +kernel
theorem dX4_set_34 : decode cX4_set 34 = .ok (.if_icmp .ne 31, 3) := by decide +kernel
theorem dX4_set_37 : decode cX4_set 37 = .ok (.iload_n 2, 1) := by decide +kernel
theorem dX4_set_38 : decode cX4_set 38 = .ok (.iconst 0, 1) := by decide +kernel
theorem dX4_set_39 : decode cX4_set 39 = .ok (.bipush 9, 2) := by decide +kernel
theorem dX4_set_41 : decode cX4_set 41 = .ok (.invokestatic 44, 3) := by decide +kernel
theorem dX4_set_44 : decode cX4_set 44 = .ok (.ifCond .eq 21, 3) := by decide +kernel
theorem dX4_set_47 : decode cX4_set 47 = .ok (.aload_n 0, 1) := by decide +kernel
theorem dX4_set_48 : decode cX4_set 48 = .ok (.getfield 10, 3) := by decide +kernel
theorem dX4_set_51 : decode cX4_set 51 = .ok (.getfield 52, 3) := by decide +kernel
theorem dX4_set_54 : decode cX4_set 54 = .ok (.istore_n 3, 1) := by decide +kernel
theorem dX4_set_55 : decode cX4_set 55 = .ok (.aload_n 0, 1) := by decide +kernel
theorem dX4_set_56 : decode cX4_set 56 = .ok (.getfield 10, 3) := by decide +kernel
theorem dX4_set_59 : decode cX4_set 59 = .ok (.iload_n 2, 1) := by decide +kernel
theorem dX4_set_60 : decode cX4_set 60 = .ok (.putfield 52, 3) := by decide +kernel
theorem dX4_set_63 : decode cX4_set 63 = .ok (.iload_n 3, 1) := by decide +kernel
theorem dX4_set_64 : decode cX4_set 64 = .ok (.ireturn, 1) := by decide +kernel
theorem dX4_set_65 : decode cX4_set 65 = .ok (.aload_n 0, 1) := by decide +kernel
theorem dX4_set_66 : decode cX4_set 66 = .ok (.iconst 0, 1) := by decide +kernel
theorem dX4_set_67 : decode cX4_set 67 = .ok (.invokevirtual 55, 3) := by decide +kernel
theorem dX4_set_70 : decode cX4_set 70 = .ok (.ireturn, 1) := by decide +kernel
theorem dX4_deed_0 : decode cX4_deed 0 = .ok (.iload_n 1, 1) := by decide +kernel
theorem dX4_deed_1 : decode cX4_deed 1 = .ok (.invokestatic 59, 3) := by decide +kernel
theorem dX4_deed_4 : decode cX4_deed 4 = .ok (.ifCond .eq 10, 3) := by decide +kernel
theorem dX4_deed_7 : decode cX4_deed 7 = .ok (.iload_n 2, 1) := by decide +kernel
theorem dX4_deed_8 : decode cX4_deed 8 = .ok (.invokestatic 63, 3) := by decide +kernel
theorem dX4_deed_11 : decode cX4_deed 11 = .ok (.ifCond .ne 9, 3) := by decide +kernel
theorem dX4_deed_14 : decode cX4_deed 14 = .ok (.aload_n 0, 1) := by decide +kernel
theorem dX4_deed_15 : decode cX4_deed 15 = .ok (.iconst 0, 1) := by decide +kernel
theorem dX4_deed_16 : decode cX4_deed 16 = .ok (.invokevirtual 55, 3) := by decide +kernel
theorem dX4_deed_19 : decode cX4_deed 19 = .ok (.ireturn, 1) := by decide +kernel
theorem dX4_deed_20 : decode cX4_deed 20 = .ok (.aload_n 0, 1) := by decide +kernel
theorem dX4_deed_21 : decode cX4_deed 21 = .ok (.getfield 10, 3) := by decide +kernel
theorem dX4_deed_24 : decode cX4_deed 24 = .ok (.getfield 66, 3) := by decide +kernel
theorem dX4_deed_27 : decode cX4_deed 27 = .ok (.iload_n 1, 1) := by decide +kernel
theorem dX4_deed_28 : decode cX4_deed 28 = .ok (.iaload, 1) := by decide +kernel
theorem dX4_deed_29 : decode cX4_deed 29 = .ok (.istore_n 3, 1) := by decide +kernel
theorem dX4_deed_30 : decode cX4_deed 30 = .ok (.aload_n 0, 1) := by decide +kernel
theorem dX4_deed_31 : decode cX4_deed 31 = .ok (.getfield 10, 3) := by decide +kernel
theorem dX4_deed_34 : decode cX4_deed 34 = .ok (.getfield 66, 3) := by decide +kernel
theorem dX4_deed_37 : decode cX4_deed 37 = .ok (.iload_n 1, 1) := by decide +kernel
theorem dX4_deed_38 : decode cX4_deed 38 = .ok (.iload_n 2, 1) := by decide +kernel
theorem dX4_deed_39 : decode cX4_deed 39 = .ok (.iastore, 1) := by decide +kernel
theorem dX4_deed_40 : decode cX4_deed 40 = .ok (.iload_n 3, 1) := by decide +kernel
theorem dX4_deed_41 : decode cX4_deed 41 = .ok (.ireturn, 1) := by decide +kernel
theorem dX4_listed_0 : decode cX4_listed 0 = .ok (.iload_n 1, 1) := by decide +kernel
theorem dX4_listed_1 : decode cX4_listed 1 = .ok (.invokestatic 59, 3) := by decide +kernel
theorem dX4_listed_4 : decode cX4_listed 4 = .ok (.ifCond .eq 15, 3) := by decide +kernel
theorem dX4_listed_7 : decode cX4_listed 7 = .ok (.aload_n 0, 1) := by decide +kernel
theorem dX4_listed_8 : decode cX4_listed 8 = .ok (.getfield 10, 3) := by decide +kernel
theorem dX4_listed_11 : decode cX4_listed 11 = .ok (.getfield 66, 3) := by decide +kernel
theorem dX4_listed_14 : decode cX4_listed 14 = .ok (.iload_n 1, 1) := by decide +kernel
theorem dX4_listed_15 : decode cX4_listed 15 = .ok (.iaload, 1) := by decide +kernel
theorem dX4_listed_16 : decode cX4_listed 16 = .ok (.goto 8, 3) := by decide +kernel
theorem dX4_listed_19 : decode cX4_listed 19 = .ok (.aload_n 0, 1) := by decide +kernel
theorem dX4_listed_20 : decode cX4_listed 20 = .ok (.iconst 0, 1) := by decide +kernel
theorem dX4_listed_21 : decode cX4_listed 21 = .ok (.invokevirtual 55, 3) := by decide +kernel
theorem dX4_listed_24 : decode cX4_listed 24 = .ok (.ireturn, 1) := by decide +kernel
theorem dX4_dish_0 : decode cX4_dish 0 = .ok (.iload_n 1, 1) := by decide +kernel
theorem dX4_dish_1 : decode cX4_dish 1 = .ok (.invokestatic 69, 3) := by decide +kernel
theorem dX4_dish_4 : decode cX4_dish 4 = .ok (.ifCond .eq 13, 3) := by decide +kernel
theorem dX4_dish_7 : decode cX4_dish 7 = .ok (.iload_n 2, 1) := by decide +kernel
theorem dX4_dish_8 : decode cX4_dish 8 = .ok (.iconst 0, 1) := by decide +kernel
theorem dX4_dish_9 : decode cX4_dish 9 = .ok (.bipush 99, 2) := by decide +kernel
theorem dX4_dish_11 : decode cX4_dish 11 = .ok (.invokestatic 44, 3) := by decide +kernel
theorem dX4_dish_14 : decode cX4_dish 14 = .ok (.ifCond .ne 9, 3) := by decide +kernel
theorem dX4_dish_17 : decode cX4_dish 17 = .ok (.aload_n 0, 1) := by decide +kernel
theorem dX4_dish_18 : decode cX4_dish 18 = .ok (.iconst 0, 1) := by decide +kernel
theorem dX4_dish_19 : decode cX4_dish 19 = .ok (.invokevirtual 55, 3) := by decide +kernel
theorem dX4_dish_22 : decode cX4_dish 22 = .ok (.ireturn, 1) := by decide +kernel
theorem dX4_dish_23 : decode cX4_dish 23 = .ok (.aload_n 0, 1) := by decide +kernel
theorem dX4_dish_24 : decode cX4_dish 24 = .ok (.getfield 10, 3) := by decide +kernel
theorem dX4_dish_27 : decode cX4_dish 27 = .ok (.getfield 72, 3) := by decide +kernel
theorem dX4_dish_30 : decode cX4_dish 30 = .ok (.bipush 8, 2) := by decide +kernel
theorem dX4_dish_32 : decode cX4_dish 32 = .ok (.if_icmp .lt 9, 3) := by decide +kernel
theorem dX4_dish_35 : decode cX4_dish 35 = .ok (.aload_n 0, 1) := by decide +kernel
theorem dX4_dish_36 : decode cX4_dish 36 = .ok (.iconst 1, 1) := by decide +kernel
theorem dX4_dish_37 : decode cX4_dish 37 = .ok (.invokevirtual 55, 3) := by decide +kernel
theorem dX4_dish_40 : decode cX4_dish 40 = .ok (.ireturn, 1) := by decide +kernel
theorem dX4_dish_41 : decode cX4_dish 41 = .ok (.aload_n 0, 1) := by decide +kernel
theorem dX4_dish_42 : decode cX4_dish 42 = .ok (.getfield 10, 3) := by decide +kernel
theorem dX4_dish_45 : decode cX4_dish 45 = .ok (.iload_n 1, 1) := by decide +kernel
theorem dX4_dish_46 : decode cX4_dish 46 = .ok (.invokevirtual 75, 3) := by decide +kernel
theorem dX4_dish_49 : decode cX4_dish 49 = .ok (.iload_n 2, 1) := by decide +kernel
theorem dX4_dish_50 : decode cX4_dish 50 = .ok (.putfield 79, 3) := by decide +kernel
theorem dX4_dish_53 : decode cX4_dish 53 = .ok (.aload_n 0, 1) := by decide +kernel
theorem dX4_dish_54 : decode cX4_dish 54 = .ok (.getfield 10, 3) := by decide +kernel
theorem dX4_dish_57 : decode cX4_dish 57 = .ok (.getfield 72, 3) := by decide +kernel
theorem dX4_dish_60 : decode cX4_dish 60 = .ok (.iconst 1, 1) := by decide +kernel
theorem dX4_dish_61 : decode cX4_dish 61 = .ok (.isub, 1) := by decide +kernel
theorem dX4_dish_62 : decode cX4_dish 62 = .ok (.ireturn, 1) := by decide +kernel
theorem dX4_of_0 : decode cX4_of 0 = .ok (.aload_n 0, 1) := by decide +kernel
theorem dX4_of_1 : decode cX4_of 1 = .ok (.iload_n 1, 1) := by decide +kernel
theorem dX4_of_2 : decode cX4_of 2 = .ok (.invokevirtual 84, 3) := by decide +kernel
theorem dX4_of_5 : decode cX4_of 5 = .ok (.ifCond .eq 13, 3) := by decide +kernel
theorem dX4_of_8 : decode cX4_of 8 = .ok (.iload_n 2, 1) := by decide +kernel
theorem dX4_of_9 : decode cX4_of 9 = .ok (.iconst 0, 1) := by decide +kernel
theorem dX4_of_10 : decode cX4_of 10 = .ok (.bipush 10, 2) := by decide +kernel
theorem dX4_of_12 : decode cX4_of 12 = .ok (.invokestatic 44, 3) := by decide +kernel
theorem dX4_of_15 : decode cX4_of 15 = .ok (.ifCond .ne 9, 3) := by decide +kernel
theorem dX4_of_18 : decode cX4_of 18 = .ok (.aload_n 0, 1) := by decide +kernel
theorem dX4_of_19 : decode cX4_of 19 = .ok (.iconst 0, 1) := by decide +kernel
theorem dX4_of_20 : decode cX4_of 20 = .ok (.invokevirtual 55, 3) := by decide +kernel
theorem dX4_of_23 : decode cX4_of 23 = .ok (.ireturn, 1) := by decide +kernel
theorem dX4_of_24 : decode cX4_of 24 = .ok (.aload_n 0, 1) := by decide +kernel
theorem dX4_of_25 : decode cX4_of 25 = .ok (.getfield 10, 3) := by decide +kernel
theorem dX4_of_28 : decode cX4_of 28 = .ok (.iload_n 1, 1) := by decide +kernel
theorem dX4_of_29 : decode cX4_of 29 = .ok (.iload_n 2, 1) := by decide +kernel
theorem dX4_of_30 : decode cX4_of 30 = .ok (.invokevirtual 87, 3) := by decide +kernel
theorem dX4_of_33 : decode cX4_of 33 = .ok (.ireturn, 1) := by decide +kernel
theorem dX4_change_0 : decode cX4_change 0 = .ok (.aload_n 0, 1) := by decide +kernel
theorem dX4_change_1 : decode cX4_change 1 = .ok (.iload_n 1, 1) := by decide +kernel
theorem dX4_change_2 : decode cX4_change 2 = .ok (.invokevirtual 84, 3) := by decide +kernel
theorem dX4_change_5 : decode cX4_change 5 = .ok (.ifCond .eq 24, 3) := by decide +kernel
theorem dX4_change_8 : decode cX4_change 8 = .ok (.iload_n 2, 1) := by decide +kernel
theorem dX4_change_9 : decode cX4_change 9 = .ok (.iconst 0, 1) := by decide +kernel
theorem dX4_change_10 : decode cX4_change 10 = .ok (.iconst 5, 1) := by decide +kernel
theorem dX4_change_11 : decode cX4_change 11 = .ok (.invokestatic 44, 3) := by decide +kernel
theorem dX4_change_14 : decode cX4_change 14 = .ok (.ifCond .eq 15, 3) := by decide +kernel
theorem dX4_change_17 : decode cX4_change 17 = .ok (.iload_n 3, 1) := by decide +kernel
theorem dX4_change_18 : decode cX4_change 18 = .ok (.iconst 0, 1) := by decide +kernel
theorem dX4_change_19 : decode cX4_change 19 = .ok (.iload_n 2, 1) := by decide +kernel
theorem dX4_change_20 : decode cX4_change 20 = .ok (.invokestatic 91, 3) := by decide +kernel
theorem dX4_change_23 : decode cX4_change 23 = .ok (.invokestatic 44, 3) := by decide +kernel
theorem dX4_change_26 : decode cX4_change 26 = .ok (.ifCond .ne 9, 3) := by decide +kernel
theorem dX4_change_29 : decode cX4_change 29 = .ok (.aload_n 0, 1) := by decide +kernel
theorem dX4_change_30 : decode cX4_change 30 = .ok (.iconst 0, 1) := by decide +kernel
theorem dX4_change_31 : decode cX4_change 31 = .ok (.invokevirtual 55, 3) := by decide +kernel
theorem dX4_change_34 : decode cX4_change 34 = .ok (.ireturn, 1) := by decide +kernel
theorem dX4_change_35 : decode cX4_change 35 = .ok (.aload_n 0, 1) := by decide +kernel
theorem dX4_change_36 : decode cX4_change 36 = .ok (.getfield 10, 3) := by decide +kernel
theorem dX4_change_39 : decode cX4_change 39 = .ok (.iload_n 1, 1) := by decide +kernel
theorem dX4_change_40 : decode cX4_change 40 = .ok (.iload_n 2, 1) := by decide +kernel
theorem dX4_change_41 : decode cX4_change 41 = .ok (.invokevirtual 87, 3) := by decide +kernel
theorem dX4_change_44 : decode cX4_change 44 = .ok (.istore 4, 2) := by decide +kernel
theorem dX4_change_46 : decode cX4_change 46 = .ok (.aload_n 0, 1) := by decide +kernel
theorem dX4_change_47 : decode cX4_change 47 = .ok (.getfield 10, 3) := by decide +kernel
theorem dX4_change_50 : decode cX4_change 50 = .ok (.getfield 94, 3) := by decide +kernel
theorem dX4_change_53 : decode cX4_change 53 = .ok (.iload_n 1, 1) := by decide +kernel
theorem dX4_change_54 : decode cX4_change 54 = .ok (.aaload, 1) := by decide +kernel
theorem dX4_change_55 : decode cX4_change 55 = .ok (.iload_n 2, 1) := by decide +kernel
theorem dX4_change_56 : decode cX4_change 56 = .ok (.iload_n 3, 1) := by decide +kernel
theorem dX4_change_57 : decode cX4_change 57 = .ok (.invokevirtual 98, 3) := by decide +kernel
theorem dX4_change_60 : decode cX4_change 60 = .ok (.iload 4, 2) := by decide +kernel
theorem dX4_change_62 : decode cX4_change 62 = .ok (.ireturn, 1) := by decide +kernel
theorem dX4_serve_0 : decode cX4_serve 0 = .ok (.aload_n 0, 1) := by decide +kernel
theorem dX4_serve_1 : decode cX4_serve 1 = .ok (.iload_n 1, 1) := by decide +kernel
theorem dX4_serve_2 : decode cX4_serve 2 = .ok (.invokevirtual 84, 3) := by decide +kernel
theorem dX4_serve_5 : decode cX4_serve 5 = .ok (.ifCond .ne 9, 3) := by decide +kernel
theorem dX4_serve_8 : decode cX4_serve 8 = .ok (.aload_n 0, 1) := by decide +kernel
theorem dX4_serve_9 : decode cX4_serve 9 = .ok (.iconst 0, 1) := by decide +kernel
theorem dX4_serve_10 : decode cX4_serve 10 = .ok (.invokevirtual 55, 3) := by decide +kernel
theorem dX4_serve_13 : decode cX4_serve 13 = .ok (.ireturn, 1) := by decide +kernel
theorem dX4_serve_14 : decode cX4_serve 14 = .ok (.aload_n 0, 1) := by decide +kernel
theorem dX4_serve_15 : decode cX4_serve 15 = .ok (.getfield 10, 3) := by decide +kernel
theorem dX4_serve_18 : decode cX4_serve 18 = .ok (.getfield 94, 3) := by decide +kernel
theorem dX4_serve_21 : decode cX4_serve 21 = .ok (.iload_n 1, 1) := by decide +kernel
theorem dX4_serve_22 : decode cX4_serve 22 = .ok (.aaload, 1) := by decide +kernel
theorem dX4_serve_23 : decode cX4_serve 23 = .ok (.getfield 102, 3) := by decide +kernel
theorem dX4_serve_26 : decode cX4_serve 26 = .ok (.iconst 1, 1) := by decide +kernel
theorem dX4_serve_27 : decode cX4_serve 27 = .ok (.if_icmp .ne 9, 3) := by decide +kernel
theorem dX4_serve_30 : decode cX4_serve 30 = .ok (.aload_n 0, 1) := by decide +kernel
theorem dX4_serve_31 : decode cX4_serve 31 = .ok (.iconst 4, 1) := by decide +kernel
theorem dX4_serve_32 : decode cX4_serve 32 = .ok (.invokevirtual 55, 3) := by decide +kernel
theorem dX4_serve_35 : decode cX4_serve 35 = .ok (.ireturn, 1) := by decide +kernel
theorem dX4_serve_36 : decode cX4_serve 36 = .ok (.aload_n 0, 1) := by decide +kernel
theorem dX4_serve_37 : decode cX4_serve 37 = .ok (.getfield 10, 3) := by decide +kernel
theorem dX4_serve_40 : decode cX4_serve 40 = .ok (.iload_n 1, 1) := by decide +kernel
theorem dX4_serve_41 : decode cX4_serve 41 = .ok (.invokevirtual 105, 3) := by decide +kernel
theorem dX4_serve_44 : decode cX4_serve 44 = .ok (.ireturn, 1) := by decide +kernel
theorem dX4_act_0 : decode cX4_act 0 = .ok (.iload_n 1, 1) := by decide +kernel
theorem dX4_act_1 : decode cX4_act 1 = .ok (.invokestatic 63, 3) := by decide +kernel
theorem dX4_act_4 : decode cX4_act 4 = .ok (.ifCond .ne 9, 3) := by decide +kernel
theorem dX4_act_7 : decode cX4_act 7 = .ok (.aload_n 0, 1) := by decide +kernel
theorem dX4_act_8 : decode cX4_act 8 = .ok (.iconst 0, 1) := by decide +kernel
theorem dX4_act_9 : decode cX4_act 9 = .ok (.invokevirtual 55, 3) := by decide +kernel
theorem dX4_act_12 : decode cX4_act 12 = .ok (.ireturn, 1) := by decide +kernel
theorem dX4_act_13 : decode cX4_act 13 = .ok (.aload_n 0, 1) := by decide +kernel
theorem dX4_act_14 : decode cX4_act 14 = .ok (.getfield 10, 3) := by decide +kernel
theorem dX4_act_17 : decode cX4_act 17 = .ok (.aload_n 0, 1) := by decide +kernel
theorem dX4_act_18 : decode cX4_act 18 = .ok (.getfield 10, 3) := by decide +kernel
theorem dX4_act_21 : decode cX4_act 21 = .ok (.getfield 48, 3) := by decide +kernel
theorem dX4_act_24 : decode cX4_act 24 = .ok (.iload_n 1, 1) := by decide +kernel
theorem dX4_act_25 : decode cX4_act 25 = .ok (.invokestatic 108, 3) := by decide +kernel
theorem dX4_act_28 : decode cX4_act 28 = .ok (.putfield 48, 3) := by decide +kernel
theorem dX4_act_31 : decode cX4_act 31 = .ok (.aload_n 0, 1) := by decide +kernel
theorem dX4_act_32 : decode cX4_act 32 = .ok (.getfield 10, 3) := by decide +kernel
theorem dX4_act_35 : decode cX4_act 35 = .ok (.getfield 48, 3) := by decide +kernel
theorem dX4_act_38 : decode cX4_act 38 = .ok (.ireturn, 1) := by decide +kernel
theorem dX4_go_0 : decode cX4_go 0 = .ok (.iload_n 1, 1) := by decide +kernel
theorem dX4_go_1 : decode cX4_go 1 = .ok (.iconst 1, 1) := by decide +kernel
theorem dX4_go_2 : decode cX4_go 2 = .ok (.bipush 60, 2) := by decide +kernel
theorem dX4_go_4 : decode cX4_go 4 = .ok (.invokestatic 44, 3) := by decide +kernel
theorem dX4_go_7 : decode cX4_go 7 = .ok (.ifCond .ne 9, 3) := by decide +kernel
theorem dX4_go_10 : decode cX4_go 10 = .ok (.aload_n 0, 1) := by decide +kernel
theorem dX4_go_11 : decode cX4_go 11 = .ok (.iconst 0, 1) := by decide +kernel
theorem dX4_go_12 : decode cX4_go 12 = .ok (.invokevirtual 55, 3) := by decide +kernel
theorem dX4_go_15 : decode cX4_go 15 = .ok (.ireturn, 1) := by decide +kernel
theorem dX4_go_16 : decode cX4_go 16 = .ok (.aload_n 0, 1) := by decide +kernel
theorem dX4_go_17 : decode cX4_go 17 = .ok (.getfield 10, 3) := by decide +kernel
theorem dX4_go_20 : decode cX4_go 20 = .ok (.getfield 111, 3) := by decide +kernel
theorem dX4_go_23 : decode cX4_go 23 = .ok (.iload_n 1, 1) := by decide +kernel
theorem dX4_go_24 : decode cX4_go 24 = .ok (.iadd, 1) := by decide +kernel
theorem dX4_go_25 : decode cX4_go 25 = .ok (.ldc 114, 2) := by decide +kernel
theorem dX4_go_27 : decode cX4_go 27 = .ok (.if_icmp .le 9, 3) := by decide +kernel
theorem dX4_go_30 : decode cX4_go 30 = .ok (.aload_n 0, 1) := by decide +kernel
theorem dX4_go_31 : decode cX4_go 31 = .ok (.iconst 4, 1) := by decide +kernel
theorem dX4_go_32 : decode cX4_go 32 = .ok (.invokevirtual 55, 3) := by decide +kernel
theorem dX4_go_35 : decode cX4_go 35 = .ok (.ireturn, 1) := by decide +kernel
theorem dX4_go_36 : decode cX4_go 36 = .ok (.aload_n 0, 1) := by decide +kernel
theorem dX4_go_37 : decode cX4_go 37 = .ok (.getfield 10, 3) := by decide +kernel
theorem dX4_go_40 : decode cX4_go 40 = .ok (.iload_n 1, 1) := by decide +kernel
theorem dX4_go_41 : decode cX4_go 41 = .ok (.invokevirtual 115, 3) := by decide +kernel
theorem dX4_go_44 : decode cX4_go 44 = .ok (.aload_n 0, 1) := by decide +kernel
theorem dX4_go_45 : decode cX4_go 45 = .ok (.getfield 10, 3) := by decide +kernel
theorem dX4_go_48 : decode cX4_go 48 = .ok (.getfield 48, 3) := by decide +kernel
theorem dX4_go_51 : decode cX4_go 51 = .ok (.ireturn, 1) := by decide +kernel
theorem dX4_now_0 : decode cX4_now 0 = .ok (.iload_n 1, 1) := by decide +kernel
theorem dX4_now_1 : decode cX4_now 1 = .ok (.tableswitch 111 0 7 #[47, 55, 63, 71, 79, 87, 95, 103], 47) := by decide +kernel
theorem dX4_now_48 : decode cX4_now 48 = .ok (.aload_n 0, 1) := by decide +kernel
theorem dX4_now_49 : decode cX4_now 49 = .ok (.getfield 10, 3) := by decide +kernel
theorem dX4_now_52 : decode cX4_now 52 = .ok (.getfield 111, 3) := by decide +kernel
theorem dX4_now_55 : decode cX4_now 55 = .ok (.ireturn, 1) := by decide +kernel
theorem dX4_now_56 : decode cX4_now 56 = .ok (.aload_n 0, 1) := by decide +kernel
theorem dX4_now_57 : decode cX4_now 57 = .ok (.getfield 10, 3) := by decide +kernel
theorem dX4_now_60 : decode cX4_now 60 = .ok (.getfield 48, 3) := by decide +kernel
theorem dX4_now_63 : decode cX4_now 63 = .ok (.ireturn, 1) := by decide +kernel
theorem dX4_now_64 : decode cX4_now 64 = .ok (.aload_n 0, 1) := by decide +kernel
theorem dX4_now_65 : decode cX4_now 65 = .ok (.getfield 10, 3) := by decide +kernel
theorem dX4_now_68 : decode cX4_now 68 = .ok (.getfield 119, 3) := by decide +kernel
theorem dX4_now_71 : decode cX4_now 71 = .ok (.ireturn, 1) := by decide +kernel
theorem dX4_now_72 : decode cX4_now 72 = .ok (.aload_n 0, 1) := by decide +kernel
theorem dX4_now_73 : decode cX4_now 73 = .ok (.getfield 10, 3) := by decide +kernel
theorem dX4_now_76 : decode cX4_now 76 = .ok (.invokevirtual 122, 3) := by decide +kernel
theorem dX4_now_79 : decode cX4_now 79 = .ok (.ireturn, 1) := by decide +kernel
theorem dX4_now_80 : decode cX4_now 80 = .ok (.aload_n 0, 1) := by decide +kernel
theorem dX4_now_81 : decode cX4_now 81 = .ok (.getfield 10, 3) := by decide +kernel
theorem dX4_now_84 : decode cX4_now 84 = .ok (.invokevirtual 126, 3) := by decide +kernel
theorem dX4_now_87 : decode cX4_now 87 = .ok (.ireturn, 1) := by decide +kernel
theorem dX4_now_88 : decode cX4_now 88 = .ok (.aload_n 0, 1) := by decide +kernel
theorem dX4_now_89 : decode cX4_now 89 = .ok (.getfield 10, 3) := by decide +kernel
theorem dX4_now_92 : decode cX4_now 92 = .ok (.invokevirtual 129, 3) := by decide +kernel
theorem dX4_now_95 : decode cX4_now 95 = .ok (.ireturn, 1) := by decide +kernel
theorem dX4_now_96 : decode cX4_now 96 = .ok (.aload_n 0, 1) := by decide +kernel
theorem dX4_now_97 : decode cX4_now 97 = .ok (.getfield 10, 3) := by decide +kernel
theorem dX4_now_100 : decode cX4_now 100 = .ok (.invokevirtual 132, 3) := by decide +kernel
theorem dX4_now_103 : decode cX4_now 103 = .ok (.ireturn, 1) := by decide +kernel
theorem dX4_now_104 : decode cX4_now 104 = .ok (.aload_n 0, 1) := by decide +kernel
theorem dX4_now_105 : decode cX4_now 105 = .ok (.getfield 10, 3) := by decide +kernel
theorem dX4_now_108 : decode cX4_now 108 = .ok (.invokevirtual 135, 3) := by decide +kernel
theorem dX4_now_111 : decode cX4_now 111 = .ok (.ireturn, 1) := by decide +kernel
theorem dX4_now_112 : decode cX4_now 112 = .ok (.aload_n 0, 1) := by decide +kernel
theorem dX4_now_113 : decode cX4_now 113 = .ok (.iconst 0, 1) := by decide +kernel
theorem dX4_now_114 : decode cX4_now 114 = .ok (.invokevirtual 55, 3) := by decide +kernel
theorem dX4_now_117 : decode cX4_now 117 = .ok (.ireturn, 1) := by decide +kernel
theorem dX4_ahead_0 : decode cX4_ahead 0 = .ok (.iload_n 2, 1) := by decide +kernel
theorem dX4_ahead_1 : decode cX4_ahead 1 = .ok (.iconst 1, 1) := by decide +kernel
theorem dX4_ahead_2 : decode cX4_ahead 2 = .ok (.iconst 3, 1) := by decide +kernel
theorem dX4_ahead_3 : decode cX4_ahead 3 = .ok (.invokestatic 44, 3) := by decide +kernel
theorem dX4_ahead_6 : decode cX4_ahead 6 = .ok (.ifCond .ne 9, 3) := by decide +kernel
theorem dX4_ahead_9 : decode cX4_ahead 9 = .ok (.iload_n 2, 1) := by decide +kernel
theorem dX4_ahead_10 : decode cX4_ahead 10 = .ok (.bipush 10, 2) := by decide +kernel
theorem dX4_ahead_12 : decode cX4_ahead 12 = .ok (.if_icmp .ne 7, 3) := by decide +kernel
theorem dX4_ahead_15 : decode cX4_ahead 15 = .ok (.iconst 1, 1) := by decide +kernel
theorem dX4_ahead_16 : decode cX4_ahead 16 = .ok (.goto 4, 3) := by decide +kernel
theorem dX4_ahead_19 : decode cX4_ahead 19 = .ok (.iconst 0, 1) := by decide +kernel
theorem dX4_ahead_20 : decode cX4_ahead 20 = .ok (.istore 4, 2) := by decide +kernel
theorem dX4_ahead_22 : decode cX4_ahead 22 = .ok (.aload_n 0, 1) := by decide +kernel
theorem dX4_ahead_23 : decode cX4_ahead 23 = .ok (.iload_n 1, 1) := by decide +kernel
theorem dX4_ahead_24 : decode cX4_ahead 24 = .ok (.invokevirtual 84, 3) := by decide +kernel
theorem dX4_ahead_27 : decode cX4_ahead 27 = .ok (.ifCond .eq 18, 3) := by decide +kernel
theorem dX4_ahead_30 : decode cX4_ahead 30 = .ok (.iload 4, 2) := by decide +kernel
theorem dX4_ahead_32 : decode cX4_ahead 32 = .ok (.ifCond .eq 13, 3) := by decide +kernel
theorem dX4_ahead_35 : decode cX4_ahead 35 = .ok (.iload_n 3, 1) := by decide +kernel
theorem dX4_ahead_36 : decode cX4_ahead 36 = .ok (.iconst 0, 1) := by decide +kernel
theorem dX4_ahead_37 : decode cX4_ahead 37 = .ok (.bipush 100, 2) := by decide +kernel
theorem dX4_ahead_39 : decode cX4_ahead 39 = .ok (.invokestatic 44, 3) := by decide +kernel
theorem dX4_ahead_42 : decode cX4_ahead 42 = .ok (.ifCond .ne 9, 3) := by decide +kernel
theorem dX4_ahead_45 : decode cX4_ahead 45 = .ok (.aload_n 0, 1) := by decide +kernel
theorem dX4_ahead_46 : decode cX4_ahead 46 = .ok (.iconst 0, 1) := by decide +kernel
theorem dX4_ahead_47 : decode cX4_ahead 47 = .ok (.invokevirtual 55, 3) := by decide +kernel
theorem dX4_ahead_50 : decode cX4_ahead 50 = .ok (.ireturn, 1) := by decide +kernel
theorem dX4_ahead_51 : decode cX4_ahead 51 = .ok (.aload_n 0, 1) := by decide +kernel
theorem dX4_ahead_52 : decode cX4_ahead 52 = .ok (.getfield 19, 3) := by decide +kernel
theorem dX4_ahead_55 : decode cX4_ahead 55 = .ok (.aload_n 0, 1) := by decide +kernel
theorem dX4_ahead_56 : decode cX4_ahead 56 = .ok (.getfield 10, 3) := by decide +kernel
theorem dX4_ahead_59 : decode cX4_ahead 59 = .ok (.iload_n 1, 1) := by decide +kernel
theorem dX4_ahead_60 : decode cX4_ahead 60 = .ok (.invokevirtual 138, 3) := by decide +kernel
theorem dX4_ahead_63 : decode cX4_ahead 63 = .ok (.aload_n 0, 1) := by decide +kernel
theorem dX4_ahead_64 : decode cX4_ahead 64 = .ok (.getfield 19, 3) := by decide +kernel
theorem dX4_ahead_67 : decode cX4_ahead 67 = .ok (.iload_n 3, 1) := by decide +kernel
theorem dX4_ahead_68 : decode cX4_ahead 68 = .ok (.invokevirtual 115, 3) := by decide +kernel
theorem dX4_ahead_71 : decode cX4_ahead 71 = .ok (.aload_n 0, 1) := by decide +kernel
theorem dX4_ahead_72 : decode cX4_ahead 72 = .ok (.getfield 19, 3) := by decide +kernel
theorem dX4_ahead_75 : decode cX4_ahead 75 = .ok (.iconst 0, 1) := by decide +kernel
theorem dX4_ahead_76 : decode cX4_ahead 76 = .ok (.iload_n 2, 1) := by decide +kernel
theorem dX4_ahead_77 : decode cX4_ahead 77 = .ok (.invokevirtual 87, 3) := by decide +kernel
theorem dX4_ahead_80 : decode cX4_ahead 80 = .ok (.ireturn, 1) := by decide +kernel
theorem dX4_mood_0 : decode cX4_mood 0 = .ok (.iload_n 1, 1) := by decide +kernel
theorem dX4_mood_1 : decode cX4_mood 1 = .ok (.iconst 0, 1) := by decide +kernel
theorem dX4_mood_2 : decode cX4_mood 2 = .ok (.bipush 100, 2) := by decide +kernel
theorem dX4_mood_4 : decode cX4_mood 4 = .ok (.invokestatic 44, 3) := by decide +kernel
theorem dX4_mood_7 : decode cX4_mood 7 = .ok (.ifCond .ne 9, 3) := by decide +kernel
theorem dX4_mood_10 : decode cX4_mood 10 = .ok (.aload_n 0, 1) := by decide +kernel
theorem dX4_mood_11 : decode cX4_mood 11 = .ok (.iconst 0, 1) := by decide +kernel
theorem dX4_mood_12 : decode cX4_mood 12 = .ok (.invokevirtual 55, 3) := by decide +kernel
theorem dX4_mood_15 : decode cX4_mood 15 = .ok (.ireturn, 1) := by decide +kernel
theorem dX4_mood_16 : decode cX4_mood 16 = .ok (.aload_n 0, 1) := by decide +kernel
theorem dX4_mood_17 : decode cX4_mood 17 = .ok (.getfield 19, 3) := by decide +kernel
theorem dX4_mood_20 : decode cX4_mood 20 = .ok (.aload_n 0, 1) := by decide +kernel
theorem dX4_mood_21 : decode cX4_mood 21 = .ok (.getfield 10, 3) := by decide +kernel
theorem dX4_mood_24 : decode cX4_mood 24 = .ok (.invokevirtual 142, 3) := by decide +kernel
theorem dX4_mood_27 : decode cX4_mood 27 = .ok (.aload_n 0, 1) := by decide +kernel
theorem dX4_mood_28 : decode cX4_mood 28 = .ok (.getfield 19, 3) := by decide +kernel
theorem dX4_mood_31 : decode cX4_mood 31 = .ok (.iload_n 1, 1) := by decide +kernel
theorem dX4_mood_32 : decode cX4_mood 32 = .ok (.invokevirtual 115, 3) := by decide +kernel
theorem dX4_mood_35 : decode cX4_mood 35 = .ok (.aload_n 0, 1) := by decide +kernel
theorem dX4_mood_36 : decode cX4_mood 36 = .ok (.getfield 19, 3) := by decide +kernel
theorem dX4_mood_39 : decode cX4_mood 39 = .ok (.getfield 48, 3) := by decide +kernel
theorem dX4_mood_42 : decode cX4_mood 42 = .ok (.ireturn, 1) := by decide +kernel
theorem dX4_splits_0 : decode cX4_splits 0 = .ok (.aload_n 0, 1) := by decide +kernel
theorem dX4_splits_1 : decode cX4_splits 1 = .ok (.iload_n 1, 1) := by decide +kernel
theorem dX4_splits_2 : decode cX4_splits 2 = .ok (.invokevirtual 84, 3) := by decide +kernel
theorem dX4_splits_5 : decode cX4_splits 5 = .ok (.ifCond .ne 9, 3) := by decide +kernel
theorem dX4_splits_8 : decode cX4_splits 8 = .ok (.aload_n 0, 1) := by decide +kernel
theorem dX4_splits_9 : decode cX4_splits 9 = .ok (.iconst 0, 1) := by decide +kernel
theorem dX4_splits_10 : decode cX4_splits 10 = .ok (.invokevirtual 55, 3) := by decide +kernel
theorem dX4_splits_13 : decode cX4_splits 13 = .ok (.ireturn, 1) := by decide +kernel
theorem dX4_splits_14 : decode cX4_splits 14 = .ok (.aload_n 0, 1) := by decide +kernel
theorem dX4_splits_15 : decode cX4_splits 15 = .ok (.getfield 19, 3) := by decide +kernel
theorem dX4_splits_18 : decode cX4_splits 18 = .ok (.aload_n 0, 1) := by decide +kernel
theorem dX4_splits_19 : decode cX4_splits 19 = .ok (.getfield 10, 3) := by decide +kernel
theorem dX4_splits_22 : decode cX4_splits 22 = .ok (.iload_n 1, 1) := by decide +kernel
theorem dX4_splits_23 : decode cX4_splits 23 = .ok (.invokevirtual 138, 3) := by decide +kernel
theorem dX4_splits_26 : decode cX4_splits 26 = .ok (.iconst 0, 1) := by decide +kernel
theorem dX4_splits_27 : decode cX4_splits 27 = .ok (.istore_n 2, 1) := by decide +kernel
theorem dX4_splits_28 : decode cX4_splits 28 = .ok (.iload_n 2, 1) := by decide +kernel
theorem dX4_splits_29 : decode cX4_splits 29 = .ok (.sipush 200, 3) := by decide +kernel
theorem dX4_splits_32 : decode cX4_splits 32 = .ok (.if_icmp .gt 34, 3) := by decide +kernel
theorem dX4_splits_35 : decode cX4_splits 35 = .ok (.aload_n 0, 1) := by decide +kernel
theorem dX4_splits_36 : decode cX4_splits 36 = .ok (.getfield 19, 3) := by decide +kernel
theorem dX4_splits_39 : decode cX4_splits 39 = .ok (.getfield 94, 3) := by decide +kernel
theorem dX4_splits_42 : decode cX4_splits 42 = .ok (.iconst 0, 1) := by decide +kernel
theorem dX4_splits_43 : decode cX4_splits 43 = .ok (.aaload, 1) := by decide +kernel
theorem dX4_splits_44 : decode cX4_splits 44 = .ok (.getfield 146, 3) := by decide +kernel
theorem dX4_splits_47 : decode cX4_splits 47 = .ok (.iconst 1, 1) := by decide +kernel
theorem dX4_splits_48 : decode cX4_splits 48 = .ok (.if_icmp .ne 5, 3) := by decide +kernel
theorem dX4_splits_51 : decode cX4_splits 51 = .ok (.iload_n 2, 1) := by decide +kernel
theorem dX4_splits_52 : decode cX4_splits 52 = .ok (.ireturn, 1) := by decide +kernel
theorem dX4_splits_53 : decode cX4_splits 53 = .ok (.aload_n 0, 1) := by decide +kernel
theorem dX4_splits_54 : decode cX4_splits 54 = .ok (.getfield 19, 3) := by decide +kernel
theorem dX4_splits_57 : decode cX4_splits 57 = .ok (.invokevirtual 149, 3) := by decide +kernel
theorem dX4_splits_60 : decode cX4_splits 60 = .ok (.iinc 2 1, 3) := by decide +kernel
theorem dX4_splits_63 : decode cX4_splits 63 = .ok (.goto (-35), 3) := by decide +kernel
theorem dX4_splits_66 : decode cX4_splits 66 = .ok (.aload_n 0, 1) := by decide +kernel
theorem dX4_splits_67 : decode cX4_splits 67 = .ok (.iconst 3, 1) := by decide +kernel
theorem dX4_splits_68 : decode cX4_splits 68 = .ok (.invokevirtual 55, 3) := by decide +kernel
theorem dX4_splits_71 : decode cX4_splits 71 = .ok (.ireturn, 1) := by decide +kernel
theorem dX4_ready_0 : decode cX4_ready 0 = .ok (.aload_n 0, 1) := by decide +kernel
theorem dX4_ready_1 : decode cX4_ready 1 = .ok (.iload_n 1, 1) := by decide +kernel
theorem dX4_ready_2 : decode cX4_ready 2 = .ok (.invokevirtual 84, 3) := by decide +kernel
theorem dX4_ready_5 : decode cX4_ready 5 = .ok (.ifCond .eq 14, 3) := by decide +kernel
theorem dX4_ready_8 : decode cX4_ready 8 = .ok (.iload_n 2, 1) := by decide +kernel
theorem dX4_ready_9 : decode cX4_ready 9 = .ok (.iconst 0, 1) := by decide +kernel
theorem dX4_ready_10 : decode cX4_ready 10 = .ok (.sipush 999, 3) := by decide +kernel
theorem dX4_ready_13 : decode cX4_ready 13 = .ok (.invokestatic 44, 3) := by decide +kernel
theorem dX4_ready_16 : decode cX4_ready 16 = .ok (.ifCond .ne 9, 3) := by decide +kernel
theorem dX4_ready_19 : decode cX4_ready 19 = .ok (.aload_n 0, 1) := by decide +kernel
theorem dX4_ready_20 : decode cX4_ready 20 = .ok (.iconst 0, 1) := by decide +kernel
theorem dX4_ready_21 : decode cX4_ready 21 = .ok (.invokevirtual 55, 3) := by decide +kernel
theorem dX4_ready_24 : decode cX4_ready 24 = .ok (.ireturn, 1) := by decide +kernel
theorem dX4_ready_25 : decode cX4_ready 25 = .ok (.aload_n 0, 1) := by decide +kernel
theorem dX4_ready_26 : decode cX4_ready 26 = .ok (.getfield 19, 3) := by decide +kernel
theorem dX4_ready_29 : decode cX4_ready 29 = .ok (.aload_n 0, 1) := by decide +kernel
theorem dX4_ready_30 : decode cX4_ready 30 = .ok (.getfield 10, 3) := by decide +kernel
theorem dX4_ready_33 : decode cX4_ready 33 = .ok (.iload_n 1, 1) := by decide +kernel
theorem dX4_ready_34 : decode cX4_ready 34 = .ok (.invokevirtual 138, 3) := by decide +kernel
theorem dX4_ready_37 : decode cX4_ready 37 = .ok (.iconst 0, 1) := by decide +kernel
theorem dX4_ready_38 : decode cX4_ready 38 = .ok (.istore_n 3, 1) := by decide +kernel
theorem dX4_ready_39 : decode cX4_ready 39 = .ok (.iload_n 3, 1) := by decide +kernel
theorem dX4_ready_40 : decode cX4_ready 40 = .ok (.sipush 200, 3) := by decide +kernel
theorem dX4_ready_43 : decode cX4_ready 43 = .ok (.if_icmp .gt 30, 3) := by decide +kernel
theorem dX4_ready_46 : decode cX4_ready 46 = .ok (.aload_n 0, 1) := by decide +kernel
theorem dX4_ready_47 : decode cX4_ready 47 = .ok (.getfield 19, 3) := by decide +kernel
theorem dX4_ready_50 : decode cX4_ready 50 = .ok (.iconst 0, 1) := by decide +kernel
theorem dX4_ready_51 : decode cX4_ready 51 = .ok (.invokevirtual 152, 3) := by decide +kernel
theorem dX4_ready_54 : decode cX4_ready 54 = .ok (.iload_n 2, 1) := by decide +kernel
theorem dX4_ready_55 : decode cX4_ready 55 = .ok (.if_icmp .lt 5, 3) := by decide +kernel
theorem dX4_ready_58 : decode cX4_ready 58 = .ok (.iload_n 3, 1) := by decide +kernel
theorem dX4_ready_59 : decode cX4_ready 59 = .ok (.ireturn, 1) := by decide +kernel
theorem dX4_ready_60 : decode cX4_ready 60 = .ok (.aload_n 0, 1) := by decide +kernel
theorem dX4_ready_61 : decode cX4_ready 61 = .ok (.getfield 19, 3) := by decide +kernel
theorem dX4_ready_64 : decode cX4_ready 64 = .ok (.invokevirtual 149, 3) := by decide +kernel
theorem dX4_ready_67 : decode cX4_ready 67 = .ok (.iinc 3 1, 3) := by decide +kernel
theorem dX4_ready_70 : decode cX4_ready 70 = .ok (.goto (-31), 3) := by decide +kernel
theorem dX4_ready_73 : decode cX4_ready 73 = .ok (.aload_n 0, 1) := by decide +kernel
theorem dX4_ready_74 : decode cX4_ready 74 = .ok (.iconst 3, 1) := by decide +kernel
theorem dX4_ready_75 : decode cX4_ready 75 = .ok (.invokevirtual 55, 3) := by decide +kernel
theorem dX4_ready_78 : decode cX4_ready 78 = .ok (.ireturn, 1) := by decide +kernel
theorem dX4_peace_0 : decode cX4_peace 0 = .ok (.iload_n 1, 1) := by decide +kernel
theorem dX4_peace_1 : decode cX4_peace 1 = .ok (.iconst 0, 1) := by decide +kernel
theorem dX4_peace_2 : decode cX4_peace 2 = .ok (.bipush 99, 2) := by decide +kernel
theorem dX4_peace_4 : decode cX4_peace 4 = .ok (.invokestatic 44, 3) := by decide +kernel
theorem dX4_peace_7 : decode cX4_peace 7 = .ok (.ifCond .ne 9, 3) := by decide +kernel
theorem dX4_peace_10 : decode cX4_peace 10 = .ok (.aload_n 0, 1) := by decide +kernel
theorem dX4_peace_11 : decode cX4_peace 11 = .ok (.iconst 0, 1) := by decide +kernel
theorem dX4_peace_12 : decode cX4_peace 12 = .ok (.invokevirtual 55, 3) := by decide +kernel
theorem dX4_peace_15 : decode cX4_peace 15 = .ok (.ireturn, 1) := by decide +kernel
theorem dX4_peace_16 : decode cX4_peace 16 = .ok (.aload_n 0, 1) := by decide +kernel
theorem dX4_peace_17 : decode cX4_peace 17 = .ok (.getfield 19, 3) := by decide +kernel
theorem dX4_peace_20 : decode cX4_peace 20 = .ok (.aload_n 0, 1) := by decide +kernel
theorem dX4_peace_21 : decode cX4_peace 21 = .ok (.getfield 10, 3) := by decide +kernel
theorem dX4_peace_24 : decode cX4_peace 24 = .ok (.invokevirtual 142, 3) := by decide +kernel
theorem dX4_peace_27 : decode cX4_peace 27 = .ok (.iconst 0, 1) := by decide +kernel
theorem dX4_peace_28 : decode cX4_peace 28 = .ok (.istore_n 2, 1) := by decide +kernel
theorem dX4_peace_29 : decode cX4_peace 29 = .ok (.iload_n 2, 1) := by decide +kernel
theorem dX4_peace_30 : decode cX4_peace 30 = .ok (.sipush 200, 3) := by decide +kernel
theorem dX4_peace_33 : decode cX4_peace 33 = .ok (.if_icmp .gt 29, 3) := by decide +kernel
theorem dX4_peace_36 : decode cX4_peace 36 = .ok (.aload_n 0, 1) := by decide +kernel
theorem dX4_peace_37 : decode cX4_peace 37 = .ok (.getfield 19, 3) := by decide +kernel
theorem dX4_peace_40 : decode cX4_peace 40 = .ok (.getfield 48, 3) := by decide +kernel
theorem dX4_peace_43 : decode cX4_peace 43 = .ok (.iload_n 1, 1) := by decide +kernel
theorem dX4_peace_44 : decode cX4_peace 44 = .ok (.if_icmp .gt 5, 3) := by decide +kernel
theorem dX4_peace_47 : decode cX4_peace 47 = .ok (.iload_n 2, 1) := by decide +kernel
theorem dX4_peace_48 : decode cX4_peace 48 = .ok (.ireturn, 1) := by decide +kernel
theorem dX4_peace_49 : decode cX4_peace 49 = .ok (.aload_n 0, 1) := by decide +kernel
theorem dX4_peace_50 : decode cX4_peace 50 = .ok (.getfield 19, 3) := by decide +kernel
theorem dX4_peace_53 : decode cX4_peace 53 = .ok (.invokevirtual 149, 3) := by decide +kernel
theorem dX4_peace_56 : decode cX4_peace 56 = .ok (.iinc 2 1, 3) := by decide +kernel
theorem dX4_peace_59 : decode cX4_peace 59 = .ok (.goto (-30), 3) := by decide +kernel
theorem dX4_peace_62 : decode cX4_peace 62 = .ok (.aload_n 0, 1) := by decide +kernel
theorem dX4_peace_63 : decode cX4_peace 63 = .ok (.iconst 3, 1) := by decide +kernel
theorem dX4_peace_64 : decode cX4_peace 64 = .ok (.invokevirtual 55, 3) := by decide +kernel
theorem dX4_peace_67 : decode cX4_peace 67 = .ok (.ireturn, 1) := by decide +kernel
theorem dX4_deedFor_0 : decode cX4_deedFor 0 = .ok (.iload_n 1, 1) := by decide +kernel
theorem dX4_deedFor_1 : decode cX4_deedFor 1 = .ok (.invokestatic 59, 3) := by decide +kernel
theorem dX4_deedFor_4 : decode cX4_deedFor 4 = .ok (.ifCond .eq 13, 3) := by decide +kernel
theorem dX4_deedFor_7 : decode cX4_deedFor 7 = .ok (.iload_n 2, 1) := by decide +kernel
theorem dX4_deedFor_8 : decode cX4_deedFor 8 = .ok (.iconst 0, 1) := by decide +kernel
theorem dX4_deedFor_9 : decode cX4_deedFor 9 = .ok (.bipush 60, 2) := by decide +kernel
theorem dX4_deedFor_11 : decode cX4_deedFor 11 = .ok (.invokestatic 44, 3) := by decide +kernel
theorem dX4_deedFor_14 : decode cX4_deedFor 14 = .ok (.ifCond .ne 9, 3) := by decide +kernel
theorem dX4_deedFor_17 : decode cX4_deedFor 17 = .ok (.aload_n 0, 1) := by decide +kernel
theorem dX4_deedFor_18 : decode cX4_deedFor 18 = .ok (.iconst 0, 1) := by decide +kernel
theorem dX4_deedFor_19 : decode cX4_deedFor 19 = .ok (.invokevirtual 55, 3) := by decide +kernel
theorem dX4_deedFor_22 : decode cX4_deedFor 22 = .ok (.ireturn, 1) := by decide +kernel
theorem dX4_deedFor_23 : decode cX4_deedFor 23 = .ok (.iconst 0, 1) := by decide +kernel
theorem dX4_deedFor_24 : decode cX4_deedFor 24 = .ok (.istore_n 3, 1) := by decide +kernel
theorem dX4_deedFor_25 : decode cX4_deedFor 25 = .ok (.iconst (-1), 1) := by decide +kernel
theorem dX4_deedFor_26 : decode cX4_deedFor 26 = .ok (.istore 4, 2) := by decide +kernel
theorem dX4_deedFor_28 : decode cX4_deedFor 28 = .ok (.iconst 0, 1) := by decide +kernel
theorem dX4_deedFor_29 : decode cX4_deedFor 29 = .ok (.istore 5, 2) := by decide +kernel
theorem dX4_deedFor_31 : decode cX4_deedFor 31 = .ok (.iload 5, 2) := by decide +kernel
theorem dX4_deedFor_33 : decode cX4_deedFor 33 = .ok (.bipush 12, 2) := by decide +kernel
theorem dX4_deedFor_35 : decode cX4_deedFor 35 = .ok (.if_icmp .ge 62, 3) := by decide +kernel
theorem dX4_deedFor_38 : decode cX4_deedFor 38 = .ok (.aload_n 0, 1) := by decide +kernel
theorem dX4_deedFor_39 : decode cX4_deedFor 39 = .ok (.getfield 19, 3) := by decide +kernel
theorem dX4_deedFor_42 : decode cX4_deedFor 42 = .ok (.aload_n 0, 1) := by decide +kernel
theorem dX4_deedFor_43 : decode cX4_deedFor 43 = .ok (.getfield 10, 3) := by decide +kernel
theorem dX4_deedFor_46 : decode cX4_deedFor 46 = .ok (.invokevirtual 155, 3) := by decide +kernel
theorem dX4_deedFor_49 : decode cX4_deedFor 49 = .ok (.aload_n 0, 1) := by decide +kernel
theorem dX4_deedFor_50 : decode cX4_deedFor 50 = .ok (.getfield 19, 3) := by decide +kernel
theorem dX4_deedFor_53 : decode cX4_deedFor 53 = .ok (.getfield 66, 3) := by decide +kernel
theorem dX4_deedFor_56 : decode cX4_deedFor 56 = .ok (.iload_n 1, 1) := by decide +kernel
theorem dX4_deedFor_57 : decode cX4_deedFor 57 = .ok (.iload 5, 2) := by decide +kernel
theorem dX4_deedFor_59 : decode cX4_deedFor 59 = .ok (.iastore, 1) := by decide +kernel
theorem dX4_deedFor_60 : decode cX4_deedFor 60 = .ok (.aload_n 0, 1) := by decide +kernel
theorem dX4_deedFor_61 : decode cX4_deedFor 61 = .ok (.getfield 19, 3) := by decide +kernel
theorem dX4_deedFor_64 : decode cX4_deedFor 64 = .ok (.iload_n 2, 1) := by decide +kernel
theorem dX4_deedFor_65 : decode cX4_deedFor 65 = .ok (.invokevirtual 115, 3) := by decide +kernel
theorem dX4_deedFor_68 : decode cX4_deedFor 68 = .ok (.aload_n 0, 1) := by decide +kernel
theorem dX4_deedFor_69 : decode cX4_deedFor 69 = .ok (.getfield 19, 3) := by decide +kernel
theorem dX4_deedFor_72 : decode cX4_deedFor 72 = .ok (.invokevirtual 132, 3) := by decide +kernel
theorem dX4_deedFor_75 : decode cX4_deedFor 75 = .ok (.istore 6, 2) := by decide +kernel
theorem dX4_deedFor_77 : decode cX4_deedFor 77 = .ok (.iload 6, 2) := by decide +kernel
theorem dX4_deedFor_79 : decode cX4_deedFor 79 = .ok (.iload 4, 2) := by decide +kernel
theorem dX4_deedFor_81 : decode cX4_deedFor 81 = .ok (.if_icmp .le 10, 3) := by decide +kernel
theorem dX4_deedFor_84 : decode cX4_deedFor 84 = .ok (.iload 6, 2) := by decide +kernel
theorem dX4_deedFor_86 : decode cX4_deedFor 86 = .ok (.istore 4, 2) := by decide +kernel
theorem dX4_deedFor_88 : decode cX4_deedFor 88 = .ok (.iload 5, 2) := by decide +kernel
theorem dX4_deedFor_90 : decode cX4_deedFor 90 = .ok (.istore_n 3, 1) := by decide +kernel
theorem dX4_deedFor_91 : decode cX4_deedFor 91 = .ok (.iinc 5 1, 3) := by decide +kernel
theorem dX4_deedFor_94 : decode cX4_deedFor 94 = .ok (.goto (-63), 3) := by decide +kernel
theorem dX4_deedFor_97 : decode cX4_deedFor 97 = .ok (.iload_n 3, 1) := by decide +kernel
theorem dX4_deedFor_98 : decode cX4_deedFor 98 = .ok (.ireturn, 1) := by decide +kernel
theorem dX4_grudgeFor_0 : decode cX4_grudgeFor 0 = .ok (.aload_n 0, 1) := by decide +kernel
theorem dX4_grudgeFor_1 : decode cX4_grudgeFor 1 = .ok (.iload_n 1, 1) := by decide +kernel
theorem dX4_grudgeFor_2 : decode cX4_grudgeFor 2 = .ok (.invokevirtual 84, 3) := by decide +kernel
theorem dX4_grudgeFor_5 : decode cX4_grudgeFor 5 = .ok (.ifCond .eq 13, 3) := by decide +kernel
theorem dX4_grudgeFor_8 : decode cX4_grudgeFor 8 = .ok (.iload_n 2, 1) := by decide +kernel
theorem dX4_grudgeFor_9 : decode cX4_grudgeFor 9 = .ok (.iconst 0, 1) := by decide +kernel
theorem dX4_grudgeFor_10 : decode cX4_grudgeFor 10 = .ok (.bipush 60, 2) := by decide +kernel
theorem dX4_grudgeFor_12 : decode cX4_grudgeFor 12 = .ok (.invokestatic 44, 3) := by decide +kernel
theorem dX4_grudgeFor_15 : decode cX4_grudgeFor 15 = .ok (.ifCond .ne 9, 3) := by decide +kernel
theorem dX4_grudgeFor_18 : decode cX4_grudgeFor 18 = .ok (.aload_n 0, 1) := by decide +kernel
theorem dX4_grudgeFor_19 : decode cX4_grudgeFor 19 = .ok (.iconst 0, 1) := by decide +kernel
theorem dX4_grudgeFor_20 : decode cX4_grudgeFor 20 = .ok (.invokevirtual 55, 3) := by decide +kernel
theorem dX4_grudgeFor_23 : decode cX4_grudgeFor 23 = .ok (.ireturn, 1) := by decide +kernel
theorem dX4_grudgeFor_24 : decode cX4_grudgeFor 24 = .ok (.iconst 0, 1) := by decide +kernel
theorem dX4_grudgeFor_25 : decode cX4_grudgeFor 25 = .ok (.istore_n 3, 1) := by decide +kernel
theorem dX4_grudgeFor_26 : decode cX4_grudgeFor 26 = .ok (.iload_n 3, 1) := by decide +kernel
theorem dX4_grudgeFor_27 : decode cX4_grudgeFor 27 = .ok (.bipush 99, 2) := by decide +kernel
theorem dX4_grudgeFor_29 : decode cX4_grudgeFor 29 = .ok (.if_icmp .gt 54, 3) := by decide +kernel
theorem dX4_grudgeFor_32 : decode cX4_grudgeFor 32 = .ok (.aload_n 0, 1) := by decide +kernel
theorem dX4_grudgeFor_33 : decode cX4_grudgeFor 33 = .ok (.getfield 19, 3) := by decide +kernel
theorem dX4_grudgeFor_36 : decode cX4_grudgeFor 36 = .ok (.aload_n 0, 1) := by decide +kernel
theorem dX4_grudgeFor_37 : decode cX4_grudgeFor 37 = .ok (.getfield 10, 3) := by decide +kernel
theorem dX4_grudgeFor_40 : decode cX4_grudgeFor 40 = .ok (.iload_n 1, 1) := by decide +kernel
theorem dX4_grudgeFor_41 : decode cX4_grudgeFor 41 = .ok (.invokevirtual 138, 3) := by decide +kernel
theorem dX4_grudgeFor_44 : decode cX4_grudgeFor 44 = .ok (.aload_n 0, 1) := by decide +kernel
theorem dX4_grudgeFor_45 : decode cX4_grudgeFor 45 = .ok (.getfield 19, 3) := by decide +kernel
theorem dX4_grudgeFor_48 : decode cX4_grudgeFor 48 = .ok (.iload_n 3, 1) := by decide +kernel
theorem dX4_grudgeFor_49 : decode cX4_grudgeFor 49 = .ok (.putfield 48, 3) := by decide +kernel
theorem dX4_grudgeFor_52 : decode cX4_grudgeFor 52 = .ok (.aload_n 0, 1) := by decide +kernel
theorem dX4_grudgeFor_53 : decode cX4_grudgeFor 53 = .ok (.getfield 19, 3) := by decide +kernel
theorem dX4_grudgeFor_56 : decode cX4_grudgeFor 56 = .ok (.iload_n 2, 1) := by decide +kernel
theorem dX4_grudgeFor_57 : decode cX4_grudgeFor 57 = .ok (.invokevirtual 115, 3) := by decide +kernel
theorem dX4_grudgeFor_60 : decode cX4_grudgeFor 60 = .ok (.aload_n 0, 1) := by decide +kernel
theorem dX4_grudgeFor_61 : decode cX4_grudgeFor 61 = .ok (.getfield 19, 3) := by decide +kernel
theorem dX4_grudgeFor_64 : decode cX4_grudgeFor 64 = .ok (.getfield 94, 3) := by decide +kernel
theorem dX4_grudgeFor_67 : decode cX4_grudgeFor 67 = .ok (.iconst 0, 1) := by decide +kernel
theorem dX4_grudgeFor_68 : decode cX4_grudgeFor 68 = .ok (.aaload, 1) := by decide +kernel
theorem dX4_grudgeFor_69 : decode cX4_grudgeFor 69 = .ok (.getfield 146, 3) := by decide +kernel
theorem dX4_grudgeFor_72 : decode cX4_grudgeFor 72 = .ok (.ifCond .ne 5, 3) := by decide +kernel
theorem dX4_grudgeFor_75 : decode cX4_grudgeFor 75 = .ok (.iload_n 3, 1) := by decide +kernel
theorem dX4_grudgeFor_76 : decode cX4_grudgeFor 76 = .ok (.ireturn, 1) := by decide +kernel
theorem dX4_grudgeFor_77 : decode cX4_grudgeFor 77 = .ok (.iinc 3 1, 3) := by decide +kernel
theorem dX4_grudgeFor_80 : decode cX4_grudgeFor 80 = .ok (.goto (-54), 3) := by decide +kernel
theorem dX4_grudgeFor_83 : decode cX4_grudgeFor 83 = .ok (.aload_n 0, 1) := by decide +kernel
theorem dX4_grudgeFor_84 : decode cX4_grudgeFor 84 = .ok (.iconst 3, 1) := by decide +kernel
theorem dX4_grudgeFor_85 : decode cX4_grudgeFor 85 = .ok (.invokevirtual 55, 3) := by decide +kernel
theorem dX4_grudgeFor_88 : decode cX4_grudgeFor 88 = .ok (.ireturn, 1) := by decide +kernel
theorem dX4_kindFor_0 : decode cX4_kindFor 0 = .ok (.aload_n 0, 1) := by decide +kernel
theorem dX4_kindFor_1 : decode cX4_kindFor 1 = .ok (.iload_n 1, 1) := by decide +kernel
theorem dX4_kindFor_2 : decode cX4_kindFor 2 = .ok (.invokevirtual 84, 3) := by decide +kernel
theorem dX4_kindFor_5 : decode cX4_kindFor 5 = .ok (.ifCond .eq 13, 3) := by decide +kernel
theorem dX4_kindFor_8 : decode cX4_kindFor 8 = .ok (.iload_n 2, 1) := by decide +kernel
theorem dX4_kindFor_9 : decode cX4_kindFor 9 = .ok (.iconst 0, 1) := by decide +kernel
theorem dX4_kindFor_10 : decode cX4_kindFor 10 = .ok (.bipush 60, 2) := by decide +kernel
theorem dX4_kindFor_12 : decode cX4_kindFor 12 = .ok (.invokestatic 44, 3) := by decide +kernel
theorem dX4_kindFor_15 : decode cX4_kindFor 15 = .ok (.ifCond .ne 9, 3) := by decide +kernel
theorem dX4_kindFor_18 : decode cX4_kindFor 18 = .ok (.aload_n 0, 1) := by decide +kernel
theorem dX4_kindFor_19 : decode cX4_kindFor 19 = .ok (.iconst 0, 1) := by decide +kernel
theorem dX4_kindFor_20 : decode cX4_kindFor 20 = .ok (.invokevirtual 55, 3) := by decide +kernel
theorem dX4_kindFor_23 : decode cX4_kindFor 23 = .ok (.ireturn, 1) := by decide +kernel
theorem dX4_kindFor_24 : decode cX4_kindFor 24 = .ok (.iconst 0, 1) := by decide +kernel
theorem dX4_kindFor_25 : decode cX4_kindFor 25 = .ok (.istore_n 3, 1) := by decide +kernel
theorem dX4_kindFor_26 : decode cX4_kindFor 26 = .ok (.iconst (-1), 1) := by decide +kernel
theorem dX4_kindFor_27 : decode cX4_kindFor 27 = .ok (.istore 4, 2) := by decide +kernel
theorem dX4_kindFor_29 : decode cX4_kindFor 29 = .ok (.iconst 0, 1) := by decide +kernel
theorem dX4_kindFor_30 : decode cX4_kindFor 30 = .ok (.istore 5, 2) := by decide +kernel
theorem dX4_kindFor_32 : decode cX4_kindFor 32 = .ok (.iload 5, 2) := by decide +kernel
theorem dX4_kindFor_34 : decode cX4_kindFor 34 = .ok (.bipush 7, 2) := by decide +kernel
theorem dX4_kindFor_36 : decode cX4_kindFor 36 = .ok (.if_icmp .ge 67, 3) := by decide +kernel
theorem dX4_kindFor_39 : decode cX4_kindFor 39 = .ok (.aload_n 0, 1) := by decide +kernel
theorem dX4_kindFor_40 : decode cX4_kindFor 40 = .ok (.getfield 19, 3) := by decide +kernel
theorem dX4_kindFor_43 : decode cX4_kindFor 43 = .ok (.aload_n 0, 1) := by decide +kernel
theorem dX4_kindFor_44 : decode cX4_kindFor 44 = .ok (.getfield 10, 3) := by decide +kernel
theorem dX4_kindFor_47 : decode cX4_kindFor 47 = .ok (.iload_n 1, 1) := by decide +kernel
theorem dX4_kindFor_48 : decode cX4_kindFor 48 = .ok (.invokevirtual 138, 3) := by decide +kernel
theorem dX4_kindFor_51 : decode cX4_kindFor 51 = .ok (.aload_n 0, 1) := by decide +kernel
theorem dX4_kindFor_52 : decode cX4_kindFor 52 = .ok (.getfield 19, 3) := by decide +kernel
theorem dX4_kindFor_55 : decode cX4_kindFor 55 = .ok (.getfield 94, 3) := by decide +kernel
theorem dX4_kindFor_58 : decode cX4_kindFor 58 = .ok (.iconst 0, 1) := by decide +kernel
theorem dX4_kindFor_59 : decode cX4_kindFor 59 = .ok (.aaload, 1) := by decide +kernel
theorem dX4_kindFor_60 : decode cX4_kindFor 60 = .ok (.iload 5, 2) := by decide +kernel
theorem dX4_kindFor_62 : decode cX4_kindFor 62 = .ok (.putfield 158, 3) := by decide +kernel
theorem dX4_kindFor_65 : decode cX4_kindFor 65 = .ok (.aload_n 0, 1) := by decide +kernel
theorem dX4_kindFor_66 : decode cX4_kindFor 66 = .ok (.getfield 19, 3) := by decide +kernel
theorem dX4_kindFor_69 : decode cX4_kindFor 69 = .ok (.iload_n 2, 1) := by decide +kernel
theorem dX4_kindFor_70 : decode cX4_kindFor 70 = .ok (.invokevirtual 115, 3) := by decide +kernel
theorem dX4_kindFor_73 : decode cX4_kindFor 73 = .ok (.aload_n 0, 1) := by decide +kernel
theorem dX4_kindFor_74 : decode cX4_kindFor 74 = .ok (.getfield 19, 3) := by decide +kernel
theorem dX4_kindFor_77 : decode cX4_kindFor 77 = .ok (.iconst 0, 1) := by decide +kernel
theorem dX4_kindFor_78 : decode cX4_kindFor 78 = .ok (.invokevirtual 152, 3) := by decide +kernel
theorem dX4_kindFor_81 : decode cX4_kindFor 81 = .ok (.istore 6, 2) := by decide +kernel
theorem dX4_kindFor_83 : decode cX4_kindFor 83 = .ok (.iload 6, 2) := by decide +kernel
theorem dX4_kindFor_85 : decode cX4_kindFor 85 = .ok (.iload 4, 2) := by decide +kernel
theorem dX4_kindFor_87 : decode cX4_kindFor 87 = .ok (.if_icmp .le 10, 3) := by decide +kernel
theorem dX4_kindFor_90 : decode cX4_kindFor 90 = .ok (.iload 6, 2) := by decide +kernel
theorem dX4_kindFor_92 : decode cX4_kindFor 92 = .ok (.istore 4, 2) := by decide +kernel
theorem dX4_kindFor_94 : decode cX4_kindFor 94 = .ok (.iload 5, 2) := by decide +kernel
theorem dX4_kindFor_96 : decode cX4_kindFor 96 = .ok (.istore_n 3, 1) := by decide +kernel
theorem dX4_kindFor_97 : decode cX4_kindFor 97 = .ok (.iinc 5 1, 3) := by decide +kernel
theorem dX4_kindFor_100 : decode cX4_kindFor 100 = .ok (.goto (-68), 3) := by decide +kernel
theorem dX4_kindFor_103 : decode cX4_kindFor 103 = .ok (.iload_n 3, 1) := by decide +kernel
theorem dX4_kindFor_104 : decode cX4_kindFor 104 = .ok (.ireturn, 1) := by decide +kernel
theorem dX4_best_0 : decode cX4_best 0 = .ok (.aload_n 0, 1) := by decide +kernel
theorem dX4_best_1 : decode cX4_best 1 = .ok (.iload_n 1, 1) := by decide +kernel
theorem dX4_best_2 : decode cX4_best 2 = .ok (.invokevirtual 84, 3) := by decide +kernel
theorem dX4_best_5 : decode cX4_best 5 = .ok (.ifCond .ne 9, 3) := by decide +kernel
theorem dX4_best_8 : decode cX4_best 8 = .ok (.aload_n 0, 1) := by decide +kernel
theorem dX4_best_9 : decode cX4_best 9 = .ok (.iconst 0, 1) := by decide +kernel
theorem dX4_best_10 : decode cX4_best 10 = .ok (.invokevirtual 55, 3) := by decide +kernel
theorem dX4_best_13 : decode cX4_best 13 = .ok (.ireturn, 1) := by decide +kernel
theorem dX4_best_14 : decode cX4_best 14 = .ok (.aload_n 0, 1) := by decide +kernel
theorem dX4_best_15 : decode cX4_best 15 = .ok (.getfield 19, 3) := by decide +kernel
theorem dX4_best_18 : decode cX4_best 18 = .ok (.aload_n 0, 1) := by decide +kernel
theorem dX4_best_19 : decode cX4_best 19 = .ok (.getfield 10, 3) := by decide +kernel
theorem dX4_best_22 : decode cX4_best 22 = .ok (.iload_n 1, 1) := by decide +kernel
theorem dX4_best_23 : decode cX4_best 23 = .ok (.invokevirtual 138, 3) := by decide +kernel
theorem dX4_best_26 : decode cX4_best 26 = .ok (.iconst 0, 1) := by decide +kernel
theorem dX4_best_27 : decode cX4_best 27 = .ok (.istore_n 2, 1) := by decide +kernel
theorem dX4_best_28 : decode cX4_best 28 = .ok (.aload_n 0, 1) := by decide +kernel
theorem dX4_best_29 : decode cX4_best 29 = .ok (.getfield 19, 3) := by decide +kernel
theorem dX4_best_32 : decode cX4_best 32 = .ok (.iconst 0, 1) := by decide +kernel
theorem dX4_best_33 : decode cX4_best 33 = .ok (.invokevirtual 152, 3) := by decide +kernel
theorem dX4_best_36 : decode cX4_best 36 = .ok (.istore_n 3, 1) := by decide +kernel
theorem dX4_best_37 : decode cX4_best 37 = .ok (.iconst 1, 1) := by decide +kernel
theorem dX4_best_38 : decode cX4_best 38 = .ok (.istore 4, 2) := by decide +kernel
theorem dX4_best_40 : decode cX4_best 40 = .ok (.iload 4, 2) := by decide +kernel
theorem dX4_best_42 : decode cX4_best 42 = .ok (.bipush 60, 2) := by decide +kernel
theorem dX4_best_44 : decode cX4_best 44 = .ok (.if_icmp .gt 38, 3) := by decide +kernel
theorem dX4_best_47 : decode cX4_best 47 = .ok (.aload_n 0, 1) := by decide +kernel
theorem dX4_best_48 : decode cX4_best 48 = .ok (.getfield 19, 3) := by decide +kernel
theorem dX4_best_51 : decode cX4_best 51 = .ok (.invokevirtual 149, 3) := by decide +kernel
theorem dX4_best_54 : decode cX4_best 54 = .ok (.aload_n 0, 1) := by decide +kernel
theorem dX4_best_55 : decode cX4_best 55 = .ok (.getfield 19, 3) := by decide +kernel
theorem dX4_best_58 : decode cX4_best 58 = .ok (.iconst 0, 1) := by decide +kernel
theorem dX4_best_59 : decode cX4_best 59 = .ok (.invokevirtual 152, 3) := by decide +kernel
theorem dX4_best_62 : decode cX4_best 62 = .ok (.istore 5, 2) := by decide +kernel
theorem dX4_best_64 : decode cX4_best 64 = .ok (.iload 5, 2) := by decide +kernel
theorem dX4_best_66 : decode cX4_best 66 = .ok (.iload_n 3, 1) := by decide +kernel
theorem dX4_best_67 : decode cX4_best 67 = .ok (.if_icmp .le 9, 3) := by decide +kernel
theorem dX4_best_70 : decode cX4_best 70 = .ok (.iload 5, 2) := by decide +kernel
theorem dX4_best_72 : decode cX4_best 72 = .ok (.istore_n 3, 1) := by decide +kernel
theorem dX4_best_73 : decode cX4_best 73 = .ok (.iload 4, 2) := by decide +kernel
theorem dX4_best_75 : decode cX4_best 75 = .ok (.istore_n 2, 1) := by decide +kernel
theorem dX4_best_76 : decode cX4_best 76 = .ok (.iinc 4 1, 3) := by decide +kernel
theorem dX4_best_79 : decode cX4_best 79 = .ok (.goto (-39), 3) := by decide +kernel
theorem dX4_best_82 : decode cX4_best 82 = .ok (.iload_n 2, 1) := by decide +kernel
theorem dX4_best_83 : decode cX4_best 83 = .ok (.ireturn, 1) := by decide +kernel
theorem dX4_takeOff_0 : decode cX4_takeOff 0 = .ok (.iload_n 1, 1) := by decide +kernel
theorem dX4_takeOff_1 : decode cX4_takeOff 1 = .ok (.iconst 0, 1) := by decide +kernel
theorem dX4_takeOff_2 : decode cX4_takeOff 2 = .ok (.bipush 20, 2) := by decide +kernel
theorem dX4_takeOff_4 : decode cX4_takeOff 4 = .ok (.invokestatic 44, 3) := by decide +kernel
theorem dX4_takeOff_7 : decode cX4_takeOff 7 = .ok (.ifCond .ne 9, 3) := by decide +kernel
theorem dX4_takeOff_10 : decode cX4_takeOff 10 = .ok (.aload_n 0, 1) := by decide +kernel
theorem dX4_takeOff_11 : decode cX4_takeOff 11 = .ok (.iconst 0, 1) := by decide +kernel
theorem dX4_takeOff_12 : decode cX4_takeOff 12 = .ok (.invokevirtual 55, 3) := by decide +kernel
theorem dX4_takeOff_15 : decode cX4_takeOff 15 = .ok (.ireturn, 1) := by decide +kernel
theorem dX4_takeOff_16 : decode cX4_takeOff 16 = .ok (.aload_n 0, 1) := by decide +kernel
theorem dX4_takeOff_17 : decode cX4_takeOff 17 = .ok (.getfield 19, 3) := by decide +kernel
theorem dX4_takeOff_20 : decode cX4_takeOff 20 = .ok (.aload_n 0, 1) := by decide +kernel
theorem dX4_takeOff_21 : decode cX4_takeOff 21 = .ok (.getfield 10, 3) := by decide +kernel
theorem dX4_takeOff_24 : decode cX4_takeOff 24 = .ok (.invokevirtual 155, 3) := by decide +kernel
theorem dX4_takeOff_27 : decode cX4_takeOff 27 = .ok (.aload_n 0, 1) := by decide +kernel
theorem dX4_takeOff_28 : decode cX4_takeOff 28 = .ok (.getfield 19, 3) := by decide +kernel
theorem dX4_takeOff_31 : decode cX4_takeOff 31 = .ok (.iload_n 1, 1) := by decide +kernel
theorem dX4_takeOff_32 : decode cX4_takeOff 32 = .ok (.invokevirtual 115, 3) := by decide +kernel
theorem dX4_takeOff_35 : decode cX4_takeOff 35 = .ok (.aload_n 0, 1) := by decide +kernel
theorem dX4_takeOff_36 : decode cX4_takeOff 36 = .ok (.getfield 19, 3) := by decide +kernel
theorem dX4_takeOff_39 : decode cX4_takeOff 39 = .ok (.invokevirtual 122, 3) := by decide +kernel
theorem dX4_takeOff_42 : decode cX4_takeOff 42 = .ok (.aload_n 0, 1) := by decide +kernel
theorem dX4_takeOff_43 : decode cX4_takeOff 43 = .ok (.getfield 10, 3) := by decide +kernel
theorem dX4_takeOff_46 : decode cX4_takeOff 46 = .ok (.invokevirtual 122, 3) := by decide +kernel
theorem dX4_takeOff_49 : decode cX4_takeOff 49 = .ok (.iconst (-1), 1) := by decide +kernel
theorem dX4_takeOff_50 : decode cX4_takeOff 50 = .ok (.ixor, 1) := by decide +kernel
theorem dX4_takeOff_51 : decode cX4_takeOff 51 = .ok (.iand, 1) := by decide +kernel
theorem dX4_takeOff_52 : decode cX4_takeOff 52 = .ok (.ireturn, 1) := by decide +kernel
theorem dX4_fits_0 : decode cX4_fits 0 = .ok (.aload_n 0, 1) := by decide +kernel
theorem dX4_fits_1 : decode cX4_fits 1 = .ok (.iload_n 1, 1) := by decide +kernel
theorem dX4_fits_2 : decode cX4_fits 2 = .ok (.iload_n 2, 1) := by decide +kernel
theorem dX4_fits_3 : decode cX4_fits 3 = .ok (.invokevirtual 161, 3) := by decide +kernel
theorem dX4_fits_6 : decode cX4_fits 6 = .ok (.istore_n 3, 1) := by decide +kernel
theorem dX4_fits_7 : decode cX4_fits 7 = .ok (.iload_n 3, 1) := by decide +kernel
theorem dX4_fits_8 : decode cX4_fits 8 = .ok (.iconst (-1), 1) := by decide +kernel
theorem dX4_fits_9 : decode cX4_fits 9 = .ok (.if_icmp .eq 9, 3) := by decide +kernel
theorem dX4_fits_12 : decode cX4_fits 12 = .ok (.aload_n 0, 1) := by decide +kernel
theorem dX4_fits_13 : decode cX4_fits 13 = .ok (.iload_n 3, 1) := by decide +kernel
theorem dX4_fits_14 : decode cX4_fits 14 = .ok (.invokevirtual 55, 3) := by decide +kernel
theorem dX4_fits_17 : decode cX4_fits 17 = .ok (.ireturn, 1) := by decide +kernel
theorem dX4_fits_18 : decode cX4_fits 18 = .ok (.iconst 0, 1) := by decide +kernel
theorem dX4_fits_19 : decode cX4_fits 19 = .ok (.istore 4, 2) := by decide +kernel
theorem dX4_fits_21 : decode cX4_fits 21 = .ok (.iconst 0, 1) := by decide +kernel
theorem dX4_fits_22 : decode cX4_fits 22 = .ok (.istore 5, 2) := by decide +kernel
theorem dX4_fits_24 : decode cX4_fits 24 = .ok (.iload 5, 2) := by decide +kernel
theorem dX4_fits_26 : decode cX4_fits 26 = .ok (.bipush 99, 2) := by decide +kernel
theorem dX4_fits_28 : decode cX4_fits 28 = .ok (.if_icmp .gt 46, 3) := by decide +kernel
theorem dX4_fits_31 : decode cX4_fits 31 = .ok (.aload_n 0, 1) := by decide +kernel
theorem dX4_fits_32 : decode cX4_fits 32 = .ok (.getfield 19, 3) := by decide +kernel
theorem dX4_fits_35 : decode cX4_fits 35 = .ok (.aload_n 0, 1) := by decide +kernel
theorem dX4_fits_36 : decode cX4_fits 36 = .ok (.getfield 10, 3) := by decide +kernel
theorem dX4_fits_39 : decode cX4_fits 39 = .ok (.iload_n 2, 1) := by decide +kernel
theorem dX4_fits_40 : decode cX4_fits 40 = .ok (.invokevirtual 138, 3) := by decide +kernel
theorem dX4_fits_43 : decode cX4_fits 43 = .ok (.aload_n 0, 1) := by decide +kernel
theorem dX4_fits_44 : decode cX4_fits 44 = .ok (.getfield 19, 3) := by decide +kernel
theorem dX4_fits_47 : decode cX4_fits 47 = .ok (.iload 5, 2) := by decide +kernel
theorem dX4_fits_49 : decode cX4_fits 49 = .ok (.putfield 48, 3) := by decide +kernel
theorem dX4_fits_52 : decode cX4_fits 52 = .ok (.aload_n 0, 1) := by decide +kernel
theorem dX4_fits_53 : decode cX4_fits 53 = .ok (.aload_n 0, 1) := by decide +kernel
theorem dX4_fits_54 : decode cX4_fits 54 = .ok (.getfield 31, 3) := by decide +kernel
theorem dX4_fits_57 : decode cX4_fits 57 = .ok (.iload_n 1, 1) := by decide +kernel
theorem dX4_fits_58 : decode cX4_fits 58 = .ok (.aaload, 1) := by decide +kernel
theorem dX4_fits_59 : decode cX4_fits 59 = .ok (.invokevirtual 164, 3) := by decide +kernel
theorem dX4_fits_62 : decode cX4_fits 62 = .ok (.ifCond .eq 6, 3) := by decide +kernel
theorem dX4_fits_65 : decode cX4_fits 65 = .ok (.iinc 4 1, 3) := by decide +kernel
theorem dX4_fits_68 : decode cX4_fits 68 = .ok (.iinc 5 1, 3) := by decide +kernel
theorem dX4_fits_71 : decode cX4_fits 71 = .ok (.goto (-47), 3) := by decide +kernel
theorem dX4_fits_74 : decode cX4_fits 74 = .ok (.iload 4, 2) := by decide +kernel
theorem dX4_fits_76 : decode cX4_fits 76 = .ok (.ireturn, 1) := by decide +kernel
theorem dX4_kinds_0 : decode cX4_kinds 0 = .ok (.aload_n 0, 1) := by decide +kernel
theorem dX4_kinds_1 : decode cX4_kinds 1 = .ok (.iload_n 1, 1) := by decide +kernel
theorem dX4_kinds_2 : decode cX4_kinds 2 = .ok (.iload_n 2, 1) := by decide +kernel
theorem dX4_kinds_3 : decode cX4_kinds 3 = .ok (.invokevirtual 161, 3) := by decide +kernel
theorem dX4_kinds_6 : decode cX4_kinds 6 = .ok (.istore_n 3, 1) := by decide +kernel
theorem dX4_kinds_7 : decode cX4_kinds 7 = .ok (.iload_n 3, 1) := by decide +kernel
theorem dX4_kinds_8 : decode cX4_kinds 8 = .ok (.iconst (-1), 1) := by decide +kernel
theorem dX4_kinds_9 : decode cX4_kinds 9 = .ok (.if_icmp .eq 9, 3) := by decide +kernel
theorem dX4_kinds_12 : decode cX4_kinds 12 = .ok (.aload_n 0, 1) := by decide +kernel
theorem dX4_kinds_13 : decode cX4_kinds 13 = .ok (.iload_n 3, 1) := by decide +kernel
theorem dX4_kinds_14 : decode cX4_kinds 14 = .ok (.invokevirtual 55, 3) := by decide +kernel
theorem dX4_kinds_17 : decode cX4_kinds 17 = .ok (.ireturn, 1) := by decide +kernel
theorem dX4_kinds_18 : decode cX4_kinds 18 = .ok (.iconst 0, 1) := by decide +kernel
theorem dX4_kinds_19 : decode cX4_kinds 19 = .ok (.istore 4, 2) := by decide +kernel
theorem dX4_kinds_21 : decode cX4_kinds 21 = .ok (.iconst 0, 1) := by decide +kernel
theorem dX4_kinds_22 : decode cX4_kinds 22 = .ok (.istore 5, 2) := by decide +kernel
theorem dX4_kinds_24 : decode cX4_kinds 24 = .ok (.iload 5, 2) := by decide +kernel
theorem dX4_kinds_26 : decode cX4_kinds 26 = .ok (.bipush 7, 2) := by decide +kernel
theorem dX4_kinds_28 : decode cX4_kinds 28 = .ok (.if_icmp .ge 57, 3) := by decide +kernel
theorem dX4_kinds_31 : decode cX4_kinds 31 = .ok (.aload_n 0, 1) := by decide +kernel
theorem dX4_kinds_32 : decode cX4_kinds 32 = .ok (.getfield 19, 3) := by decide +kernel
theorem dX4_kinds_35 : decode cX4_kinds 35 = .ok (.aload_n 0, 1) := by decide +kernel
theorem dX4_kinds_36 : decode cX4_kinds 36 = .ok (.getfield 10, 3) := by decide +kernel
theorem dX4_kinds_39 : decode cX4_kinds 39 = .ok (.iload_n 2, 1) := by decide +kernel
theorem dX4_kinds_40 : decode cX4_kinds 40 = .ok (.invokevirtual 138, 3) := by decide +kernel
theorem dX4_kinds_43 : decode cX4_kinds 43 = .ok (.aload_n 0, 1) := by decide +kernel
theorem dX4_kinds_44 : decode cX4_kinds 44 = .ok (.getfield 19, 3) := by decide +kernel
theorem dX4_kinds_47 : decode cX4_kinds 47 = .ok (.getfield 94, 3) := by decide +kernel
theorem dX4_kinds_50 : decode cX4_kinds 50 = .ok (.iconst 0, 1) := by decide +kernel
theorem dX4_kinds_51 : decode cX4_kinds 51 = .ok (.aaload, 1) := by decide +kernel
theorem dX4_kinds_52 : decode cX4_kinds 52 = .ok (.iload 5, 2) := by decide +kernel
theorem dX4_kinds_54 : decode cX4_kinds 54 = .ok (.putfield 158, 3) := by decide +kernel
theorem dX4_kinds_57 : decode cX4_kinds 57 = .ok (.aload_n 0, 1) := by decide +kernel
theorem dX4_kinds_58 : decode cX4_kinds 58 = .ok (.aload_n 0, 1) := by decide +kernel
theorem dX4_kinds_59 : decode cX4_kinds 59 = .ok (.getfield 31, 3) := by decide +kernel
theorem dX4_kinds_62 : decode cX4_kinds 62 = .ok (.iload_n 1, 1) := by decide +kernel
theorem dX4_kinds_63 : decode cX4_kinds 63 = .ok (.aaload, 1) := by decide +kernel
theorem dX4_kinds_64 : decode cX4_kinds 64 = .ok (.invokevirtual 164, 3) := by decide +kernel
theorem dX4_kinds_67 : decode cX4_kinds 67 = .ok (.ifCond .eq 12, 3) := by decide +kernel
theorem dX4_kinds_70 : decode cX4_kinds 70 = .ok (.iload 4, 2) := by decide +kernel
theorem dX4_kinds_72 : decode cX4_kinds 72 = .ok (.iconst 1, 1) := by decide +kernel
theorem dX4_kinds_73 : decode cX4_kinds 73 = .ok (.iload 5, 2) := by decide +kernel
theorem dX4_kinds_75 : decode cX4_kinds 75 = .ok (.ishl, 1) := by decide +kernel
theorem dX4_kinds_76 : decode cX4_kinds 76 = .ok (.ior, 1) := by decide +kernel
theorem dX4_kinds_77 : decode cX4_kinds 77 = .ok (.istore 4, 2) := by decide +kernel
theorem dX4_kinds_79 : decode cX4_kinds 79 = .ok (.iinc 5 1, 3) := by decide +kernel
theorem dX4_kinds_82 : decode cX4_kinds 82 = .ok (.goto (-58), 3) := by decide +kernel
theorem dX4_kinds_85 : decode cX4_kinds 85 = .ok (.iload 4, 2) := by decide +kernel
theorem dX4_kinds_87 : decode cX4_kinds 87 = .ok (.ireturn, 1) := by decide +kernel
theorem dX4_service_0 : decode cX4_service 0 = .ok (.iload_n 1, 1) := by decide +kernel
theorem dX4_service_1 : decode cX4_service 1 = .ok (.iconst 1, 1) := by decide +kernel
theorem dX4_service_2 : decode cX4_service 2 = .ok (.bipush 20, 2) := by decide +kernel
theorem dX4_service_4 : decode cX4_service 4 = .ok (.invokestatic 44, 3) := by decide +kernel
theorem dX4_service_7 : decode cX4_service 7 = .ok (.ifCond .ne 9, 3) := by decide +kernel
theorem dX4_service_10 : decode cX4_service 10 = .ok (.aload_n 0, 1) := by decide +kernel
theorem dX4_service_11 : decode cX4_service 11 = .ok (.iconst 0, 1) := by decide +kernel
theorem dX4_service_12 : decode cX4_service 12 = .ok (.invokevirtual 55, 3) := by decide +kernel
theorem dX4_service_15 : decode cX4_service 15 = .ok (.ireturn, 1) := by decide +kernel
theorem dX4_service_16 : decode cX4_service 16 = .ok (.aload_n 0, 1) := by decide +kernel
theorem dX4_service_17 : decode cX4_service 17 = .ok (.getfield 10, 3) := by decide +kernel
theorem dX4_service_20 : decode cX4_service 20 = .ok (.getfield 111, 3) := by decide +kernel
theorem dX4_service_23 : decode cX4_service 23 = .ok (.iload_n 1, 1) := by decide +kernel
theorem dX4_service_24 : decode cX4_service 24 = .ok (.iadd, 1) := by decide +kernel
theorem dX4_service_25 : decode cX4_service 25 = .ok (.ldc 114, 2) := by decide +kernel
theorem dX4_service_27 : decode cX4_service 27 = .ok (.if_icmp .le 9, 3) := by decide +kernel
theorem dX4_service_30 : decode cX4_service 30 = .ok (.aload_n 0, 1) := by decide +kernel
theorem dX4_service_31 : decode cX4_service 31 = .ok (.iconst 4, 1) := by decide +kernel
theorem dX4_service_32 : decode cX4_service 32 = .ok (.invokevirtual 55, 3) := by decide +kernel
theorem dX4_service_35 : decode cX4_service 35 = .ok (.ireturn, 1) := by decide +kernel
theorem dX4_service_36 : decode cX4_service 36 = .ok (.iconst 0, 1) := by decide +kernel
theorem dX4_service_37 : decode cX4_service 37 = .ok (.istore_n 2, 1) := by decide +kernel
theorem dX4_service_38 : decode cX4_service 38 = .ok (.iload_n 2, 1) := by decide +kernel
theorem dX4_service_39 : decode cX4_service 39 = .ok (.iload_n 1, 1) := by decide +kernel
theorem dX4_service_40 : decode cX4_service 40 = .ok (.if_icmp .ge 16, 3) := by decide +kernel
theorem dX4_service_43 : decode cX4_service 43 = .ok (.aload_n 0, 1) := by decide +kernel
theorem dX4_service_44 : decode cX4_service 44 = .ok (.getfield 10, 3) := by decide +kernel
theorem dX4_service_47 : decode cX4_service 47 = .ok (.invokevirtual 168, 3) := by decide +kernel
theorem dX4_service_50 : decode cX4_service 50 = .ok (.iinc 2 1, 3) := by decide +kernel
theorem dX4_service_53 : decode cX4_service 53 = .ok (.goto (-15), 3) := by decide +kernel
theorem dX4_service_56 : decode cX4_service 56 = .ok (.aload_n 0, 1) := by decide +kernel
theorem dX4_service_57 : decode cX4_service 57 = .ok (.getfield 10, 3) := by decide +kernel
theorem dX4_service_60 : decode cX4_service 60 = .ok (.getfield 119, 3) := by decide +kernel
theorem dX4_service_63 : decode cX4_service 63 = .ok (.ireturn, 1) := by decide +kernel
theorem dX4_odds_0 : decode cX4_odds 0 = .ok (.aload_n 0, 1) := by decide +kernel
theorem dX4_odds_1 : decode cX4_odds 1 = .ok (.iload_n 1, 1) := by decide +kernel
theorem dX4_odds_2 : decode cX4_odds 2 = .ok (.invokevirtual 84, 3) := by decide +kernel
theorem dX4_odds_5 : decode cX4_odds 5 = .ok (.ifCond .eq 22, 3) := by decide +kernel
theorem dX4_odds_8 : decode cX4_odds 8 = .ok (.iload_n 2, 1) := by decide +kernel
theorem dX4_odds_9 : decode cX4_odds 9 = .ok (.iconst 0, 1) := by decide +kernel
theorem dX4_odds_10 : decode cX4_odds 10 = .ok (.bipush 17, 2) := by decide +kernel
theorem dX4_odds_12 : decode cX4_odds 12 = .ok (.invokestatic 44, 3) := by decide +kernel
theorem dX4_odds_15 : decode cX4_odds 15 = .ok (.ifCond .eq 12, 3) := by decide +kernel
theorem dX4_odds_18 : decode cX4_odds 18 = .ok (.iload_n 3, 1) := by decide +kernel
theorem dX4_odds_19 : decode cX4_odds 19 = .ok (.iconst 0, 1) := by decide +kernel
theorem dX4_odds_20 : decode cX4_odds 20 = .ok (.iconst 1, 1) := by decide +kernel
theorem dX4_odds_21 : decode cX4_odds 21 = .ok (.invokestatic 44, 3) := by decide +kernel
theorem dX4_odds_24 : decode cX4_odds 24 = .ok (.ifCond .ne 10, 3) := by decide +kernel
theorem dX4_odds_27 : decode cX4_odds 27 = .ok (.aload_n 0, 1) := by decide +kernel
theorem dX4_odds_28 : decode cX4_odds 28 = .ok (.iconst 0, 1) := by decide +kernel
theorem dX4_odds_29 : decode cX4_odds 29 = .ok (.invokevirtual 55, 3) := by decide +kernel
theorem dX4_odds_32 : decode cX4_odds 32 = .ok (.i2l, 1) := by decide +kernel
theorem dX4_odds_33 : decode cX4_odds 33 = .ok (.lreturn, 1) := by decide +kernel
theorem dX4_odds_34 : decode cX4_odds 34 = .ok (.aload_n 0, 1) := by decide +kernel
theorem dX4_odds_35 : decode cX4_odds 35 = .ok (.getfield 10, 3) := by decide +kernel
theorem dX4_odds_38 : decode cX4_odds 38 = .ok (.iload_n 1, 1) := by decide +kernel
theorem dX4_odds_39 : decode cX4_odds 39 = .ok (.invokevirtual 171, 3) := by decide +kernel
theorem dX4_odds_42 : decode cX4_odds 42 = .ok (.istore 4, 2) := by decide +kernel
theorem dX4_odds_44 : decode cX4_odds 44 = .ok (.iload 4, 2) := by decide +kernel
theorem dX4_odds_46 : decode cX4_odds 46 = .ok (.bipush 12, 2) := by decide +kernel
theorem dX4_odds_48 : decode cX4_odds 48 = .ok (.invokestatic 174, 3) := by decide +kernel
theorem dX4_odds_51 : decode cX4_odds 51 = .ok (.istore 5, 2) := by decide +kernel
theorem dX4_odds_53 : decode cX4_odds 53 = .ok (.iload_n 3, 1) := by decide +kernel
theorem dX4_odds_54 : decode cX4_odds 54 = .ok (.ifCond .ne 8, 3) := by decide +kernel
theorem dX4_odds_57 : decode cX4_odds 57 = .ok (.iload 4, 2) := by decide +kernel
theorem dX4_odds_59 : decode cX4_odds 59 = .ok (.goto 5, 3) := by decide +kernel
theorem dX4_odds_62 : decode cX4_odds 62 = .ok (.bipush 12, 2) := by decide +kernel
theorem dX4_odds_64 : decode cX4_odds 64 = .ok (.iload 5, 2) := by decide +kernel
theorem dX4_odds_66 : decode cX4_odds 66 = .ok (.idiv, 1) := by decide +kernel
theorem dX4_odds_67 : decode cX4_odds 67 = .ok (.iload_n 2, 1) := by decide +kernel
theorem dX4_odds_68 : decode cX4_odds 68 = .ok (.invokestatic 177, 3) := by decide +kernel
theorem dX4_odds_71 : decode cX4_odds 71 = .ok (.lreturn, 1) := by decide +kernel
theorem dX4_seed_0 : decode cX4_seed 0 = .ok (.aload_n 0, 1) := by decide +kernel
theorem dX4_seed_1 : decode cX4_seed 1 = .ok (.getfield 10, 3) := by decide +kernel
theorem dX4_seed_4 : decode cX4_seed 4 = .ok (.getfield 181, 3) := by decide +kernel
theorem dX4_seed_7 : decode cX4_seed 7 = .ok (.istore_n 2, 1) := by decide +kernel
theorem dX4_seed_8 : decode cX4_seed 8 = .ok (.aload_n 0, 1) := by decide +kernel
theorem dX4_seed_9 : decode cX4_seed 9 = .ok (.getfield 10, 3) := by decide +kernel
theorem dX4_seed_12 : decode cX4_seed 12 = .ok (.iload_n 1, 1) := by decide +kernel
theorem dX4_seed_13 : decode cX4_seed 13 = .ok (.putfield 181, 3) := by decide +kernel
theorem dX4_seed_16 : decode cX4_seed 16 = .ok (.iload_n 2, 1) := by decide +kernel
theorem dX4_seed_17 : decode cX4_seed 17 = .ok (.ireturn, 1) := by decide +kernel
theorem dX4_feed_0 : decode cX4_feed 0 = .ok (.iload_n 2, 1) := by decide +kernel
theorem dX4_feed_1 : decode cX4_feed 1 = .ok (.iconst 1, 1) := by decide +kernel
theorem dX4_feed_2 : decode cX4_feed 2 = .ok (.iconst 4, 1) := by decide +kernel
theorem dX4_feed_3 : decode cX4_feed 3 = .ok (.invokestatic 44, 3) := by decide +kernel
theorem dX4_feed_6 : decode cX4_feed 6 = .ok (.ifCond .ne 9, 3) := by decide +kernel
theorem dX4_feed_9 : decode cX4_feed 9 = .ok (.aload_n 0, 1) := by decide +kernel
theorem dX4_feed_10 : decode cX4_feed 10 = .ok (.iconst 0, 1) := by decide +kernel
theorem dX4_feed_11 : decode cX4_feed 11 = .ok (.invokevirtual 55, 3) := by decide +kernel
theorem dX4_feed_14 : decode cX4_feed 14 = .ok (.ireturn, 1) := by decide +kernel
theorem dX4_feed_15 : decode cX4_feed 15 = .ok (.aload_n 0, 1) := by decide +kernel
theorem dX4_feed_16 : decode cX4_feed 16 = .ok (.getfield 25, 3) := by decide +kernel
theorem dX4_feed_19 : decode cX4_feed 19 = .ok (.getfield 184, 3) := by decide +kernel
theorem dX4_feed_22 : decode cX4_feed 22 = .ok (.iload_n 2, 1) := by decide +kernel
theorem dX4_feed_23 : decode cX4_feed 23 = .ok (.iadd, 1) := by decide +kernel
theorem dX4_feed_24 : decode cX4_feed 24 = .ok (.bipush 120, 2) := by decide +kernel
theorem dX4_feed_26 : decode cX4_feed 26 = .ok (.if_icmp .le 9, 3) := by decide +kernel
theorem dX4_feed_29 : decode cX4_feed 29 = .ok (.aload_n 0, 1) := by decide +kernel
theorem dX4_feed_30 : decode cX4_feed 30 = .ok (.iconst 1, 1) := by decide +kernel
theorem dX4_feed_31 : decode cX4_feed 31 = .ok (.invokevirtual 55, 3) := by decide +kernel
theorem dX4_feed_34 : decode cX4_feed 34 = .ok (.ireturn, 1) := by decide +kernel
theorem dX4_feed_35 : decode cX4_feed 35 = .ok (.aload_n 0, 1) := by decide +kernel
theorem dX4_feed_36 : decode cX4_feed 36 = .ok (.getfield 25, 3) := by decide +kernel
theorem dX4_feed_39 : decode cX4_feed 39 = .ok (.iload_n 1, 1) := by decide +kernel
theorem dX4_feed_40 : decode cX4_feed 40 = .ok (.iload_n 2, 1) := by decide +kernel
theorem dX4_feed_41 : decode cX4_feed 41 = .ok (.invokevirtual 187, 3) := by decide +kernel
theorem dX4_feed_44 : decode cX4_feed 44 = .ok (.aload_n 0, 1) := by decide +kernel
theorem dX4_feed_45 : decode cX4_feed 45 = .ok (.getfield 25, 3) := by decide +kernel
theorem dX4_feed_48 : decode cX4_feed 48 = .ok (.getfield 184, 3) := by decide +kernel
theorem dX4_feed_51 : decode cX4_feed 51 = .ok (.ireturn, 1) := by decide +kernel
theorem dX4_wipe_0 : decode cX4_wipe 0 = .ok (.aload_n 0, 1) := by decide +kernel
theorem dX4_wipe_1 : decode cX4_wipe 1 = .ok (.getfield 25, 3) := by decide +kernel
theorem dX4_wipe_4 : decode cX4_wipe 4 = .ok (.getfield 184, 3) := by decide +kernel
theorem dX4_wipe_7 : decode cX4_wipe 7 = .ok (.istore_n 1, 1) := by decide +kernel
theorem dX4_wipe_8 : decode cX4_wipe 8 = .ok (.aload_n 0, 1) := by decide +kernel
theorem dX4_wipe_9 : decode cX4_wipe 9 = .ok (.getfield 25, 3) := by decide +kernel
theorem dX4_wipe_12 : decode cX4_wipe 12 = .ok (.iconst 0, 1) := by decide +kernel
theorem dX4_wipe_13 : decode cX4_wipe 13 = .ok (.putfield 184, 3) := by decide +kernel
theorem dX4_wipe_16 : decode cX4_wipe 16 = .ok (.iload_n 1, 1) := by decide +kernel
theorem dX4_wipe_17 : decode cX4_wipe 17 = .ok (.ireturn, 1) := by decide +kernel
theorem dX4_text_0 : decode cX4_text 0 = .ok (.aload_n 0, 1) := by decide +kernel
theorem dX4_text_1 : decode cX4_text 1 = .ok (.getfield 19, 3) := by decide +kernel
theorem dX4_text_4 : decode cX4_text 4 = .ok (.aload_n 0, 1) := by decide +kernel
theorem dX4_text_5 : decode cX4_text 5 = .ok (.getfield 10, 3) := by decide +kernel
theorem dX4_text_8 : decode cX4_text 8 = .ok (.invokevirtual 155, 3) := by decide +kernel
theorem dX4_text_11 : decode cX4_text 11 = .ok (.aload_n 0, 1) := by decide +kernel
theorem dX4_text_12 : decode cX4_text 12 = .ok (.getfield 25, 3) := by decide +kernel
theorem dX4_text_15 : decode cX4_text 15 = .ok (.aload_n 0, 1) := by decide +kernel
theorem dX4_text_16 : decode cX4_text 16 = .ok (.getfield 19, 3) := by decide +kernel
theorem dX4_text_19 : decode cX4_text 19 = .ok (.invokevirtual 190, 3) := by decide +kernel
theorem dX4_text_22 : decode cX4_text 22 = .ok (.istore_n 1, 1) := by decide +kernel
theorem dX4_text_23 : decode cX4_text 23 = .ok (.aload_n 0, 1) := by decide +kernel
theorem dX4_text_24 : decode cX4_text 24 = .ok (.getfield 25, 3) := by decide +kernel
theorem dX4_text_27 : decode cX4_text 27 = .ok (.iconst 0, 1) := by decide +kernel
theorem dX4_text_28 : decode cX4_text 28 = .ok (.putfield 184, 3) := by decide +kernel
theorem dX4_text_31 : decode cX4_text 31 = .ok (.iload_n 1, 1) := by decide +kernel
theorem dX4_text_32 : decode cX4_text 32 = .ok (.ifCond .le 14, 3) := by decide +kernel
theorem dX4_text_35 : decode cX4_text 35 = .ok (.aload_n 0, 1) := by decide +kernel
theorem dX4_text_36 : decode cX4_text 36 = .ok (.getfield 10, 3) := by decide +kernel
theorem dX4_text_39 : decode cX4_text 39 = .ok (.aload_n 0, 1) := by decide +kernel
theorem dX4_text_40 : decode cX4_text 40 = .ok (.getfield 19, 3) := by decide +kernel
theorem dX4_text_43 : decode cX4_text 43 = .ok (.invokevirtual 155, 3) := by decide +kernel
theorem dX4_text_46 : decode cX4_text 46 = .ok (.iload_n 1, 1) := by decide +kernel
theorem dX4_text_47 : decode cX4_text 47 = .ok (.ireturn, 1) := by decide +kernel
theorem dX4_hold_0 : decode cX4_hold 0 = .ok (.iload_n 1, 1) := by decide +kernel
theorem dX4_hold_1 : decode cX4_hold 1 = .ok (.invokestatic 194, 3) := by decide +kernel
theorem dX4_hold_4 : decode cX4_hold 4 = .ok (.ifCond .eq 16, 3) := by decide +kernel
theorem dX4_hold_7 : decode cX4_hold 7 = .ok (.iload_n 2, 1) := by decide +kernel
theorem dX4_hold_8 : decode cX4_hold 8 = .ok (.iconst (-1), 1) := by decide +kernel
theorem dX4_hold_9 : decode cX4_hold 9 = .ok (.if_icmp .eq 17, 3) := by decide +kernel
theorem dX4_hold_12 : decode cX4_hold 12 = .ok (.aload_n 0, 1) := by decide +kernel
theorem dX4_hold_13 : decode cX4_hold 13 = .ok (.iload_n 2, 1) := by decide +kernel
theorem dX4_hold_14 : decode cX4_hold 14 = .ok (.invokevirtual 84, 3) := by decide +kernel
theorem dX4_hold_17 : decode cX4_hold 17 = .ok (.ifCond .ne 9, 3) := by decide +kernel
theorem dX4_hold_20 : decode cX4_hold 20 = .ok (.aload_n 0, 1) := by decide +kernel
theorem dX4_hold_21 : decode cX4_hold 21 = .ok (.iconst 0, 1) := by decide +kernel
theorem dX4_hold_22 : decode cX4_hold 22 = .ok (.invokevirtual 55, 3) := by decide +kernel
theorem dX4_hold_25 : decode cX4_hold 25 = .ok (.ireturn, 1) := by decide +kernel
theorem dX4_hold_26 : decode cX4_hold 26 = .ok (.aload_n 0, 1) := by decide +kernel
theorem dX4_hold_27 : decode cX4_hold 27 = .ok (.getfield 10, 3) := by decide +kernel
theorem dX4_hold_30 : decode cX4_hold 30 = .ok (.getfield 197, 3) := by decide +kernel
theorem dX4_hold_33 : decode cX4_hold 33 = .ok (.iload_n 1, 1) := by decide +kernel
theorem dX4_hold_34 : decode cX4_hold 34 = .ok (.iload_n 2, 1) := by decide +kernel
theorem dX4_hold_35 : decode cX4_hold 35 = .ok (.iastore, 1) := by decide +kernel
theorem dX4_hold_36 : decode cX4_hold 36 = .ok (.iconst 1, 1) := by decide +kernel
theorem dX4_hold_37 : decode cX4_hold 37 = .ok (.ireturn, 1) := by decide +kernel
theorem dX4_as_0 : decode cX4_as 0 = .ok (.iload_n 1, 1) := by decide +kernel
theorem dX4_as_1 : decode cX4_as 1 = .ok (.invokestatic 194, 3) := by decide +kernel
theorem dX4_as_4 : decode cX4_as 4 = .ok (.ifCond .eq 10, 3) := by decide +kernel
theorem dX4_as_7 : decode cX4_as 7 = .ok (.iload_n 2, 1) := by decide +kernel
theorem dX4_as_8 : decode cX4_as 8 = .ok (.invokestatic 69, 3) := by decide +kernel
theorem dX4_as_11 : decode cX4_as 11 = .ok (.ifCond .ne 9, 3) := by decide +kernel
theorem dX4_as_14 : decode cX4_as 14 = .ok (.aload_n 0, 1) := by decide +kernel
theorem dX4_as_15 : decode cX4_as 15 = .ok (.iconst 0, 1) := by decide +kernel
theorem dX4_as_16 : decode cX4_as 16 = .ok (.invokevirtual 55, 3) := by decide +kernel
theorem dX4_as_19 : decode cX4_as 19 = .ok (.ireturn, 1) := by decide +kernel
theorem dX4_as_20 : decode cX4_as 20 = .ok (.aload_n 0, 1) := by decide +kernel
theorem dX4_as_21 : decode cX4_as 21 = .ok (.getfield 10, 3) := by decide +kernel
theorem dX4_as_24 : decode cX4_as 24 = .ok (.getfield 197, 3) := by decide +kernel
theorem dX4_as_27 : decode cX4_as 27 = .ok (.iload_n 1, 1) := by decide +kernel
theorem dX4_as_28 : decode cX4_as 28 = .ok (.iaload, 1) := by decide +kernel
theorem dX4_as_29 : decode cX4_as 29 = .ok (.istore_n 3, 1) := by decide +kernel
theorem dX4_as_30 : decode cX4_as 30 = .ok (.aload_n 0, 1) := by decide +kernel
theorem dX4_as_31 : decode cX4_as 31 = .ok (.iload_n 3, 1) := by decide +kernel
theorem dX4_as_32 : decode cX4_as 32 = .ok (.invokevirtual 84, 3) := by decide +kernel
theorem dX4_as_35 : decode cX4_as 35 = .ok (.ifCond .ne 9, 3) := by decide +kernel
theorem dX4_as_38 : decode cX4_as 38 = .ok (.aload_n 0, 1) := by decide +kernel
theorem dX4_as_39 : decode cX4_as 39 = .ok (.iconst 5, 1) := by decide +kernel
theorem dX4_as_40 : decode cX4_as 40 = .ok (.invokevirtual 55, 3) := by decide +kernel
theorem dX4_as_43 : decode cX4_as 43 = .ok (.ireturn, 1) := by decide +kernel
theorem dX4_as_44 : decode cX4_as 44 = .ok (.aload_n 0, 1) := by decide +kernel
theorem dX4_as_45 : decode cX4_as 45 = .ok (.getfield 10, 3) := by decide +kernel
theorem dX4_as_48 : decode cX4_as 48 = .ok (.getfield 94, 3) := by decide +kernel
theorem dX4_as_51 : decode cX4_as 51 = .ok (.iload_n 3, 1) := by decide +kernel
theorem dX4_as_52 : decode cX4_as 52 = .ok (.aaload, 1) := by decide +kernel
theorem dX4_as_53 : decode cX4_as 53 = .ok (.getfield 158, 3) := by decide +kernel
theorem dX4_as_56 : decode cX4_as 56 = .ok (.iload_n 2, 1) := by decide +kernel
theorem dX4_as_57 : decode cX4_as 57 = .ok (.invokestatic 200, 3) := by decide +kernel
theorem dX4_as_60 : decode cX4_as 60 = .ok (.ifCond .ne 9, 3) := by decide +kernel
theorem dX4_as_63 : decode cX4_as 63 = .ok (.aload_n 0, 1) := by decide +kernel
theorem dX4_as_64 : decode cX4_as 64 = .ok (.iconst 2, 1) := by decide +kernel
theorem dX4_as_65 : decode cX4_as 65 = .ok (.invokevirtual 55, 3) := by decide +kernel
theorem dX4_as_68 : decode cX4_as 68 = .ok (.ireturn, 1) := by decide +kernel
theorem dX4_as_69 : decode cX4_as 69 = .ok (.iload_n 3, 1) := by decide +kernel
theorem dX4_as_70 : decode cX4_as 70 = .ok (.ireturn, 1) := by decide +kernel
theorem dX4_sheet_0 : decode cX4_sheet 0 = .ok (.iload_n 2, 1) := by decide +kernel
theorem dX4_sheet_1 : decode cX4_sheet 1 = .ok (.ifCond .eq 21, 3) := by decide +kernel
theorem dX4_sheet_4 : decode cX4_sheet 4 = .ok (.iload_n 2, 1) := by decide +kernel
theorem dX4_sheet_5 : decode cX4_sheet 5 = .ok (.bipush 8, 2) := by decide +kernel
theorem dX4_sheet_7 : decode cX4_sheet 7 = .ok (.if_icmp .eq 15, 3) := by decide +kernel
theorem dX4_sheet_10 : decode cX4_sheet 10 = .ok (.iload_n 2, 1) := by decide +kernel
theorem dX4_sheet_11 : decode cX4_sheet 11 = .ok (.bipush 16, 2) := by decide +kernel
theorem dX4_sheet_13 : decode cX4_sheet 13 = .ok (.if_icmp .eq 9, 3) := by decide +kernel
theorem dX4_sheet_16 : decode cX4_sheet 16 = .ok (.iload_n 2, 1) := by decide +kernel
theorem dX4_sheet_17 : decode cX4_sheet 17 = .ok (.bipush 32, 2) := by decide +kernel
theorem dX4_sheet_19 : decode cX4_sheet 19 = .ok (.if_icmp .ne 7, 3) := by decide +kernel
theorem dX4_sheet_22 : decode cX4_sheet 22 = .ok (.iconst 1, 1) := by decide +kernel
theorem dX4_sheet_23 : decode cX4_sheet 23 = .ok (.goto 4, 3) := by decide +kernel
theorem dX4_sheet_26 : decode cX4_sheet 26 = .ok (.iconst 0, 1) := by decide +kernel
theorem dX4_sheet_27 : decode cX4_sheet 27 = .ok (.istore 4, 2) := by decide +kernel
theorem dX4_sheet_29 : decode cX4_sheet 29 = .ok (.iload_n 1, 1) := by decide +kernel
theorem dX4_sheet_30 : decode cX4_sheet 30 = .ok (.invokestatic 204, 3) := by decide +kernel
theorem dX4_sheet_33 : decode cX4_sheet 33 = .ok (.ifCond .eq 8, 3) := by decide +kernel
theorem dX4_sheet_36 : decode cX4_sheet 36 = .ok (.iload 4, 2) := by decide +kernel
theorem dX4_sheet_38 : decode cX4_sheet 38 = .ok (.ifCond .ne 9, 3) := by decide +kernel
theorem dX4_sheet_41 : decode cX4_sheet 41 = .ok (.aload_n 0, 1) := by decide +kernel
theorem dX4_sheet_42 : decode cX4_sheet 42 = .ok (.iconst 0, 1) := by decide +kernel
theorem dX4_sheet_43 : decode cX4_sheet 43 = .ok (.invokevirtual 55, 3) := by decide +kernel
theorem dX4_sheet_46 : decode cX4_sheet 46 = .ok (.ireturn, 1) := by decide +kernel
theorem dX4_sheet_47 : decode cX4_sheet 47 = .ok (.iload_n 3, 1) := by decide +kernel
theorem dX4_sheet_48 : decode cX4_sheet 48 = .ok (.ifCond .ge 10, 3) := by decide +kernel
theorem dX4_sheet_51 : decode cX4_sheet 51 = .ok (.aload_n 0, 1) := by decide +kernel
theorem dX4_sheet_52 : decode cX4_sheet 52 = .ok (.bipush 6, 2) := by decide +kernel
theorem dX4_sheet_54 : decode cX4_sheet 54 = .ok (.invokevirtual 55, 3) := by decide +kernel
theorem dX4_sheet_57 : decode cX4_sheet 57 = .ok (.ireturn, 1) := by decide +kernel
theorem dX4_sheet_58 : decode cX4_sheet 58 = .ok (.iload_n 3, 1) := by decide +kernel
theorem dX4_sheet_59 : decode cX4_sheet 59 = .ok (.bipush 40, 2) := by decide +kernel
theorem dX4_sheet_61 : decode cX4_sheet 61 = .ok (.if_icmp .le 9, 3) := by decide +kernel
theorem dX4_sheet_64 : decode cX4_sheet 64 = .ok (.aload_n 0, 1) := by decide +kernel
theorem dX4_sheet_65 : decode cX4_sheet 65 = .ok (.iconst 0, 1) := by decide +kernel
theorem dX4_sheet_66 : decode cX4_sheet 66 = .ok (.invokevirtual 55, 3) := by decide +kernel
theorem dX4_sheet_69 : decode cX4_sheet 69 = .ok (.ireturn, 1) := by decide +kernel
theorem dX4_sheet_70 : decode cX4_sheet 70 = .ok (.aload_n 0, 1) := by decide +kernel
theorem dX4_sheet_71 : decode cX4_sheet 71 = .ok (.getfield 31, 3) := by decide +kernel
theorem dX4_sheet_74 : decode cX4_sheet 74 = .ok (.iload_n 1, 1) := by decide +kernel
theorem dX4_sheet_75 : decode cX4_sheet 75 = .ok (.aaload, 1) := by decide +kernel
theorem dX4_sheet_76 : decode cX4_sheet 76 = .ok (.iload_n 2, 1) := by decide +kernel
theorem dX4_sheet_77 : decode cX4_sheet 77 = .ok (.iload_n 2, 1) := by decide +kernel
theorem dX4_sheet_78 : decode cX4_sheet 78 = .ok (.ifCond .ne 7, 3) := by decide +kernel
theorem dX4_sheet_81 : decode cX4_sheet 81 = .ok (.iconst 0, 1) := by decide +kernel
theorem dX4_sheet_82 : decode cX4_sheet 82 = .ok (.goto 4, 3) := by decide +kernel
theorem dX4_sheet_85 : decode cX4_sheet 85 = .ok (.iload_n 3, 1) := by decide +kernel
theorem dX4_sheet_86 : decode cX4_sheet 86 = .ok (.invokevirtual 207, 3) := by decide +kernel
theorem dX4_sheet_89 : decode cX4_sheet 89 = .ok (.aload_n 0, 1) := by decide +kernel
theorem dX4_sheet_90 : decode cX4_sheet 90 = .ok (.getfield 31, 3) := by decide +kernel
theorem dX4_sheet_93 : decode cX4_sheet 93 = .ok (.iload_n 1, 1) := by decide +kernel
theorem dX4_sheet_94 : decode cX4_sheet 94 = .ok (.aaload, 1) := by decide +kernel
theorem dX4_sheet_95 : decode cX4_sheet 95 = .ok (.getfield 210, 3) := by decide +kernel
theorem dX4_sheet_98 : decode cX4_sheet 98 = .ok (.ireturn, 1) := by decide +kernel
theorem dX4_write_0 : decode cX4_write 0 = .ok (.aload_n 0, 1) := by decide +kernel
theorem dX4_write_1 : decode cX4_write 1 = .ok (.iload_n 1, 1) := by decide +kernel
theorem dX4_write_2 : decode cX4_write 2 = .ok (.invokevirtual 211, 3) := by decide +kernel
theorem dX4_write_5 : decode cX4_write 5 = .ok (.istore 4, 2) := by decide +kernel
theorem dX4_write_7 : decode cX4_write 7 = .ok (.iload 4, 2) := by decide +kernel
theorem dX4_write_9 : decode cX4_write 9 = .ok (.iconst (-1), 1) := by decide +kernel
theorem dX4_write_10 : decode cX4_write 10 = .ok (.if_icmp .eq 10, 3) := by decide +kernel
theorem dX4_write_13 : decode cX4_write 13 = .ok (.aload_n 0, 1) := by decide +kernel
theorem dX4_write_14 : decode cX4_write 14 = .ok (.iload 4, 2) := by decide +kernel
theorem dX4_write_16 : decode cX4_write 16 = .ok (.invokevirtual 55, 3) := by decide +kernel
theorem dX4_write_19 : decode cX4_write 19 = .ok (.ireturn, 1) := by decide +kernel
theorem dX4_write_20 : decode cX4_write 20 = .ok (.iload_n 2, 1) := by decide +kernel
theorem dX4_write_21 : decode cX4_write 21 = .ok (.iconst 0, 1) := by decide +kernel
theorem dX4_write_22 : decode cX4_write 22 = .ok (.aload_n 0, 1) := by decide +kernel
theorem dX4_write_23 : decode cX4_write 23 = .ok (.getfield 31, 3) := by decide +kernel
theorem dX4_write_26 : decode cX4_write 26 = .ok (.iload_n 1, 1) := by decide +kernel
theorem dX4_write_27 : decode cX4_write 27 = .ok (.aaload, 1) := by decide +kernel
theorem dX4_write_28 : decode cX4_write 28 = .ok (.getfield 210, 3) := by decide +kernel
theorem dX4_write_31 : decode cX4_write 31 = .ok (.iconst 1, 1) := by decide +kernel
theorem dX4_write_32 : decode cX4_write 32 = .ok (.isub, 1) := by decide +kernel
theorem dX4_write_33 : decode cX4_write 33 = .ok (.invokestatic 44, 3) := by decide +kernel
theorem dX4_write_36 : decode cX4_write 36 = .ok (.ifCond .ne 9, 3) := by decide +kernel
theorem dX4_write_39 : decode cX4_write 39 = .ok (.aload_n 0, 1) := by decide +kernel
theorem dX4_write_40 : decode cX4_write 40 = .ok (.iconst 0, 1) := by decide +kernel
theorem dX4_write_41 : decode cX4_write 41 = .ok (.invokevirtual 55, 3) := by decide +kernel
theorem dX4_write_44 : decode cX4_write 44 = .ok (.ireturn, 1) := by decide +kernel
theorem dX4_write_45 : decode cX4_write 45 = .ok (.aload_n 0, 1) := by decide +kernel
theorem dX4_write_46 : decode cX4_write 46 = .ok (.getfield 31, 3) := by decide +kernel
theorem dX4_write_49 : decode cX4_write 49 = .ok (.iload_n 1, 1) := by decide +kernel
theorem dX4_write_50 : decode cX4_write 50 = .ok (.aaload, 1) := by decide +kernel
theorem dX4_write_51 : decode cX4_write 51 = .ok (.iload_n 2, 1) := by decide +kernel
theorem dX4_write_52 : decode cX4_write 52 = .ok (.iload_n 3, 1) := by decide +kernel
theorem dX4_write_53 : decode cX4_write 53 = .ok (.invokevirtual 214, 3) := by decide +kernel
theorem dX4_write_56 : decode cX4_write 56 = .ok (.iconst 1, 1) := by decide +kernel
theorem dX4_write_57 : decode cX4_write 57 = .ok (.ireturn, 1) := by decide +kernel
theorem dX4_copy_0 : decode cX4_copy 0 = .ok (.iload_n 1, 1) := by decide +kernel
theorem dX4_copy_1 : decode cX4_copy 1 = .ok (.invokestatic 204, 3) := by decide +kernel
theorem dX4_copy_4 : decode cX4_copy 4 = .ok (.ifCond .eq 10, 3) := by decide +kernel
theorem dX4_copy_7 : decode cX4_copy 7 = .ok (.iload_n 3, 1) := by decide +kernel
theorem dX4_copy_8 : decode cX4_copy 8 = .ok (.invokestatic 204, 3) := by decide +kernel
theorem dX4_copy_11 : decode cX4_copy 11 = .ok (.ifCond .ne 9, 3) := by decide +kernel
theorem dX4_copy_14 : decode cX4_copy 14 = .ok (.aload_n 0, 1) := by decide +kernel
theorem dX4_copy_15 : decode cX4_copy 15 = .ok (.iconst 0, 1) := by decide +kernel
theorem dX4_copy_16 : decode cX4_copy 16 = .ok (.invokevirtual 55, 3) := by decide +kernel
theorem dX4_copy_19 : decode cX4_copy 19 = .ok (.ireturn, 1) := by decide +kernel
theorem dX4_copy_20 : decode cX4_copy 20 = .ok (.aload_n 0, 1) := by decide +kernel
theorem dX4_copy_21 : decode cX4_copy 21 = .ok (.getfield 31, 3) := by decide +kernel
theorem dX4_copy_24 : decode cX4_copy 24 = .ok (.iload_n 1, 1) := by decide +kernel
theorem dX4_copy_25 : decode cX4_copy 25 = .ok (.aaload, 1) := by decide +kernel
theorem dX4_copy_26 : decode cX4_copy 26 = .ok (.invokevirtual 215, 3) := by decide +kernel
theorem dX4_copy_29 : decode cX4_copy 29 = .ok (.ifCond .ne 15, 3) := by decide +kernel
theorem dX4_copy_32 : decode cX4_copy 32 = .ok (.aload_n 0, 1) := by decide +kernel
theorem dX4_copy_33 : decode cX4_copy 33 = .ok (.getfield 31, 3) := by decide +kernel
theorem dX4_copy_36 : decode cX4_copy 36 = .ok (.iload_n 3, 1) := by decide +kernel
theorem dX4_copy_37 : decode cX4_copy 37 = .ok (.aaload, 1) := by decide +kernel
theorem dX4_copy_38 : decode cX4_copy 38 = .ok (.invokevirtual 215, 3) := by decide +kernel
theorem dX4_copy_41 : decode cX4_copy 41 = .ok (.ifCond .eq 9, 3) := by decide +kernel
theorem dX4_copy_44 : decode cX4_copy 44 = .ok (.aload_n 0, 1) := by decide +kernel
theorem dX4_copy_45 : decode cX4_copy 45 = .ok (.iconst 5, 1) := by decide +kernel
theorem dX4_copy_46 : decode cX4_copy 46 = .ok (.invokevirtual 55, 3) := by decide +kernel
theorem dX4_copy_49 : decode cX4_copy 49 = .ok (.ireturn, 1) := by decide +kernel
theorem dX4_copy_50 : decode cX4_copy 50 = .ok (.aload_n 0, 1) := by decide +kernel
theorem dX4_copy_51 : decode cX4_copy 51 = .ok (.getfield 31, 3) := by decide +kernel
theorem dX4_copy_54 : decode cX4_copy 54 = .ok (.iload_n 1, 1) := by decide +kernel
theorem dX4_copy_55 : decode cX4_copy 55 = .ok (.aaload, 1) := by decide +kernel
theorem dX4_copy_56 : decode cX4_copy 56 = .ok (.getfield 219, 3) := by decide +kernel
theorem dX4_copy_59 : decode cX4_copy 59 = .ok (.aload_n 0, 1) := by decide +kernel
theorem dX4_copy_60 : decode cX4_copy 60 = .ok (.getfield 31, 3) := by decide +kernel
theorem dX4_copy_63 : decode cX4_copy 63 = .ok (.iload_n 3, 1) := by decide +kernel
theorem dX4_copy_64 : decode cX4_copy 64 = .ok (.aaload, 1) := by decide +kernel
theorem dX4_copy_65 : decode cX4_copy 65 = .ok (.getfield 219, 3) := by decide +kernel
theorem dX4_copy_68 : decode cX4_copy 68 = .ok (.if_icmp .eq 9, 3) := by decide +kernel
theorem dX4_copy_71 : decode cX4_copy 71 = .ok (.aload_n 0, 1) := by decide +kernel
theorem dX4_copy_72 : decode cX4_copy 72 = .ok (.iconst 2, 1) := by decide +kernel
theorem dX4_copy_73 : decode cX4_copy 73 = .ok (.invokevirtual 55, 3) := by decide +kernel
theorem dX4_copy_76 : decode cX4_copy 76 = .ok (.ireturn, 1) := by decide +kernel
theorem dX4_copy_77 : decode cX4_copy 77 = .ok (.aload_n 0, 1) := by decide +kernel
theorem dX4_copy_78 : decode cX4_copy 78 = .ok (.getfield 31, 3) := by decide +kernel
theorem dX4_copy_81 : decode cX4_copy 81 = .ok (.iload_n 1, 1) := by decide +kernel
theorem dX4_copy_82 : decode cX4_copy 82 = .ok (.aaload, 1) := by decide +kernel
theorem dX4_copy_83 : decode cX4_copy 83 = .ok (.iload_n 2, 1) := by decide +kernel
theorem dX4_copy_84 : decode cX4_copy 84 = .ok (.iload 5, 2) := by decide +kernel
theorem dX4_copy_86 : decode cX4_copy 86 = .ok (.invokevirtual 222, 3) := by decide +kernel
theorem dX4_copy_89 : decode cX4_copy 89 = .ok (.ifCond .eq 19, 3) := by decide +kernel
theorem dX4_copy_92 : decode cX4_copy 92 = .ok (.aload_n 0, 1) := by decide +kernel
theorem dX4_copy_93 : decode cX4_copy 93 = .ok (.getfield 31, 3) := by decide +kernel
theorem dX4_copy_96 : decode cX4_copy 96 = .ok (.iload_n 3, 1) := by decide +kernel
theorem dX4_copy_97 : decode cX4_copy 97 = .ok (.aaload, 1) := by decide +kernel
theorem dX4_copy_98 : decode cX4_copy 98 = .ok (.iload 4, 2) := by decide +kernel
theorem dX4_copy_100 : decode cX4_copy 100 = .ok (.iload 5, 2) := by decide +kernel
theorem dX4_copy_102 : decode cX4_copy 102 = .ok (.invokevirtual 222, 3) := by decide +kernel
theorem dX4_copy_105 : decode cX4_copy 105 = .ok (.ifCond .ne 9, 3) := by decide +kernel
theorem dX4_copy_108 : decode cX4_copy 108 = .ok (.aload_n 0, 1) := by decide +kernel
theorem dX4_copy_109 : decode cX4_copy 109 = .ok (.iconst 0, 1) := by decide +kernel
theorem dX4_copy_110 : decode cX4_copy 110 = .ok (.invokevirtual 55, 3) := by decide +kernel
theorem dX4_copy_113 : decode cX4_copy 113 = .ok (.ireturn, 1) := by decide +kernel
theorem dX4_copy_114 : decode cX4_copy 114 = .ok (.aload_n 0, 1) := by decide +kernel
theorem dX4_copy_115 : decode cX4_copy 115 = .ok (.getfield 31, 3) := by decide +kernel
theorem dX4_copy_118 : decode cX4_copy 118 = .ok (.iload_n 1, 1) := by decide +kernel
theorem dX4_copy_119 : decode cX4_copy 119 = .ok (.aaload, 1) := by decide +kernel
theorem dX4_copy_120 : decode cX4_copy 120 = .ok (.getfield 225, 3) := by decide +kernel
theorem dX4_copy_123 : decode cX4_copy 123 = .ok (.iload_n 2, 1) := by decide +kernel
theorem dX4_copy_124 : decode cX4_copy 124 = .ok (.aload_n 0, 1) := by decide +kernel
theorem dX4_copy_125 : decode cX4_copy 125 = .ok (.getfield 31, 3) := by decide +kernel
theorem dX4_copy_128 : decode cX4_copy 128 = .ok (.iload_n 3, 1) := by decide +kernel
theorem dX4_copy_129 : decode cX4_copy 129 = .ok (.aaload, 1) := by decide +kernel
theorem dX4_copy_130 : decode cX4_copy 130 = .ok (.getfield 225, 3) := by decide +kernel
theorem dX4_copy_133 : decode cX4_copy 133 = .ok (.iload 4, 2) := by decide +kernel
theorem dX4_copy_135 : decode cX4_copy 135 = .ok (.iload 5, 2) := by decide +kernel
theorem dX4_copy_137 : decode cX4_copy 137 = .ok (.invokestatic 228, 3) := by decide +kernel
theorem dX4_copy_140 : decode cX4_copy 140 = .ok (.iload 5, 2) := by decide +kernel
theorem dX4_copy_142 : decode cX4_copy 142 = .ok (.ireturn, 1) := by decide +kernel
theorem dX4_load_0 : decode cX4_load 0 = .ok (.aload_n 0, 1) := by decide +kernel
theorem dX4_load_1 : decode cX4_load 1 = .ok (.iload_n 1, 1) := by decide +kernel
theorem dX4_load_2 : decode cX4_load 2 = .ok (.invokevirtual 211, 3) := by decide +kernel
theorem dX4_load_5 : decode cX4_load 5 = .ok (.istore_n 2, 1) := by decide +kernel
theorem dX4_load_6 : decode cX4_load 6 = .ok (.iload_n 2, 1) := by decide +kernel
theorem dX4_load_7 : decode cX4_load 7 = .ok (.iconst (-1), 1) := by decide +kernel
theorem dX4_load_8 : decode cX4_load 8 = .ok (.if_icmp .eq 9, 3) := by decide +kernel
theorem dX4_load_11 : decode cX4_load 11 = .ok (.aload_n 0, 1) := by decide +kernel
theorem dX4_load_12 : decode cX4_load 12 = .ok (.iload_n 2, 1) := by decide +kernel
theorem dX4_load_13 : decode cX4_load 13 = .ok (.invokevirtual 55, 3) := by decide +kernel
theorem dX4_load_16 : decode cX4_load 16 = .ok (.ireturn, 1) := by decide +kernel
theorem dX4_load_17 : decode cX4_load 17 = .ok (.aload_n 0, 1) := by decide +kernel
theorem dX4_load_18 : decode cX4_load 18 = .ok (.getfield 31, 3) := by decide +kernel
theorem dX4_load_21 : decode cX4_load 21 = .ok (.iload_n 1, 1) := by decide +kernel
theorem dX4_load_22 : decode cX4_load 22 = .ok (.aaload, 1) := by decide +kernel
theorem dX4_load_23 : decode cX4_load 23 = .ok (.astore_n 3, 1) := by decide +kernel
theorem dX4_load_24 : decode cX4_load 24 = .ok (.iconst 0, 1) := by decide +kernel
theorem dX4_load_25 : decode cX4_load 25 = .ok (.istore 4, 2) := by decide +kernel
theorem dX4_load_27 : decode cX4_load 27 = .ok (.iload 4, 2) := by decide +kernel
theorem dX4_load_29 : decode cX4_load 29 = .ok (.bipush 6, 2) := by decide +kernel
theorem dX4_load_31 : decode cX4_load 31 = .ok (.if_icmp .ge 48, 3) := by decide +kernel
theorem dX4_load_34 : decode cX4_load 34 = .ok (.iload 4, 2) := by decide +kernel
theorem dX4_load_36 : decode cX4_load 36 = .ok (.aload_n 3, 1) := by decide +kernel
theorem dX4_load_37 : decode cX4_load 37 = .ok (.getfield 210, 3) := by decide +kernel
theorem dX4_load_40 : decode cX4_load 40 = .ok (.if_icmp .ge 39, 3) := by decide +kernel
theorem dX4_load_43 : decode cX4_load 43 = .ok (.aload_n 3, 1) := by decide +kernel
theorem dX4_load_44 : decode cX4_load 44 = .ok (.getfield 225, 3) := by decide +kernel
theorem dX4_load_47 : decode cX4_load 47 = .ok (.iload 4, 2) := by decide +kernel
theorem dX4_load_49 : decode cX4_load 49 = .ok (.iaload, 1) := by decide +kernel
theorem dX4_load_50 : decode cX4_load 50 = .ok (.invokestatic 63, 3) := by decide +kernel
theorem dX4_load_53 : decode cX4_load 53 = .ok (.ifCond .eq 26, 3) := by decide +kernel
theorem dX4_load_56 : decode cX4_load 56 = .ok (.aload_n 0, 1) := by decide +kernel
theorem dX4_load_57 : decode cX4_load 57 = .ok (.getfield 10, 3) := by decide +kernel
theorem dX4_load_60 : decode cX4_load 60 = .ok (.getfield 66, 3) := by decide +kernel
theorem dX4_load_63 : decode cX4_load 63 = .ok (.iload 4, 2) := by decide +kernel
theorem dX4_load_65 : decode cX4_load 65 = .ok (.aload_n 3, 1) := by decide +kernel
theorem dX4_load_66 : decode cX4_load 66 = .ok (.getfield 225, 3) := by decide +kernel
theorem dX4_load_69 : decode cX4_load 69 = .ok (.iload 4, 2) := by decide +kernel
theorem dX4_load_71 : decode cX4_load 71 = .ok (.iaload, 1) := by decide +kernel
theorem dX4_load_72 : decode cX4_load 72 = .ok (.iastore, 1) := by decide +kernel
theorem dX4_load_73 : decode cX4_load 73 = .ok (.iinc 4 1, 3) := by decide +kernel
theorem dX4_load_76 : decode cX4_load 76 = .ok (.goto (-49), 3) := by decide +kernel
theorem dX4_load_79 : decode cX4_load 79 = .ok (.iload 4, 2) := by decide +kernel
theorem dX4_load_81 : decode cX4_load 81 = .ok (.ireturn, 1) := by decide +kernel
theorem dX4_judge_0 : decode cX4_judge 0 = .ok (.aload_n 0, 1) := by decide +kernel
theorem dX4_judge_1 : decode cX4_judge 1 = .ok (.iload_n 1, 1) := by decide +kernel
theorem dX4_judge_2 : decode cX4_judge 2 = .ok (.invokevirtual 211, 3) := by decide +kernel
theorem dX4_judge_5 : decode cX4_judge 5 = .ok (.istore_n 2, 1) := by decide +kernel
theorem dX4_judge_6 : decode cX4_judge 6 = .ok (.iload_n 2, 1) := by decide +kernel
theorem dX4_judge_7 : decode cX4_judge 7 = .ok (.iconst (-1), 1) := by decide +kernel
theorem dX4_judge_8 : decode cX4_judge 8 = .ok (.if_icmp .eq 9, 3) := by decide +kernel
theorem dX4_judge_11 : decode cX4_judge 11 = .ok (.aload_n 0, 1) := by decide +kernel
theorem dX4_judge_12 : decode cX4_judge 12 = .ok (.iload_n 2, 1) := by decide +kernel
theorem dX4_judge_13 : decode cX4_judge 13 = .ok (.invokevirtual 55, 3) := by decide +kernel
theorem dX4_judge_16 : decode cX4_judge 16 = .ok (.ireturn, 1) := by decide +kernel
theorem dX4_judge_17 : decode cX4_judge 17 = .ok (.aload_n 0, 1) := by decide +kernel
theorem dX4_judge_18 : decode cX4_judge 18 = .ok (.getfield 31, 3) := by decide +kernel
theorem dX4_judge_21 : decode cX4_judge 21 = .ok (.iload_n 1, 1) := by decide +kernel
theorem dX4_judge_22 : decode cX4_judge 22 = .ok (.aaload, 1) := by decide +kernel
theorem dX4_judge_23 : decode cX4_judge 23 = .ok (.astore_n 3, 1) := by decide +kernel
theorem dX4_judge_24 : decode cX4_judge 24 = .ok (.iconst 0, 1) := by decide +kernel
theorem dX4_judge_25 : decode cX4_judge 25 = .ok (.istore 4, 2) := by decide +kernel
theorem dX4_judge_27 : decode cX4_judge 27 = .ok (.iload 4, 2) := by decide +kernel
theorem dX4_judge_29 : decode cX4_judge 29 = .ok (.aload_n 3, 1) := by decide +kernel
theorem dX4_judge_30 : decode cX4_judge 30 = .ok (.getfield 210, 3) := by decide +kernel
theorem dX4_judge_33 : decode cX4_judge 33 = .ok (.if_icmp .ge 46, 3) := by decide +kernel
theorem dX4_judge_36 : decode cX4_judge 36 = .ok (.aload_n 0, 1) := by decide +kernel
theorem dX4_judge_37 : decode cX4_judge 37 = .ok (.iload 4, 2) := by decide +kernel
theorem dX4_judge_39 : decode cX4_judge 39 = .ok (.invokevirtual 84, 3) := by decide +kernel
theorem dX4_judge_42 : decode cX4_judge 42 = .ok (.ifCond .eq 26, 3) := by decide +kernel
theorem dX4_judge_45 : decode cX4_judge 45 = .ok (.aload_n 0, 1) := by decide +kernel
theorem dX4_judge_46 : decode cX4_judge 46 = .ok (.getfield 10, 3) := by decide +kernel
theorem dX4_judge_49 : decode cX4_judge 49 = .ok (.getfield 94, 3) := by decide +kernel
theorem dX4_judge_52 : decode cX4_judge 52 = .ok (.iload 4, 2) := by decide +kernel
theorem dX4_judge_54 : decode cX4_judge 54 = .ok (.aaload, 1) := by decide +kernel
theorem dX4_judge_55 : decode cX4_judge 55 = .ok (.getfield 79, 3) := by decide +kernel
theorem dX4_judge_58 : decode cX4_judge 58 = .ok (.aload_n 3, 1) := by decide +kernel
theorem dX4_judge_59 : decode cX4_judge 59 = .ok (.getfield 225, 3) := by decide +kernel
theorem dX4_judge_62 : decode cX4_judge 62 = .ok (.iload 4, 2) := by decide +kernel
theorem dX4_judge_64 : decode cX4_judge 64 = .ok (.iaload, 1) := by decide +kernel
theorem dX4_judge_65 : decode cX4_judge 65 = .ok (.if_icmp .eq 8, 3) := by decide +kernel
theorem dX4_judge_68 : decode cX4_judge 68 = .ok (.iconst 1, 1) := by decide +kernel
theorem dX4_judge_69 : decode cX4_judge 69 = .ok (.iload 4, 2) := by decide +kernel
theorem dX4_judge_71 : decode cX4_judge 71 = .ok (.iadd, 1) := by decide +kernel
theorem dX4_judge_72 : decode cX4_judge 72 = .ok (.ireturn, 1) := by decide +kernel
theorem dX4_judge_73 : decode cX4_judge 73 = .ok (.iinc 4 1, 3) := by decide +kernel
theorem dX4_judge_76 : decode cX4_judge 76 = .ok (.goto (-49), 3) := by decide +kernel
theorem dX4_judge_79 : decode cX4_judge 79 = .ok (.iconst 0, 1) := by decide +kernel
theorem dX4_judge_80 : decode cX4_judge 80 = .ok (.ireturn, 1) := by decide +kernel
theorem dX4_image_0 : decode cX4_image 0 = .ok (.aload_n 0, 1) := by decide +kernel
theorem dX4_image_1 : decode cX4_image 1 = .ok (.getfield 16, 3) := by decide +kernel
theorem dX4_image_4 : decode cX4_image 4 = .ok (.aload_n 0, 1) := by decide +kernel
theorem dX4_image_5 : decode cX4_image 5 = .ok (.getfield 10, 3) := by decide +kernel
theorem dX4_image_8 : decode cX4_image 8 = .ok (.invokevirtual 155, 3) := by decide +kernel
theorem dX4_image_11 : decode cX4_image 11 = .ok (.aload_n 0, 1) := by decide +kernel
theorem dX4_image_12 : decode cX4_image 12 = .ok (.iconst 1, 1) := by decide +kernel
theorem dX4_image_13 : decode cX4_image 13 = .ok (.putfield 39, 3) := by decide +kernel
theorem dX4_image_16 : decode cX4_image 16 = .ok (.iconst 1, 1) := by decide +kernel
theorem dX4_image_17 : decode cX4_image 17 = .ok (.ireturn, 1) := by decide +kernel
theorem dX4_undo_0 : decode cX4_undo 0 = .ok (.aload_n 0, 1) := by decide +kernel
theorem dX4_undo_1 : decode cX4_undo 1 = .ok (.getfield 39, 3) := by decide +kernel
theorem dX4_undo_4 : decode cX4_undo 4 = .ok (.ifCond .ne 9, 3) := by decide +kernel
theorem dX4_undo_7 : decode cX4_undo 7 = .ok (.aload_n 0, 1) := by decide +kernel
theorem dX4_undo_8 : decode cX4_undo 8 = .ok (.iconst 3, 1) := by decide +kernel
theorem dX4_undo_9 : decode cX4_undo 9 = .ok (.invokevirtual 55, 3) := by decide +kernel
theorem dX4_undo_12 : decode cX4_undo 12 = .ok (.ireturn, 1) := by decide +kernel
theorem dX4_undo_13 : decode cX4_undo 13 = .ok (.aload_n 0, 1) := by decide +kernel
theorem dX4_undo_14 : decode cX4_undo 14 = .ok (.getfield 10, 3) := by decide +kernel
theorem dX4_undo_17 : decode cX4_undo 17 = .ok (.aload_n 0, 1) := by decide +kernel
theorem dX4_undo_18 : decode cX4_undo 18 = .ok (.getfield 16, 3) := by decide +kernel
theorem dX4_undo_21 : decode cX4_undo 21 = .ok (.invokevirtual 155, 3) := by decide +kernel
theorem dX4_undo_24 : decode cX4_undo 24 = .ok (.aload_n 0, 1) := by decide +kernel
theorem dX4_undo_25 : decode cX4_undo 25 = .ok (.getfield 10, 3) := by decide +kernel
theorem dX4_undo_28 : decode cX4_undo 28 = .ok (.getfield 111, 3) := by decide +kernel
theorem dX4_undo_31 : decode cX4_undo 31 = .ok (.ireturn, 1) := by decide +kernel
theorem dX4_tear_0 : decode cX4_tear 0 = .ok (.aload_n 0, 1) := by decide +kernel
theorem dX4_tear_1 : decode cX4_tear 1 = .ok (.getfield 39, 3) := by decide +kernel
theorem dX4_tear_4 : decode cX4_tear 4 = .ok (.ifCond .eq 7, 3) := by decide +kernel
theorem dX4_tear_7 : decode cX4_tear 7 = .ok (.iconst 1, 1) := by decide +kernel
theorem dX4_tear_8 : decode cX4_tear 8 = .ok (.goto 4, 3) := by decide +kernel
theorem dX4_tear_11 : decode cX4_tear 11 = .ok (.iconst 0, 1) := by decide +kernel
theorem dX4_tear_12 : decode cX4_tear 12 = .ok (.istore_n 1, 1) := by decide +kernel
theorem dX4_tear_13 : decode cX4_tear 13 = .ok (.aload_n 0, 1) := by decide +kernel
theorem dX4_tear_14 : decode cX4_tear 14 = .ok (.iconst 0, 1) := by decide +kernel
theorem dX4_tear_15 : decode cX4_tear 15 = .ok (.putfield 39, 3) := by decide +kernel
theorem dX4_tear_18 : decode cX4_tear 18 = .ok (.iload_n 1, 1) := by decide +kernel
theorem dX4_tear_19 : decode cX4_tear 19 = .ok (.ireturn, 1) := by decide +kernel
theorem dX4_count_0 : decode cX4_count 0 = .ok (.iload_n 1, 1) := by decide +kernel
theorem dX4_count_1 : decode cX4_count 1 = .ok (.tableswitch 114 0 7 #[47, 55, 63, 71, 79, 90, 98, 106], 47) := by decide +kernel
theorem dX4_count_48 : decode cX4_count 48 = .ok (.aload_n 0, 1) := by decide +kernel
theorem dX4_count_49 : decode cX4_count 49 = .ok (.getfield 10, 3) := by decide +kernel
theorem dX4_count_52 : decode cX4_count 52 = .ok (.getfield 111, 3) := by decide +kernel
theorem dX4_count_55 : decode cX4_count 55 = .ok (.ireturn, 1) := by decide +kernel
theorem dX4_count_56 : decode cX4_count 56 = .ok (.aload_n 0, 1) := by decide +kernel
theorem dX4_count_57 : decode cX4_count 57 = .ok (.getfield 10, 3) := by decide +kernel
theorem dX4_count_60 : decode cX4_count 60 = .ok (.getfield 72, 3) := by decide +kernel
theorem dX4_count_63 : decode cX4_count 63 = .ok (.ireturn, 1) := by decide +kernel
theorem dX4_count_64 : decode cX4_count 64 = .ok (.aload_n 0, 1) := by decide +kernel
theorem dX4_count_65 : decode cX4_count 65 = .ok (.getfield 10, 3) := by decide +kernel
theorem dX4_count_68 : decode cX4_count 68 = .ok (.getfield 48, 3) := by decide +kernel
theorem dX4_count_71 : decode cX4_count 71 = .ok (.ireturn, 1) := by decide +kernel
theorem dX4_count_72 : decode cX4_count 72 = .ok (.aload_n 0, 1) := by decide +kernel
theorem dX4_count_73 : decode cX4_count 73 = .ok (.getfield 10, 3) := by decide +kernel
theorem dX4_count_76 : decode cX4_count 76 = .ok (.getfield 119, 3) := by decide +kernel
theorem dX4_count_79 : decode cX4_count 79 = .ok (.ireturn, 1) := by decide +kernel
theorem dX4_count_80 : decode cX4_count 80 = .ok (.aload_n 0, 1) := by decide +kernel
theorem dX4_count_81 : decode cX4_count 81 = .ok (.getfield 10, 3) := by decide +kernel
theorem dX4_count_84 : decode cX4_count 84 = .ok (.invokevirtual 122, 3) := by decide +kernel
theorem dX4_count_87 : decode cX4_count 87 = .ok (.invokestatic 234, 3) := by decide +kernel
theorem dX4_count_90 : decode cX4_count 90 = .ok (.ireturn, 1) := by decide +kernel
theorem dX4_count_91 : decode cX4_count 91 = .ok (.aload_n 0, 1) := by decide +kernel
theorem dX4_count_92 : decode cX4_count 92 = .ok (.getfield 25, 3) := by decide +kernel
theorem dX4_count_95 : decode cX4_count 95 = .ok (.getfield 184, 3) := by decide +kernel
theorem dX4_count_98 : decode cX4_count 98 = .ok (.ireturn, 1) := by decide +kernel
theorem dX4_count_99 : decode cX4_count 99 = .ok (.aload_n 0, 1) := by decide +kernel
theorem dX4_count_100 : decode cX4_count 100 = .ok (.getfield 10, 3) := by decide +kernel
theorem dX4_count_103 : decode cX4_count 103 = .ok (.getfield 181, 3) := by decide +kernel
theorem dX4_count_106 : decode cX4_count 106 = .ok (.ireturn, 1) := by decide +kernel
theorem dX4_count_107 : decode cX4_count 107 = .ok (.aload_n 0, 1) := by decide +kernel
theorem dX4_count_108 : decode cX4_count 108 = .ok (.getfield 10, 3) := by decide +kernel
theorem dX4_count_111 : decode cX4_count 111 = .ok (.invokevirtual 239, 3) := by decide +kernel
theorem dX4_count_114 : decode cX4_count 114 = .ok (.ireturn, 1) := by decide +kernel
theorem dX4_count_115 : decode cX4_count 115 = .ok (.aload_n 0, 1) := by decide +kernel
theorem dX4_count_116 : decode cX4_count 116 = .ok (.iconst 0, 1) := by decide +kernel
theorem dX4_count_117 : decode cX4_count 117 = .ok (.invokevirtual 55, 3) := by decide +kernel
theorem dX4_count_120 : decode cX4_count 120 = .ok (.ireturn, 1) := by decide +kernel
theorem dX4_status_0 : decode cX4_status 0 = .ok (.iload_n 1, 1) := by decide +kernel
theorem dX4_status_1 : decode cX4_status 1 = .ok (.iconst (-1), 1) := by decide +kernel
theorem dX4_status_2 : decode cX4_status 2 = .ok (.bipush 6, 2) := by decide +kernel
theorem dX4_status_4 : decode cX4_status 4 = .ok (.invokestatic 44, 3) := by decide +kernel
theorem dX4_status_7 : decode cX4_status 7 = .ok (.ifCond .ne 9, 3) := by decide +kernel
theorem dX4_status_10 : decode cX4_status 10 = .ok (.aload_n 0, 1) := by decide +kernel
theorem dX4_status_11 : decode cX4_status 11 = .ok (.iconst 0, 1) := by decide +kernel
theorem dX4_status_12 : decode cX4_status 12 = .ok (.invokevirtual 55, 3) := by decide +kernel
theorem dX4_status_15 : decode cX4_status 15 = .ok (.ireturn, 1) := by decide +kernel
theorem dX4_status_16 : decode cX4_status 16 = .ok (.iload_n 1, 1) := by decide +kernel
theorem dX4_status_17 : decode cX4_status 17 = .ok (.ifCond .lt 10, 3) := by decide +kernel
theorem dX4_status_20 : decode cX4_status 20 = .ok (.aload_n 0, 1) := by decide +kernel
theorem dX4_status_21 : decode cX4_status 21 = .ok (.getfield 35, 3) := by decide +kernel
theorem dX4_status_24 : decode cX4_status 24 = .ok (.iload_n 1, 1) := by decide +kernel
theorem dX4_status_25 : decode cX4_status 25 = .ok (.iaload, 1) := by decide +kernel
theorem dX4_status_26 : decode cX4_status 26 = .ok (.ireturn, 1) := by decide +kernel
theorem dX4_status_27 : decode cX4_status 27 = .ok (.iconst 0, 1) := by decide +kernel
theorem dX4_status_28 : decode cX4_status 28 = .ok (.istore_n 2, 1) := by decide +kernel
theorem dX4_status_29 : decode cX4_status 29 = .ok (.aload_n 0, 1) := by decide +kernel
theorem dX4_status_30 : decode cX4_status 30 = .ok (.getfield 35, 3) := by decide +kernel
theorem dX4_status_33 : decode cX4_status 33 = .ok (.astore_n 3, 1) := by decide +kernel
theorem dX4_status_34 : decode cX4_status 34 = .ok (.aload_n 3, 1) := by decide +kernel
theorem dX4_status_35 : decode cX4_status 35 = .ok (.arraylength, 1) := by decide +kernel
theorem dX4_status_36 : decode cX4_status 36 = .ok (.istore 4, 2) := by decide +kernel
theorem dX4_status_38 : decode cX4_status 38 = .ok (.iconst 0, 1) := by decide +kernel
theorem dX4_status_39 : decode cX4_status 39 = .ok (.istore 5, 2) := by decide +kernel
theorem dX4_status_41 : decode cX4_status 41 = .ok (.iload 5, 2) := by decide +kernel
theorem dX4_status_43 : decode cX4_status 43 = .ok (.iload 4, 2) := by decide +kernel
theorem dX4_status_45 : decode cX4_status 45 = .ok (.if_icmp .ge 20, 3) := by decide +kernel
theorem dX4_status_48 : decode cX4_status 48 = .ok (.aload_n 3, 1) := by decide +kernel
theorem dX4_status_49 : decode cX4_status 49 = .ok (.iload 5, 2) := by decide +kernel
theorem dX4_status_51 : decode cX4_status 51 = .ok (.iaload, 1) := by decide +kernel
theorem dX4_status_52 : decode cX4_status 52 = .ok (.istore 6, 2) := by decide +kernel
theorem dX4_status_54 : decode cX4_status 54 = .ok (.iload_n 2, 1) := by decide +kernel
theorem dX4_status_55 : decode cX4_status 55 = .ok (.iload 6, 2) := by decide +kernel
theorem dX4_status_57 : decode cX4_status 57 = .ok (.iadd, 1) := by decide +kernel
theorem dX4_status_58 : decode cX4_status 58 = .ok (.istore_n 2, 1) := by decide +kernel
theorem dX4_status_59 : decode cX4_status 59 = .ok (.iinc 5 1, 3) := by decide +kernel
theorem dX4_status_62 : decode cX4_status 62 = .ok (.goto (-21), 3) := by decide +kernel
theorem dX4_status_65 : decode cX4_status 65 = .ok (.iload_n 2, 1) := by decide +kernel
theorem dX4_status_66 : decode cX4_status 66 = .ok (.ireturn, 1) := by decide +kernel
theorem dX4_found_0 : decode cX4_found 0 = .ok (.aload_n 0, 1) := by decide +kernel
theorem dX4_found_1 : decode cX4_found 1 = .ok (.getfield 35, 3) := by decide +kernel
theorem dX4_found_4 : decode cX4_found 4 = .ok (.iload_n 1, 1) := by decide +kernel
theorem dX4_found_5 : decode cX4_found 5 = .ok (.dup2, 1) := by decide +kernel
theorem dX4_found_6 : decode cX4_found 6 = .ok (.iaload, 1) := by decide +kernel
theorem dX4_found_7 : decode cX4_found 7 = .ok (.iconst 1, 1) := by decide +kernel
theorem dX4_found_8 : decode cX4_found 8 = .ok (.iadd, 1) := by decide +kernel
theorem dX4_found_9 : decode cX4_found 9 = .ok (.iastore, 1) := by decide +kernel
theorem dX4_found_10 : decode cX4_found 10 = .ok (.ldc 242, 2) := by decide +kernel
theorem dX4_found_12 : decode cX4_found 12 = .ok (.iload_n 1, 1) := by decide +kernel
theorem dX4_found_13 : decode cX4_found 13 = .ok (.isub, 1) := by decide +kernel
theorem dX4_found_14 : decode cX4_found 14 = .ok (.ireturn, 1) := by decide +kernel
theorem dX4_isDish_0 : decode cX4_isDish 0 = .ok (.iload_n 1, 1) := by decide +kernel
theorem dX4_isDish_1 : decode cX4_isDish 1 = .ok (.iconst 0, 1) := by decide +kernel
theorem dX4_isDish_2 : decode cX4_isDish 2 = .ok (.aload_n 0, 1) := by decide +kernel
theorem dX4_isDish_3 : decode cX4_isDish 3 = .ok (.getfield 10, 3) := by decide +kernel
theorem dX4_isDish_6 : decode cX4_isDish 6 = .ok (.getfield 72, 3) := by decide +kernel
theorem dX4_isDish_9 : decode cX4_isDish 9 = .ok (.iconst 1, 1) := by decide +kernel
theorem dX4_isDish_10 : decode cX4_isDish 10 = .ok (.isub, 1) := by decide +kernel
theorem dX4_isDish_11 : decode cX4_isDish 11 = .ok (.invokestatic 44, 3) := by decide +kernel
theorem dX4_isDish_14 : decode cX4_isDish 14 = .ok (.ireturn, 1) := by decide +kernel
theorem dX4_faultOfSheet_0 : decode cX4_faultOfSheet 0 = .ok (.iload_n 1, 1) := by decide +kernel
theorem dX4_faultOfSheet_1 : decode cX4_faultOfSheet 1 = .ok (.invokestatic 204, 3) := by decide +kernel
theorem dX4_faultOfSheet_4 : decode cX4_faultOfSheet 4 = .ok (.ifCond .ne 5, 3) := by decide +kernel
theorem dX4_faultOfSheet_7 : decode cX4_faultOfSheet 7 = .ok (.iconst 0, 1) := by decide +kernel
theorem dX4_faultOfSheet_8 : decode cX4_faultOfSheet 8 = .ok (.ireturn, 1) := by decide +kernel
theorem dX4_faultOfSheet_9 : decode cX4_faultOfSheet 9 = .ok (.aload_n 0, 1) := by decide +kernel
theorem dX4_faultOfSheet_10 : decode cX4_faultOfSheet 10 = .ok (.getfield 31, 3) := by decide +kernel
theorem dX4_faultOfSheet_13 : decode cX4_faultOfSheet 13 = .ok (.iload_n 1, 1) := by decide +kernel
theorem dX4_faultOfSheet_14 : decode cX4_faultOfSheet 14 = .ok (.aaload, 1) := by decide +kernel
theorem dX4_faultOfSheet_15 : decode cX4_faultOfSheet 15 = .ok (.invokevirtual 215, 3) := by decide +kernel
theorem dX4_faultOfSheet_18 : decode cX4_faultOfSheet 18 = .ok (.ifCond .eq 7, 3) := by decide +kernel
theorem dX4_faultOfSheet_21 : decode cX4_faultOfSheet 21 = .ok (.iconst 5, 1) := by decide +kernel
theorem dX4_faultOfSheet_22 : decode cX4_faultOfSheet 22 = .ok (.goto 4, 3) := by decide +kernel
theorem dX4_faultOfSheet_25 : decode cX4_faultOfSheet 25 = .ok (.iconst (-1), 1) := by decide +kernel
theorem dX4_faultOfSheet_26 : decode cX4_faultOfSheet 26 = .ok (.ireturn, 1) := by decide +kernel
theorem dX4_faultOfTold_0 : decode cX4_faultOfTold 0 = .ok (.aload_n 0, 1) := by decide +kernel
theorem dX4_faultOfTold_1 : decode cX4_faultOfTold 1 = .ok (.iload_n 1, 1) := by decide +kernel
theorem dX4_faultOfTold_2 : decode cX4_faultOfTold 2 = .ok (.invokevirtual 211, 3) := by decide +kernel
theorem dX4_faultOfTold_5 : decode cX4_faultOfTold 5 = .ok (.istore_n 3, 1) := by decide +kernel
theorem dX4_faultOfTold_6 : decode cX4_faultOfTold 6 = .ok (.iload_n 3, 1) := by decide +kernel
theorem dX4_faultOfTold_7 : decode cX4_faultOfTold 7 = .ok (.iconst (-1), 1) := by decide +kernel
theorem dX4_faultOfTold_8 : decode cX4_faultOfTold 8 = .ok (.if_icmp .ne 13, 3) := by decide +kernel
theorem dX4_faultOfTold_11 : decode cX4_faultOfTold 11 = .ok (.aload_n 0, 1) := by decide +kernel
theorem dX4_faultOfTold_12 : decode cX4_faultOfTold 12 = .ok (.iload_n 2, 1) := by decide +kernel
theorem dX4_faultOfTold_13 : decode cX4_faultOfTold 13 = .ok (.invokevirtual 84, 3) := by decide +kernel
theorem dX4_faultOfTold_16 : decode cX4_faultOfTold 16 = .ok (.ifCond .ne 5, 3) := by decide +kernel
theorem dX4_faultOfTold_19 : decode cX4_faultOfTold 19 = .ok (.iconst 0, 1) := by decide +kernel
theorem dX4_faultOfTold_20 : decode cX4_faultOfTold 20 = .ok (.ireturn, 1) := by decide +kernel
theorem dX4_faultOfTold_21 : decode cX4_faultOfTold 21 = .ok (.iload_n 3, 1) := by decide +kernel
theorem dX4_faultOfTold_22 : decode cX4_faultOfTold 22 = .ok (.ireturn, 1) := by decide +kernel
theorem dX4_draftGoesAs_0 : decode cX4_draftGoesAs 0 = .ok (.iconst 0, 1) := by decide +kernel
theorem dX4_draftGoesAs_1 : decode cX4_draftGoesAs 1 = .ok (.istore_n 2, 1) := by decide +kernel
theorem dX4_draftGoesAs_2 : decode cX4_draftGoesAs 2 = .ok (.iload_n 2, 1) := by decide +kernel
theorem dX4_draftGoesAs_3 : decode cX4_draftGoesAs 3 = .ok (.aload_n 1, 1) := by decide +kernel
theorem dX4_draftGoesAs_4 : decode cX4_draftGoesAs 4 = .ok (.getfield 210, 3) := by decide +kernel
theorem dX4_draftGoesAs_7 : decode cX4_draftGoesAs 7 = .ok (.if_icmp .ge 53, 3) := by decide +kernel
theorem dX4_draftGoesAs_10 : decode cX4_draftGoesAs 10 = .ok (.iload_n 2, 1) := by decide +kernel
theorem dX4_draftGoesAs_11 : decode cX4_draftGoesAs 11 = .ok (.ifCond .le 10, 3) := by decide +kernel
theorem dX4_draftGoesAs_14 : decode cX4_draftGoesAs 14 = .ok (.aload_n 0, 1) := by decide +kernel
theorem dX4_draftGoesAs_15 : decode cX4_draftGoesAs 15 = .ok (.getfield 19, 3) := by decide +kernel
theorem dX4_draftGoesAs_18 : decode cX4_draftGoesAs 18 = .ok (.invokevirtual 149, 3) := by decide +kernel
theorem dX4_draftGoesAs_21 : decode cX4_draftGoesAs 21 = .ok (.aload_n 1, 1) := by decide +kernel
theorem dX4_draftGoesAs_22 : decode cX4_draftGoesAs 22 = .ok (.getfield 225, 3) := by decide +kernel
theorem dX4_draftGoesAs_25 : decode cX4_draftGoesAs 25 = .ok (.iload_n 2, 1) := by decide +kernel
theorem dX4_draftGoesAs_26 : decode cX4_draftGoesAs 26 = .ok (.iaload, 1) := by decide +kernel
theorem dX4_draftGoesAs_27 : decode cX4_draftGoesAs 27 = .ok (.iconst (-1), 1) := by decide +kernel
theorem dX4_draftGoesAs_28 : decode cX4_draftGoesAs 28 = .ok (.if_icmp .eq 26, 3) := by decide +kernel
theorem dX4_draftGoesAs_31 : decode cX4_draftGoesAs 31 = .ok (.aload_n 1, 1) := by decide +kernel
theorem dX4_draftGoesAs_32 : decode cX4_draftGoesAs 32 = .ok (.getfield 225, 3) := by decide +kernel
theorem dX4_draftGoesAs_35 : decode cX4_draftGoesAs 35 = .ok (.iload_n 2, 1) := by decide +kernel
theorem dX4_draftGoesAs_36 : decode cX4_draftGoesAs 36 = .ok (.iaload, 1) := by decide +kernel
theorem dX4_draftGoesAs_37 : decode cX4_draftGoesAs 37 = .ok (.aload_n 0, 1) := by decide +kernel
theorem dX4_draftGoesAs_38 : decode cX4_draftGoesAs 38 = .ok (.getfield 19, 3) := by decide +kernel
theorem dX4_draftGoesAs_41 : decode cX4_draftGoesAs 41 = .ok (.getfield 94, 3) := by decide +kernel
theorem dX4_draftGoesAs_44 : decode cX4_draftGoesAs 44 = .ok (.iconst 0, 1) := by decide +kernel
theorem dX4_draftGoesAs_45 : decode cX4_draftGoesAs 45 = .ok (.aaload, 1) := by decide +kernel
theorem dX4_draftGoesAs_46 : decode cX4_draftGoesAs 46 = .ok (.getfield 79, 3) := by decide +kernel
theorem dX4_draftGoesAs_49 : decode cX4_draftGoesAs 49 = .ok (.if_icmp .eq 5, 3) := by decide +kernel
theorem dX4_draftGoesAs_52 : decode cX4_draftGoesAs 52 = .ok (.iconst 0, 1) := by decide +kernel
theorem dX4_draftGoesAs_53 : decode cX4_draftGoesAs 53 = .ok (.ireturn, 1) := by decide +kernel
theorem dX4_draftGoesAs_54 : decode cX4_draftGoesAs 54 = .ok (.iinc 2 1, 3) := by decide +kernel
theorem dX4_draftGoesAs_57 : decode cX4_draftGoesAs 57 = .ok (.goto (-55), 3) := by decide +kernel
theorem dX4_draftGoesAs_60 : decode cX4_draftGoesAs 60 = .ok (.iconst 1, 1) := by decide +kernel
theorem dX4_draftGoesAs_61 : decode cX4_draftGoesAs 61 = .ok (.ireturn, 1) := by decide +kernel
theorem dX4_within_0 : decode cX4_within 0 = .ok (.iload_n 0, 1) := by decide +kernel
theorem dX4_within_1 : decode cX4_within 1 = .ok (.iload_n 1, 1) := by decide +kernel
theorem dX4_within_2 : decode cX4_within 2 = .ok (.if_icmp .lt 12, 3) := by decide +kernel
theorem dX4_within_5 : decode cX4_within 5 = .ok (.iload_n 0, 1) := by decide +kernel
theorem dX4_within_6 : decode cX4_within 6 = .ok (.iload_n 2, 1) := by decide +kernel
theorem dX4_within_7 : decode cX4_within 7 = .ok (.if_icmp .gt 7, 3) := by decide +kernel
theorem dX4_within_10 : decode cX4_within 10 = .ok (.iconst 1, 1) := by decide +kernel
theorem dX4_within_11 : decode cX4_within 11 = .ok (.goto 4, 3) := by decide +kernel
theorem dX4_within_14 : decode cX4_within 14 = .ok (.iconst 0, 1) := by decide +kernel
theorem dX4_within_15 : decode cX4_within 15 = .ok (.ireturn, 1) := by decide +kernel
theorem dX4_isPlace_0 : decode cX4_isPlace 0 = .ok (.iload_n 0, 1) := by decide +kernel
theorem dX4_isPlace_1 : decode cX4_isPlace 1 = .ok (.iconst 0, 1) := by decide +kernel
theorem dX4_isPlace_2 : decode cX4_isPlace 2 = .ok (.iconst 5, 1) := by decide +kernel
theorem dX4_isPlace_3 : decode cX4_isPlace 3 = .ok (.invokestatic 44, 3) := by decide +kernel
theorem dX4_isPlace_6 : decode cX4_isPlace 6 = .ok (.ireturn, 1) := by decide +kernel
theorem dX4_isDeed_0 : decode cX4_isDeed 0 = .ok (.iload_n 0, 1) := by decide +kernel
theorem dX4_isDeed_1 : decode cX4_isDeed 1 = .ok (.iconst 0, 1) := by decide +kernel
theorem dX4_isDeed_2 : decode cX4_isDeed 2 = .ok (.bipush 11, 2) := by decide +kernel
theorem dX4_isDeed_4 : decode cX4_isDeed 4 = .ok (.invokestatic 44, 3) := by decide +kernel
theorem dX4_isDeed_7 : decode cX4_isDeed 7 = .ok (.ireturn, 1) := by decide +kernel
theorem dX4_isKind_0 : decode cX4_isKind 0 = .ok (.iload_n 0, 1) := by decide +kernel
theorem dX4_isKind_1 : decode cX4_isKind 1 = .ok (.iconst 0, 1) := by decide +kernel
theorem dX4_isKind_2 : decode cX4_isKind 2 = .ok (.bipush 6, 2) := by decide +kernel
theorem dX4_isKind_4 : decode cX4_isKind 4 = .ok (.invokestatic 44, 3) := by decide +kernel
theorem dX4_isKind_7 : decode cX4_isKind 7 = .ok (.ireturn, 1) := by decide +kernel
theorem dX4_isSpot_0 : decode cX4_isSpot 0 = .ok (.iload_n 0, 1) := by decide +kernel
theorem dX4_isSpot_1 : decode cX4_isSpot 1 = .ok (.iconst 0, 1) := by decide +kernel
theorem dX4_isSpot_2 : decode cX4_isSpot 2 = .ok (.bipush 9, 2) := by decide +kernel
theorem dX4_isSpot_4 : decode cX4_isSpot 4 = .ok (.invokestatic 44, 3) := by decide +kernel
theorem dX4_isSpot_7 : decode cX4_isSpot 7 = .ok (.ireturn, 1) := by decide +kernel
theorem dX4_isSheet_0 : decode cX4_isSheet 0 = .ok (.iload_n 0, 1) := by decide +kernel
theorem dX4_isSheet_1 : decode cX4_isSheet 1 = .ok (.iconst 0, 1) := by decide +kernel
theorem dX4_isSheet_2 : decode cX4_isSheet 2 = .ok (.iconst 3, 1) := by decide +kernel
theorem dX4_isSheet_3 : decode cX4_isSheet 3 = .ok (.invokestatic 44, 3) := by decide +kernel
theorem dX4_isSheet_6 : decode cX4_isSheet 6 = .ok (.ireturn, 1) := by decide +kernel
theorem dX4_mostOf_0 : decode cX4_mostOf 0 = .ok (.iload_n 0, 1) := by decide +kernel
theorem dX4_mostOf_1 : decode cX4_mostOf 1 = .ok (.tableswitch 52 0 5 #[39, 42, 45, 52, 52, 48], 39) := by decide +kernel
theorem dX4_mostOf_40 : decode cX4_mostOf 40 = .ok (.bipush 6, 2) := by decide +kernel
theorem dX4_mostOf_42 : decode cX4_mostOf 42 = .ok (.ireturn, 1) := by decide +kernel
theorem dX4_mostOf_43 : decode cX4_mostOf 43 = .ok (.bipush 99, 2) := by decide +kernel
theorem dX4_mostOf_45 : decode cX4_mostOf 45 = .ok (.ireturn, 1) := by decide +kernel
theorem dX4_mostOf_46 : decode cX4_mostOf 46 = .ok (.bipush 99, 2) := by decide +kernel
theorem dX4_mostOf_48 : decode cX4_mostOf 48 = .ok (.ireturn, 1) := by decide +kernel
theorem dX4_mostOf_49 : decode cX4_mostOf 49 = .ok (.sipush 9999, 3) := by decide +kernel
theorem dX4_mostOf_52 : decode cX4_mostOf 52 = .ok (.ireturn, 1) := by decide +kernel
theorem dX4_mostOf_53 : decode cX4_mostOf 53 = .ok (.iconst 1, 1) := by decide +kernel
theorem dX4_mostOf_54 : decode cX4_mostOf 54 = .ok (.ireturn, 1) := by decide +kernel
theorem dX4_grudgeAfter_0 : decode cX4_grudgeAfter 0 = .ok (.iconst 0, 1) := by decide +kernel
theorem dX4_grudgeAfter_1 : decode cX4_grudgeAfter 1 = .ok (.bipush 99, 2) := by decide +kernel
theorem dX4_grudgeAfter_3 : decode cX4_grudgeAfter 3 = .ok (.iload_n 0, 1) := by decide +kernel
theorem dX4_grudgeAfter_4 : decode cX4_grudgeAfter 4 = .ok (.getstatic 243, 3) := by decide +kernel
theorem dX4_grudgeAfter_7 : decode cX4_grudgeAfter 7 = .ok (.iload_n 1, 1) := by decide +kernel
theorem dX4_grudgeAfter_8 : decode cX4_grudgeAfter 8 = .ok (.iaload, 1) := by decide +kernel
theorem dX4_grudgeAfter_9 : decode cX4_grudgeAfter 9 = .ok (.iadd, 1) := by decide +kernel
theorem dX4_grudgeAfter_10 : decode cX4_grudgeAfter 10 = .ok (.invokestatic 246, 3) := by decide +kernel
theorem dX4_grudgeAfter_13 : decode cX4_grudgeAfter 13 = .ok (.invokestatic 251, 3) := by decide +kernel
theorem dX4_grudgeAfter_16 : decode cX4_grudgeAfter 16 = .ok (.ireturn, 1) := by decide +kernel
theorem dX4_isUnder_0 : decode cX4_isUnder 0 = .ok (.iload_n 0, 1) := by decide +kernel
theorem dX4_isUnder_1 : decode cX4_isUnder 1 = .ok (.istore_n 2, 1) := by decide +kernel
theorem dX4_isUnder_2 : decode cX4_isUnder 2 = .ok (.iconst 0, 1) := by decide +kernel
theorem dX4_isUnder_3 : decode cX4_isUnder 3 = .ok (.istore_n 3, 1) := by decide +kernel
theorem dX4_isUnder_4 : decode cX4_isUnder 4 = .ok (.iload_n 3, 1) := by decide +kernel
theorem dX4_isUnder_5 : decode cX4_isUnder 5 = .ok (.bipush 7, 2) := by decide +kernel
theorem dX4_isUnder_7 : decode cX4_isUnder 7 = .ok (.if_icmp .ge 26, 3) := by decide +kernel
theorem dX4_isUnder_10 : decode cX4_isUnder 10 = .ok (.iload_n 2, 1) := by decide +kernel
theorem dX4_isUnder_11 : decode cX4_isUnder 11 = .ok (.ifCond .lt 22, 3) := by decide +kernel
theorem dX4_isUnder_14 : decode cX4_isUnder 14 = .ok (.iload_n 2, 1) := by decide +kernel
theorem dX4_isUnder_15 : decode cX4_isUnder 15 = .ok (.iload_n 1, 1) := by decide +kernel
theorem dX4_isUnder_16 : decode cX4_isUnder 16 = .ok (.if_icmp .ne 5, 3) := by decide +kernel
theorem dX4_isUnder_19 : decode cX4_isUnder 19 = .ok (.iconst 1, 1) := by decide +kernel
theorem dX4_isUnder_20 : decode cX4_isUnder 20 = .ok (.ireturn, 1) := by decide +kernel
theorem dX4_isUnder_21 : decode cX4_isUnder 21 = .ok (.getstatic 254, 3) := by decide +kernel
theorem dX4_isUnder_24 : decode cX4_isUnder 24 = .ok (.iload_n 2, 1) := by decide +kernel
theorem dX4_isUnder_25 : decode cX4_isUnder 25 = .ok (.iaload, 1) := by decide +kernel
theorem dX4_isUnder_26 : decode cX4_isUnder 26 = .ok (.istore_n 2, 1) := by decide +kernel
theorem dX4_isUnder_27 : decode cX4_isUnder 27 = .ok (.iinc 3 1, 3) := by decide +kernel
theorem dX4_isUnder_30 : decode cX4_isUnder 30 = .ok (.goto (-26), 3) := by decide +kernel
theorem dX4_isUnder_33 : decode cX4_isUnder 33 = .ok (.iconst 0, 1) := by decide +kernel
theorem dX4_isUnder_34 : decode cX4_isUnder 34 = .ok (.ireturn, 1) := by decide +kernel
theorem dX4_commonDivisor_0 : decode cX4_commonDivisor 0 = .ok (.iload_n 1, 1) := by decide +kernel
theorem dX4_commonDivisor_1 : decode cX4_commonDivisor 1 = .ok (.istore_n 2, 1) := by decide +kernel
theorem dX4_commonDivisor_2 : decode cX4_commonDivisor 2 = .ok (.iload_n 2, 1) := by decide +kernel
theorem dX4_commonDivisor_3 : decode cX4_commonDivisor 3 = .ok (.iconst 1, 1) := by decide +kernel
theorem dX4_commonDivisor_4 : decode cX4_commonDivisor 4 = .ok (.if_icmp .le 23, 3) := by decide +kernel
theorem dX4_commonDivisor_7 : decode cX4_commonDivisor 7 = .ok (.iload_n 0, 1) := by decide +kernel
theorem dX4_commonDivisor_8 : decode cX4_commonDivisor 8 = .ok (.iload_n 2, 1) := by decide +kernel
theorem dX4_commonDivisor_9 : decode cX4_commonDivisor 9 = .ok (.irem, 1) := by decide +kernel
theorem dX4_commonDivisor_10 : decode cX4_commonDivisor 10 = .ok (.ifCond .ne 11, 3) := by decide +kernel
theorem dX4_commonDivisor_13 : decode cX4_commonDivisor 13 = .ok (.iload_n 1, 1) := by decide +kernel
theorem dX4_commonDivisor_14 : decode cX4_commonDivisor 14 = .ok (.iload_n 2, 1) := by decide +kernel
theorem dX4_commonDivisor_15 : decode cX4_commonDivisor 15 = .ok (.irem, 1) := by decide +kernel
theorem dX4_commonDivisor_16 : decode cX4_commonDivisor 16 = .ok (.ifCond .ne 5, 3) := by decide +kernel
theorem dX4_commonDivisor_19 : decode cX4_commonDivisor 19 = .ok (.iload_n 2, 1) := by decide +kernel
theorem dX4_commonDivisor_20 : decode cX4_commonDivisor 20 = .ok (.ireturn, 1) := by decide +kernel
theorem dX4_commonDivisor_21 : decode cX4_commonDivisor 21 = .ok (.iinc 2 (-1), 3) := by decide +kernel
theorem dX4_commonDivisor_24 : decode cX4_commonDivisor 24 = .ok (.goto (-22), 3) := by decide +kernel
theorem dX4_commonDivisor_27 : decode cX4_commonDivisor 27 = .ok (.iconst 1, 1) := by decide +kernel
theorem dX4_commonDivisor_28 : decode cX4_commonDivisor 28 = .ok (.ireturn, 1) := by decide +kernel
theorem dX4_power_0 : decode cX4_power 0 = .ok (.lconst 1, 1) := by decide +kernel
theorem dX4_power_1 : decode cX4_power 1 = .ok (.lstore_n 2, 1) := by decide +kernel
theorem dX4_power_2 : decode cX4_power 2 = .ok (.iconst 0, 1) := by decide +kernel
theorem dX4_power_3 : decode cX4_power 3 = .ok (.istore 4, 2) := by decide +kernel
theorem dX4_power_5 : decode cX4_power 5 = .ok (.iload 4, 2) := by decide +kernel
theorem dX4_power_7 : decode cX4_power 7 = .ok (.iload_n 1, 1) := by decide +kernel
theorem dX4_power_8 : decode cX4_power 8 = .ok (.if_icmp .ge 14, 3) := by decide +kernel
theorem dX4_power_11 : decode cX4_power 11 = .ok (.lload_n 2, 1) := by decide +kernel
theorem dX4_power_12 : decode cX4_power 12 = .ok (.iload_n 0, 1) := by decide +kernel
theorem dX4_power_13 : decode cX4_power 13 = .ok (.i2l, 1) := by decide +kernel
theorem dX4_power_14 : decode cX4_power 14 = .ok (.lmul, 1) := by decide +kernel
theorem dX4_power_15 : decode cX4_power 15 = .ok (.lstore_n 2, 1) := by decide +kernel
theorem dX4_power_16 : decode cX4_power 16 = .ok (.iinc 4 1, 3) := by decide +kernel
theorem dX4_power_19 : decode cX4_power 19 = .ok (.goto (-14), 3) := by decide +kernel
theorem dX4_power_22 : decode cX4_power 22 = .ok (.lload_n 2, 1) := by decide +kernel
theorem dX4_power_23 : decode cX4_power 23 = .ok (.lreturn, 1) := by decide +kernel
