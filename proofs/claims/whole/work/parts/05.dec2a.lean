theorem dX5_init_0 : decode cX5_init 0 = .ok (.aload_n 0, 1) := by decide +kernel
theorem dX5_init_1 : decode cX5_init 1 = .ok (.invokespecial 3, 3) := by decide +kernel
theorem dX5_init_4 : decode cX5_init 4 = .ok (.aload_n 0, 1) := by decide +kernel
theorem dX5_init_5 : decode cX5_init 5 = .ok (.bipush 70, 2) := by decide +kernel
theorem dX5_init_7 : decode cX5_init 7 = .ok (.newarray .int, 2) := by decide +kernel
theorem dX5_init_9 : decode cX5_init 9 = .ok (.putfield 9, 3) := by decide +kernel
theorem dX5_init_12 : decode cX5_init 12 = .ok (.aload_n 0, 1) := by decide +kernel
theorem dX5_init_13 : decode cX5_init 13 = .ok (.bipush 70, 2) := by decide +kernel
theorem dX5_init_15 : decode cX5_init 15 = .ok (.newarray .int, 2) := by decide +kernel
theorem dX5_init_17 : decode cX5_init 17 = .ok (.putfield 13, 3) := by decide +kernel
theorem dX5_init_20 : decode cX5_init 20 = .ok (.aload_n 0, 1) := by decide +kernel
theorem dX5_init_21 : decode cX5_init 21 = .ok (.bipush 70, 2) := by decide +kernel
theorem dX5_init_23 : decode cX5_init 23 = .ok (.newarray .int, 2) := by decide +kernel
theorem dX5_init_25 : decode cX5_init 25 = .ok (.putfield 16, 3) := by decide +kernel
theorem dX5_init_28 : decode cX5_init 28 = .ok (.aload_n 0, 1) := by decide +kernel
theorem dX5_init_29 : decode cX5_init 29 = .ok (.bipush 7, 2) := by decide +kernel
theorem dX5_init_31 : decode cX5_init 31 = .ok (.newarray .int, 2) := by decide +kernel
theorem dX5_init_33 : decode cX5_init 33 = .ok (.putfield 19, 3) := by decide +kernel
theorem dX5_init_36 : decode cX5_init 36 = .ok (.aload_n 0, 1) := by decide +kernel
theorem dX5_init_37 : decode cX5_init 37 = .ok (.iconst 4, 1) := by decide +kernel
theorem dX5_init_38 : decode cX5_init 38 = .ok (.newarray .int, 2) := by decide +kernel
theorem dX5_init_40 : decode cX5_init 40 = .ok (.putfield 22, 3) := by decide +kernel
theorem dX5_init_43 : decode cX5_init 43 = .ok (.aload_n 0, 1) := by decide +kernel
theorem dX5_init_44 : decode cX5_init 44 = .ok (.iconst 4, 1) := by decide +kernel
theorem dX5_init_45 : decode cX5_init 45 = .ok (.newarray .int, 2) := by decide +kernel
theorem dX5_init_47 : decode cX5_init 47 = .ok (.putfield 25, 3) := by decide +kernel
theorem dX5_init_50 : decode cX5_init 50 = .ok (.aload_n 0, 1) := by decide +kernel
theorem dX5_init_51 : decode cX5_init 51 = .ok (.sipush 160, 3) := by decide +kernel
theorem dX5_init_54 : decode cX5_init 54 = .ok (.newarray .int, 2) := by decide +kernel
theorem dX5_init_56 : decode cX5_init 56 = .ok (.putfield 28, 3) := by decide +kernel
theorem dX5_init_59 : decode cX5_init 59 = .ok (.aload_n 0, 1) := by decide +kernel
theorem dX5_init_60 : decode cX5_init 60 = .ok (.bipush 120, 2) := by decide +kernel
theorem dX5_init_62 : decode cX5_init 62 = .ok (.newarray .int, 2) := by decide +kernel
theorem dX5_init_64 : decode cX5_init 64 = .ok (.putfield 31, 3) := by decide +kernel
theorem dX5_init_67 : decode cX5_init 67 = .ok (.aload_n 0, 1) := by decide +kernel
theorem dX5_init_68 : decode cX5_init 68 = .ok (.getfield 9, 3) := by decide +kernel
theorem dX5_init_71 : decode cX5_init 71 = .ok (.iconst 1, 1) := by decide +kernel
theorem dX5_init_72 : decode cX5_init 72 = .ok (.bipush 50, 2) := by decide +kernel
theorem dX5_init_74 : decode cX5_init 74 = .ok (.iastore, 1) := by decide +kernel
theorem dX5_init_75 : decode cX5_init 75 = .ok (.aload_n 0, 1) := by decide +kernel
theorem dX5_init_76 : decode cX5_init 76 = .ok (.getfield 9, 3) := by decide +kernel
theorem dX5_init_79 : decode cX5_init 79 = .ok (.iconst 2, 1) := by decide +kernel
theorem dX5_init_80 : decode cX5_init 80 = .ok (.iconst 3, 1) := by decide +kernel
theorem dX5_init_81 : decode cX5_init 81 = .ok (.iastore, 1) := by decide +kernel
theorem dX5_init_82 : decode cX5_init 82 = .ok (.aload_n 0, 1) := by decide +kernel
theorem dX5_init_83 : decode cX5_init 83 = .ok (.getfield 9, 3) := by decide +kernel
theorem dX5_init_86 : decode cX5_init 86 = .ok (.iconst 4, 1) := by decide +kernel
theorem dX5_init_87 : decode cX5_init 87 = .ok (.iconst 1, 1) := by decide +kernel
theorem dX5_init_88 : decode cX5_init 88 = .ok (.iastore, 1) := by decide +kernel
theorem dX5_init_89 : decode cX5_init 89 = .ok (.bipush 60, 2) := by decide +kernel
theorem dX5_init_91 : decode cX5_init 91 = .ok (.istore_n 1, 1) := by decide +kernel
theorem dX5_init_92 : decode cX5_init 92 = .ok (.iload_n 1, 1) := by decide +kernel
theorem dX5_init_93 : decode cX5_init 93 = .ok (.bipush 70, 2) := by decide +kernel
theorem dX5_init_95 : decode cX5_init 95 = .ok (.if_icmp .ge 16, 3) := by decide +kernel
theorem dX5_init_98 : decode cX5_init 98 = .ok (.aload_n 0, 1) := by decide +kernel
theorem dX5_init_99 : decode cX5_init 99 = .ok (.getfield 9, 3) := by decide +kernel
theorem dX5_init_102 : decode cX5_init 102 = .ok (.iload_n 1, 1) := by decide +kernel
theorem dX5_init_103 : decode cX5_init 103 = .ok (.iconst (-1), 1) := by decide +kernel
theorem dX5_init_104 : decode cX5_init 104 = .ok (.iastore, 1) := by decide +kernel
theorem dX5_init_105 : decode cX5_init 105 = .ok (.iinc 1 1, 3) := by decide +kernel
theorem dX5_init_108 : decode cX5_init 108 = .ok (.goto (-16), 3) := by decide +kernel
theorem dX5_init_111 : decode cX5_init 111 = .ok (.return_, 1) := by decide +kernel
theorem dX5_finds_0 : decode cX5_finds 0 = .ok (.aload_n 0, 1) := by decide +kernel
theorem dX5_finds_1 : decode cX5_finds 1 = .ok (.getfield 19, 3) := by decide +kernel
theorem dX5_finds_4 : decode cX5_finds 4 = .ok (.ldc 34, 2) := by decide +kernel
theorem dX5_finds_6 : decode cX5_finds 6 = .ok (.iload_n 1, 1) := by decide +kernel
theorem dX5_finds_7 : decode cX5_finds 7 = .ok (.isub, 1) := by decide +kernel
theorem dX5_finds_8 : decode cX5_finds 8 = .ok (.dup2, 1) := by decide +kernel
theorem dX5_finds_9 : decode cX5_finds 9 = .ok (.iaload, 1) := by decide +kernel
theorem dX5_finds_10 : decode cX5_finds 10 = .ok (.iconst 1, 1) := by decide +kernel
theorem dX5_finds_11 : decode cX5_finds 11 = .ok (.iadd, 1) := by decide +kernel
theorem dX5_finds_12 : decode cX5_finds 12 = .ok (.iastore, 1) := by decide +kernel
theorem dX5_finds_13 : decode cX5_finds 13 = .ok (.iload_n 1, 1) := by decide +kernel
theorem dX5_finds_14 : decode cX5_finds 14 = .ok (.ireturn, 1) := by decide +kernel
theorem dX5_orNone_0 : decode cX5_orNone 0 = .ok (.iload_n 1, 1) := by decide +kernel
theorem dX5_orNone_1 : decode cX5_orNone 1 = .ok (.ifCond .ge 12, 3) := by decide +kernel
theorem dX5_orNone_4 : decode cX5_orNone 4 = .ok (.aload_n 0, 1) := by decide +kernel
theorem dX5_orNone_5 : decode cX5_orNone 5 = .ok (.ldc 35, 2) := by decide +kernel
theorem dX5_orNone_7 : decode cX5_orNone 7 = .ok (.invokevirtual 36, 3) := by decide +kernel
theorem dX5_orNone_10 : decode cX5_orNone 10 = .ok (.goto 4, 3) := by decide +kernel
theorem dX5_orNone_13 : decode cX5_orNone 13 = .ok (.iload_n 1, 1) := by decide +kernel
theorem dX5_orNone_14 : decode cX5_orNone 14 = .ok (.ireturn, 1) := by decide +kernel
theorem dX5_in_0 : decode cX5_in 0 = .ok (.iload_n 0, 1) := by decide +kernel
theorem dX5_in_1 : decode cX5_in 1 = .ok (.iload_n 1, 1) := by decide +kernel
theorem dX5_in_2 : decode cX5_in 2 = .ok (.if_icmp .lt 12, 3) := by decide +kernel
theorem dX5_in_5 : decode cX5_in 5 = .ok (.iload_n 0, 1) := by decide +kernel
theorem dX5_in_6 : decode cX5_in 6 = .ok (.iload_n 2, 1) := by decide +kernel
theorem dX5_in_7 : decode cX5_in 7 = .ok (.if_icmp .gt 7, 3) := by decide +kernel
theorem dX5_in_10 : decode cX5_in 10 = .ok (.iconst 1, 1) := by decide +kernel
theorem dX5_in_11 : decode cX5_in 11 = .ok (.goto 4, 3) := by decide +kernel
theorem dX5_in_14 : decode cX5_in 14 = .ok (.iconst 0, 1) := by decide +kernel
theorem dX5_in_15 : decode cX5_in 15 = .ok (.ireturn, 1) := by decide +kernel
theorem dX5_held_0 : decode cX5_held 0 = .ok (.iload_n 0, 1) := by decide +kernel
theorem dX5_held_1 : decode cX5_held 1 = .ok (.iload_n 1, 1) := by decide +kernel
theorem dX5_held_2 : decode cX5_held 2 = .ok (.if_icmp .ge 7, 3) := by decide +kernel
theorem dX5_held_5 : decode cX5_held 5 = .ok (.iload_n 1, 1) := by decide +kernel
theorem dX5_held_6 : decode cX5_held 6 = .ok (.goto 13, 3) := by decide +kernel
theorem dX5_held_9 : decode cX5_held 9 = .ok (.iload_n 0, 1) := by decide +kernel
theorem dX5_held_10 : decode cX5_held 10 = .ok (.iload_n 2, 1) := by decide +kernel
theorem dX5_held_11 : decode cX5_held 11 = .ok (.if_icmp .le 7, 3) := by decide +kernel
theorem dX5_held_14 : decode cX5_held 14 = .ok (.iload_n 2, 1) := by decide +kernel
theorem dX5_held_15 : decode cX5_held 15 = .ok (.goto 4, 3) := by decide +kernel
theorem dX5_held_18 : decode cX5_held 18 = .ok (.iload_n 0, 1) := by decide +kernel
theorem dX5_held_19 : decode cX5_held 19 = .ok (.ireturn, 1) := by decide +kernel
theorem dX5_copyAll_0 : decode cX5_copyAll 0 = .ok (.iconst 0, 1) := by decide +kernel
theorem dX5_copyAll_1 : decode cX5_copyAll 1 = .ok (.istore_n 2, 1) := by decide +kernel
theorem dX5_copyAll_2 : decode cX5_copyAll 2 = .ok (.iload_n 2, 1) := by decide +kernel
theorem dX5_copyAll_3 : decode cX5_copyAll 3 = .ok (.bipush 70, 2) := by decide +kernel
theorem dX5_copyAll_5 : decode cX5_copyAll 5 = .ok (.if_icmp .ge 15, 3) := by decide +kernel
theorem dX5_copyAll_8 : decode cX5_copyAll 8 = .ok (.aload_n 1, 1) := by decide +kernel
theorem dX5_copyAll_9 : decode cX5_copyAll 9 = .ok (.iload_n 2, 1) := by decide +kernel
theorem dX5_copyAll_10 : decode cX5_copyAll 10 = .ok (.aload_n 0, 1) := by decide +kernel
theorem dX5_copyAll_11 : decode cX5_copyAll 11 = .ok (.iload_n 2, 1) := by decide +kernel
theorem dX5_copyAll_12 : decode cX5_copyAll 12 = .ok (.iaload, 1) := by decide +kernel
theorem dX5_copyAll_13 : decode cX5_copyAll 13 = .ok (.iastore, 1) := by decide +kernel
theorem dX5_copyAll_14 : decode cX5_copyAll 14 = .ok (.iinc 2 1, 3) := by decide +kernel
theorem dX5_copyAll_17 : decode cX5_copyAll 17 = .ok (.goto (-15), 3) := by decide +kernel
theorem dX5_copyAll_20 : decode cX5_copyAll 20 = .ok (.return_, 1) := by decide +kernel
theorem dX5_becomes_0 : decode cX5_becomes 0 = .ok (.aload_n 0, 1) := by decide +kernel
theorem dX5_becomes_1 : decode cX5_becomes 1 = .ok (.getfield 9, 3) := by decide +kernel
theorem dX5_becomes_4 : decode cX5_becomes 4 = .ok (.iload_n 1, 1) := by decide +kernel
theorem dX5_becomes_5 : decode cX5_becomes 5 = .ok (.iaload, 1) := by decide +kernel
theorem dX5_becomes_6 : decode cX5_becomes 6 = .ok (.istore_n 3, 1) := by decide +kernel
theorem dX5_becomes_7 : decode cX5_becomes 7 = .ok (.aload_n 0, 1) := by decide +kernel
theorem dX5_becomes_8 : decode cX5_becomes 8 = .ok (.getfield 9, 3) := by decide +kernel
theorem dX5_becomes_11 : decode cX5_becomes 11 = .ok (.iload_n 1, 1) := by decide +kernel
theorem dX5_becomes_12 : decode cX5_becomes 12 = .ok (.iload_n 2, 1) := by decide +kernel
theorem dX5_becomes_13 : decode cX5_becomes 13 = .ok (.iastore, 1) := by decide +kernel
theorem dX5_becomes_14 : decode cX5_becomes 14 = .ok (.iload_n 3, 1) := by decide +kernel
theorem dX5_becomes_15 : decode cX5_becomes 15 = .ok (.ireturn, 1) := by decide +kernel
theorem dX5_isDish_0 : decode cX5_isDish 0 = .ok (.iload_n 1, 1) := by decide +kernel
theorem dX5_isDish_1 : decode cX5_isDish 1 = .ok (.iconst 0, 1) := by decide +kernel
theorem dX5_isDish_2 : decode cX5_isDish 2 = .ok (.aload_n 0, 1) := by decide +kernel
theorem dX5_isDish_3 : decode cX5_isDish 3 = .ok (.getfield 9, 3) := by decide +kernel
theorem dX5_isDish_6 : decode cX5_isDish 6 = .ok (.iconst 5, 1) := by decide +kernel
theorem dX5_isDish_7 : decode cX5_isDish 7 = .ok (.iaload, 1) := by decide +kernel
theorem dX5_isDish_8 : decode cX5_isDish 8 = .ok (.iconst 1, 1) := by decide +kernel
theorem dX5_isDish_9 : decode cX5_isDish 9 = .ok (.isub, 1) := by decide +kernel
theorem dX5_isDish_10 : decode cX5_isDish 10 = .ok (.invokestatic 40, 3) := by decide +kernel
theorem dX5_isDish_13 : decode cX5_isDish 13 = .ok (.ireturn, 1) := by decide +kernel
theorem dX5_isDeed_0 : decode cX5_isDeed 0 = .ok (.iload_n 0, 1) := by decide +kernel
theorem dX5_isDeed_1 : decode cX5_isDeed 1 = .ok (.iconst 0, 1) := by decide +kernel
theorem dX5_isDeed_2 : decode cX5_isDeed 2 = .ok (.bipush 11, 2) := by decide +kernel
theorem dX5_isDeed_4 : decode cX5_isDeed 4 = .ok (.invokestatic 40, 3) := by decide +kernel
theorem dX5_isDeed_7 : decode cX5_isDeed 7 = .ok (.ireturn, 1) := by decide +kernel
theorem dX5_it_0 : decode cX5_it 0 = .ok (.aload_n 0, 1) := by decide +kernel
theorem dX5_it_1 : decode cX5_it 1 = .ok (.getfield 9, 3) := by decide +kernel
theorem dX5_it_4 : decode cX5_it 4 = .ok (.bipush 12, 2) := by decide +kernel
theorem dX5_it_6 : decode cX5_it 6 = .ok (.bipush 6, 2) := by decide +kernel
theorem dX5_it_8 : decode cX5_it 8 = .ok (.iload_n 1, 1) := by decide +kernel
theorem dX5_it_9 : decode cX5_it 9 = .ok (.imul, 1) := by decide +kernel
theorem dX5_it_10 : decode cX5_it 10 = .ok (.iadd, 1) := by decide +kernel
theorem dX5_it_11 : decode cX5_it 11 = .ok (.iload_n 2, 1) := by decide +kernel
theorem dX5_it_12 : decode cX5_it 12 = .ok (.iadd, 1) := by decide +kernel
theorem dX5_it_13 : decode cX5_it 13 = .ok (.iaload, 1) := by decide +kernel
theorem dX5_it_14 : decode cX5_it 14 = .ok (.ireturn, 1) := by decide +kernel
theorem dX5_put_0 : decode cX5_put 0 = .ok (.aload_n 0, 1) := by decide +kernel
theorem dX5_put_1 : decode cX5_put 1 = .ok (.getfield 9, 3) := by decide +kernel
theorem dX5_put_4 : decode cX5_put 4 = .ok (.bipush 12, 2) := by decide +kernel
theorem dX5_put_6 : decode cX5_put 6 = .ok (.bipush 6, 2) := by decide +kernel
theorem dX5_put_8 : decode cX5_put 8 = .ok (.iload_n 1, 1) := by decide +kernel
theorem dX5_put_9 : decode cX5_put 9 = .ok (.imul, 1) := by decide +kernel
theorem dX5_put_10 : decode cX5_put 10 = .ok (.iadd, 1) := by decide +kernel
theorem dX5_put_11 : decode cX5_put 11 = .ok (.iload_n 2, 1) := by decide +kernel
theorem dX5_put_12 : decode cX5_put 12 = .ok (.iadd, 1) := by decide +kernel
theorem dX5_put_13 : decode cX5_put 13 = .ok (.iload_n 3, 1) := by decide +kernel
theorem dX5_put_14 : decode cX5_put 14 = .ok (.iastore, 1) := by decide +kernel
theorem dX5_put_15 : decode cX5_put 15 = .ok (.return_, 1) := by decide +kernel
theorem dX5_bits_0 : decode cX5_bits 0 = .ok (.iconst 0, 1) := by decide +kernel
theorem dX5_bits_1 : decode cX5_bits 1 = .ok (.istore_n 1, 1) := by decide +kernel
theorem dX5_bits_2 : decode cX5_bits 2 = .ok (.iload_n 0, 1) := by decide +kernel
theorem dX5_bits_3 : decode cX5_bits 3 = .ok (.istore_n 2, 1) := by decide +kernel
theorem dX5_bits_4 : decode cX5_bits 4 = .ok (.iload_n 2, 1) := by decide +kernel
theorem dX5_bits_5 : decode cX5_bits 5 = .ok (.ifCond .eq 15, 3) := by decide +kernel
theorem dX5_bits_8 : decode cX5_bits 8 = .ok (.iinc 1 1, 3) := by decide +kernel
theorem dX5_bits_11 : decode cX5_bits 11 = .ok (.iload_n 2, 1) := by decide +kernel
theorem dX5_bits_12 : decode cX5_bits 12 = .ok (.iload_n 2, 1) := by decide +kernel
theorem dX5_bits_13 : decode cX5_bits 13 = .ok (.iconst 1, 1) := by decide +kernel
theorem dX5_bits_14 : decode cX5_bits 14 = .ok (.isub, 1) := by decide +kernel
theorem dX5_bits_15 : decode cX5_bits 15 = .ok (.iand, 1) := by decide +kernel
theorem dX5_bits_16 : decode cX5_bits 16 = .ok (.istore_n 2, 1) := by decide +kernel
theorem dX5_bits_17 : decode cX5_bits 17 = .ok (.goto (-13), 3) := by decide +kernel
theorem dX5_bits_20 : decode cX5_bits 20 = .ok (.iload_n 1, 1) := by decide +kernel
theorem dX5_bits_21 : decode cX5_bits 21 = .ok (.ireturn, 1) := by decide +kernel
theorem dX5_setOf_0 : decode cX5_setOf 0 = .ok (.iconst 0, 1) := by decide +kernel
theorem dX5_setOf_1 : decode cX5_setOf 1 = .ok (.istore_n 2, 1) := by decide +kernel
theorem dX5_setOf_2 : decode cX5_setOf 2 = .ok (.iconst 0, 1) := by decide +kernel
theorem dX5_setOf_3 : decode cX5_setOf 3 = .ok (.istore_n 3, 1) := by decide +kernel
theorem dX5_setOf_4 : decode cX5_setOf 4 = .ok (.iload_n 3, 1) := by decide +kernel
theorem dX5_setOf_5 : decode cX5_setOf 5 = .ok (.aload_n 0, 1) := by decide +kernel
theorem dX5_setOf_6 : decode cX5_setOf 6 = .ok (.getfield 9, 3) := by decide +kernel
theorem dX5_setOf_9 : decode cX5_setOf 9 = .ok (.iconst 5, 1) := by decide +kernel
theorem dX5_setOf_10 : decode cX5_setOf 10 = .ok (.iaload, 1) := by decide +kernel
theorem dX5_setOf_11 : decode cX5_setOf 11 = .ok (.if_icmp .ge 20, 3) := by decide +kernel
theorem dX5_setOf_14 : decode cX5_setOf 14 = .ok (.iload_n 2, 1) := by decide +kernel
theorem dX5_setOf_15 : decode cX5_setOf 15 = .ok (.aload_n 0, 1) := by decide +kernel
theorem dX5_setOf_16 : decode cX5_setOf 16 = .ok (.iload_n 3, 1) := by decide +kernel
theorem dX5_setOf_17 : decode cX5_setOf 17 = .ok (.iload_n 1, 1) := by decide +kernel
theorem dX5_setOf_18 : decode cX5_setOf 18 = .ok (.invokevirtual 44, 3) := by decide +kernel
theorem dX5_setOf_21 : decode cX5_setOf 21 = .ok (.iload_n 3, 1) := by decide +kernel
theorem dX5_setOf_22 : decode cX5_setOf 22 = .ok (.ishl, 1) := by decide +kernel
theorem dX5_setOf_23 : decode cX5_setOf 23 = .ok (.ior, 1) := by decide +kernel
theorem dX5_setOf_24 : decode cX5_setOf 24 = .ok (.istore_n 2, 1) := by decide +kernel
theorem dX5_setOf_25 : decode cX5_setOf 25 = .ok (.iinc 3 1, 3) := by decide +kernel
theorem dX5_setOf_28 : decode cX5_setOf 28 = .ok (.goto (-24), 3) := by decide +kernel
theorem dX5_setOf_31 : decode cX5_setOf 31 = .ok (.iload_n 2, 1) := by decide +kernel
theorem dX5_setOf_32 : decode cX5_setOf 32 = .ok (.ireturn, 1) := by decide +kernel
theorem dX5_deedNow_0 : decode cX5_deedNow 0 = .ok (.aload_n 0, 1) := by decide +kernel
theorem dX5_deedNow_1 : decode cX5_deedNow 1 = .ok (.getfield 9, 3) := by decide +kernel
theorem dX5_deedNow_4 : decode cX5_deedNow 4 = .ok (.bipush 6, 2) := by decide +kernel
theorem dX5_deedNow_6 : decode cX5_deedNow 6 = .ok (.aload_n 0, 1) := by decide +kernel
theorem dX5_deedNow_7 : decode cX5_deedNow 7 = .ok (.getfield 9, 3) := by decide +kernel
theorem dX5_deedNow_10 : decode cX5_deedNow 10 = .ok (.iconst 0, 1) := by decide +kernel
theorem dX5_deedNow_11 : decode cX5_deedNow 11 = .ok (.iaload, 1) := by decide +kernel
theorem dX5_deedNow_12 : decode cX5_deedNow 12 = .ok (.bipush 6, 2) := by decide +kernel
theorem dX5_deedNow_14 : decode cX5_deedNow 14 = .ok (.irem, 1) := by decide +kernel
theorem dX5_deedNow_15 : decode cX5_deedNow 15 = .ok (.iadd, 1) := by decide +kernel
theorem dX5_deedNow_16 : decode cX5_deedNow 16 = .ok (.iaload, 1) := by decide +kernel
theorem dX5_deedNow_17 : decode cX5_deedNow 17 = .ok (.ireturn, 1) := by decide +kernel
theorem dX5_needs_0 : decode cX5_needs 0 = .ok (.aload_n 0, 1) := by decide +kernel
theorem dX5_needs_1 : decode cX5_needs 1 = .ok (.iload_n 1, 1) := by decide +kernel
theorem dX5_needs_2 : decode cX5_needs 2 = .ok (.iconst 0, 1) := by decide +kernel
theorem dX5_needs_3 : decode cX5_needs 3 = .ok (.invokevirtual 44, 3) := by decide +kernel
theorem dX5_needs_6 : decode cX5_needs 6 = .ok (.tableswitch 74 1 6 #[38, 51, 53, 62, 51, 41], 38) := by decide +kernel
theorem dX5_needs_44 : decode cX5_needs 44 = .ok (.bipush 30, 2) := by decide +kernel
theorem dX5_needs_46 : decode cX5_needs 46 = .ok (.ireturn, 1) := by decide +kernel
theorem dX5_needs_47 : decode cX5_needs 47 = .ok (.bipush 30, 2) := by decide +kernel
theorem dX5_needs_49 : decode cX5_needs 49 = .ok (.aload_n 0, 1) := by decide +kernel
theorem dX5_needs_50 : decode cX5_needs 50 = .ok (.getfield 9, 3) := by decide +kernel
theorem dX5_needs_53 : decode cX5_needs 53 = .ok (.iconst 2, 1) := by decide +kernel
theorem dX5_needs_54 : decode cX5_needs 54 = .ok (.iaload, 1) := by decide +kernel
theorem dX5_needs_55 : decode cX5_needs 55 = .ok (.iadd, 1) := by decide +kernel
theorem dX5_needs_56 : decode cX5_needs 56 = .ok (.ireturn, 1) := by decide +kernel
theorem dX5_needs_57 : decode cX5_needs 57 = .ok (.iconst 0, 1) := by decide +kernel
theorem dX5_needs_58 : decode cX5_needs 58 = .ok (.ireturn, 1) := by decide +kernel
theorem dX5_needs_59 : decode cX5_needs 59 = .ok (.aload_n 0, 1) := by decide +kernel
theorem dX5_needs_60 : decode cX5_needs 60 = .ok (.iload_n 1, 1) := by decide +kernel
theorem dX5_needs_61 : decode cX5_needs 61 = .ok (.iconst 1, 1) := by decide +kernel
theorem dX5_needs_62 : decode cX5_needs 62 = .ok (.invokevirtual 44, 3) := by decide +kernel
theorem dX5_needs_65 : decode cX5_needs 65 = .ok (.iconst 4, 1) := by decide +kernel
theorem dX5_needs_66 : decode cX5_needs 66 = .ok (.idiv, 1) := by decide +kernel
theorem dX5_needs_67 : decode cX5_needs 67 = .ok (.ireturn, 1) := by decide +kernel
theorem dX5_needs_68 : decode cX5_needs 68 = .ok (.aload_n 0, 1) := by decide +kernel
theorem dX5_needs_69 : decode cX5_needs 69 = .ok (.iload_n 1, 1) := by decide +kernel
theorem dX5_needs_70 : decode cX5_needs 70 = .ok (.iconst 1, 1) := by decide +kernel
theorem dX5_needs_71 : decode cX5_needs 71 = .ok (.invokevirtual 44, 3) := by decide +kernel
theorem dX5_needs_74 : decode cX5_needs 74 = .ok (.iconst 4, 1) := by decide +kernel
theorem dX5_needs_75 : decode cX5_needs 75 = .ok (.idiv, 1) := by decide +kernel
theorem dX5_needs_76 : decode cX5_needs 76 = .ok (.bipush 25, 2) := by decide +kernel
theorem dX5_needs_78 : decode cX5_needs 78 = .ok (.iadd, 1) := by decide +kernel
theorem dX5_needs_79 : decode cX5_needs 79 = .ok (.ireturn, 1) := by decide +kernel
theorem dX5_needs_80 : decode cX5_needs 80 = .ok (.bipush 10, 2) := by decide +kernel
theorem dX5_needs_82 : decode cX5_needs 82 = .ok (.ireturn, 1) := by decide +kernel
theorem dX5_thickens_0 : decode cX5_thickens 0 = .ok (.aload_n 0, 1) := by decide +kernel
theorem dX5_thickens_1 : decode cX5_thickens 1 = .ok (.getfield 9, 3) := by decide +kernel
theorem dX5_thickens_4 : decode cX5_thickens 4 = .ok (.iconst 1, 1) := by decide +kernel
theorem dX5_thickens_5 : decode cX5_thickens 5 = .ok (.iaload, 1) := by decide +kernel
theorem dX5_thickens_6 : decode cX5_thickens 6 = .ok (.bipush 10, 2) := by decide +kernel
theorem dX5_thickens_8 : decode cX5_thickens 8 = .ok (.idiv, 1) := by decide +kernel
theorem dX5_thickens_9 : decode cX5_thickens 9 = .ok (.istore_n 2, 1) := by decide +kernel
theorem dX5_thickens_10 : decode cX5_thickens 10 = .ok (.iload_n 2, 1) := by decide +kernel
theorem dX5_thickens_11 : decode cX5_thickens 11 = .ok (.iconst 2, 1) := by decide +kernel
theorem dX5_thickens_12 : decode cX5_thickens 12 = .ok (.idiv, 1) := by decide +kernel
theorem dX5_thickens_13 : decode cX5_thickens 13 = .ok (.aload_n 0, 1) := by decide +kernel
theorem dX5_thickens_14 : decode cX5_thickens 14 = .ok (.getfield 9, 3) := by decide +kernel
theorem dX5_thickens_17 : decode cX5_thickens 17 = .ok (.iconst 2, 1) := by decide +kernel
theorem dX5_thickens_18 : decode cX5_thickens 18 = .ok (.iaload, 1) := by decide +kernel
theorem dX5_thickens_19 : decode cX5_thickens 19 = .ok (.iadd, 1) := by decide +kernel
theorem dX5_thickens_20 : decode cX5_thickens 20 = .ok (.istore_n 3, 1) := by decide +kernel
theorem dX5_thickens_21 : decode cX5_thickens 21 = .ok (.aload_n 0, 1) := by decide +kernel
theorem dX5_thickens_22 : decode cX5_thickens 22 = .ok (.iload_n 1, 1) := by decide +kernel
theorem dX5_thickens_23 : decode cX5_thickens 23 = .ok (.iconst 0, 1) := by decide +kernel
theorem dX5_thickens_24 : decode cX5_thickens 24 = .ok (.invokevirtual 44, 3) := by decide +kernel
theorem dX5_thickens_27 : decode cX5_thickens 27 = .ok (.tableswitch 72 1 6 #[37, 47, 51, 53, 70, 41], 37) := by decide +kernel
theorem dX5_thickens_64 : decode cX5_thickens 64 = .ok (.iload_n 2, 1) := by decide +kernel
theorem dX5_thickens_65 : decode cX5_thickens 65 = .ok (.iconst 1, 1) := by decide +kernel
theorem dX5_thickens_66 : decode cX5_thickens 66 = .ok (.iadd, 1) := by decide +kernel
theorem dX5_thickens_67 : decode cX5_thickens 67 = .ok (.ireturn, 1) := by decide +kernel
theorem dX5_thickens_68 : decode cX5_thickens 68 = .ok (.iconst 2, 1) := by decide +kernel
theorem dX5_thickens_69 : decode cX5_thickens 69 = .ok (.iload_n 2, 1) := by decide +kernel
theorem dX5_thickens_70 : decode cX5_thickens 70 = .ok (.imul, 1) := by decide +kernel
theorem dX5_thickens_71 : decode cX5_thickens 71 = .ok (.iconst 2, 1) := by decide +kernel
theorem dX5_thickens_72 : decode cX5_thickens 72 = .ok (.iadd, 1) := by decide +kernel
theorem dX5_thickens_73 : decode cX5_thickens 73 = .ok (.ireturn, 1) := by decide +kernel
theorem dX5_thickens_74 : decode cX5_thickens 74 = .ok (.iload_n 2, 1) := by decide +kernel
theorem dX5_thickens_75 : decode cX5_thickens 75 = .ok (.iconst 2, 1) := by decide +kernel
theorem dX5_thickens_76 : decode cX5_thickens 76 = .ok (.idiv, 1) := by decide +kernel
theorem dX5_thickens_77 : decode cX5_thickens 77 = .ok (.ireturn, 1) := by decide +kernel
theorem dX5_thickens_78 : decode cX5_thickens 78 = .ok (.iload_n 3, 1) := by decide +kernel
theorem dX5_thickens_79 : decode cX5_thickens 79 = .ok (.ireturn, 1) := by decide +kernel
theorem dX5_thickens_80 : decode cX5_thickens 80 = .ok (.aload_n 0, 1) := by decide +kernel
theorem dX5_thickens_81 : decode cX5_thickens 81 = .ok (.invokevirtual 48, 3) := by decide +kernel
theorem dX5_thickens_84 : decode cX5_thickens 84 = .ok (.iconst 1, 1) := by decide +kernel
theorem dX5_thickens_85 : decode cX5_thickens 85 = .ok (.if_icmp .ne 10, 3) := by decide +kernel
theorem dX5_thickens_88 : decode cX5_thickens 88 = .ok (.iload_n 3, 1) := by decide +kernel
theorem dX5_thickens_89 : decode cX5_thickens 89 = .ok (.bipush 10, 2) := by decide +kernel
theorem dX5_thickens_91 : decode cX5_thickens 91 = .ok (.iadd, 1) := by decide +kernel
theorem dX5_thickens_92 : decode cX5_thickens 92 = .ok (.goto 4, 3) := by decide +kernel
theorem dX5_thickens_95 : decode cX5_thickens 95 = .ok (.iload_n 3, 1) := by decide +kernel
theorem dX5_thickens_96 : decode cX5_thickens 96 = .ok (.ireturn, 1) := by decide +kernel
theorem dX5_thickens_97 : decode cX5_thickens 97 = .ok (.iconst 0, 1) := by decide +kernel
theorem dX5_thickens_98 : decode cX5_thickens 98 = .ok (.ireturn, 1) := by decide +kernel
theorem dX5_thickens_99 : decode cX5_thickens 99 = .ok (.iload_n 2, 1) := by decide +kernel
theorem dX5_thickens_100 : decode cX5_thickens 100 = .ok (.ireturn, 1) := by decide +kernel
theorem dX5_salts_0 : decode cX5_salts 0 = .ok (.aload_n 0, 1) := by decide +kernel
theorem dX5_salts_1 : decode cX5_salts 1 = .ok (.invokevirtual 48, 3) := by decide +kernel
theorem dX5_salts_4 : decode cX5_salts 4 = .ok (.iconst 2, 1) := by decide +kernel
theorem dX5_salts_5 : decode cX5_salts 5 = .ok (.if_icmp .ne 7, 3) := by decide +kernel
theorem dX5_salts_8 : decode cX5_salts 8 = .ok (.iconst 5, 1) := by decide +kernel
theorem dX5_salts_9 : decode cX5_salts 9 = .ok (.goto 4, 3) := by decide +kernel
theorem dX5_salts_12 : decode cX5_salts 12 = .ok (.iconst 0, 1) := by decide +kernel
theorem dX5_salts_13 : decode cX5_salts 13 = .ok (.istore_n 2, 1) := by decide +kernel
theorem dX5_salts_14 : decode cX5_salts 14 = .ok (.aload_n 0, 1) := by decide +kernel
theorem dX5_salts_15 : decode cX5_salts 15 = .ok (.iload_n 1, 1) := by decide +kernel
theorem dX5_salts_16 : decode cX5_salts 16 = .ok (.iconst 0, 1) := by decide +kernel
theorem dX5_salts_17 : decode cX5_salts 17 = .ok (.invokevirtual 44, 3) := by decide +kernel
theorem dX5_salts_20 : decode cX5_salts 20 = .ok (.tableswitch 65 2 6 #[38, 42, 42, 48, 36], 36) := by decide +kernel
theorem dX5_salts_56 : decode cX5_salts 56 = .ok (.iconst 0, 1) := by decide +kernel
theorem dX5_salts_57 : decode cX5_salts 57 = .ok (.ireturn, 1) := by decide +kernel
theorem dX5_salts_58 : decode cX5_salts 58 = .ok (.iload_n 2, 1) := by decide +kernel
theorem dX5_salts_59 : decode cX5_salts 59 = .ok (.iconst 1, 1) := by decide +kernel
theorem dX5_salts_60 : decode cX5_salts 60 = .ok (.iadd, 1) := by decide +kernel
theorem dX5_salts_61 : decode cX5_salts 61 = .ok (.ireturn, 1) := by decide +kernel
theorem dX5_salts_62 : decode cX5_salts 62 = .ok (.iconst 2, 1) := by decide +kernel
theorem dX5_salts_63 : decode cX5_salts 63 = .ok (.iload_n 2, 1) := by decide +kernel
theorem dX5_salts_64 : decode cX5_salts 64 = .ok (.imul, 1) := by decide +kernel
theorem dX5_salts_65 : decode cX5_salts 65 = .ok (.iconst 2, 1) := by decide +kernel
theorem dX5_salts_66 : decode cX5_salts 66 = .ok (.iadd, 1) := by decide +kernel
theorem dX5_salts_67 : decode cX5_salts 67 = .ok (.ireturn, 1) := by decide +kernel
theorem dX5_salts_68 : decode cX5_salts 68 = .ok (.aload_n 0, 1) := by decide +kernel
theorem dX5_salts_69 : decode cX5_salts 69 = .ok (.invokevirtual 48, 3) := by decide +kernel
theorem dX5_salts_72 : decode cX5_salts 72 = .ok (.bipush 8, 2) := by decide +kernel
theorem dX5_salts_74 : decode cX5_salts 74 = .ok (.if_icmp .ne 9, 3) := by decide +kernel
theorem dX5_salts_77 : decode cX5_salts 77 = .ok (.iload_n 2, 1) := by decide +kernel
theorem dX5_salts_78 : decode cX5_salts 78 = .ok (.iconst 3, 1) := by decide +kernel
theorem dX5_salts_79 : decode cX5_salts 79 = .ok (.iadd, 1) := by decide +kernel
theorem dX5_salts_80 : decode cX5_salts 80 = .ok (.goto 4, 3) := by decide +kernel
theorem dX5_salts_83 : decode cX5_salts 83 = .ok (.iload_n 2, 1) := by decide +kernel
theorem dX5_salts_84 : decode cX5_salts 84 = .ok (.ireturn, 1) := by decide +kernel
theorem dX5_salts_85 : decode cX5_salts 85 = .ok (.iload_n 2, 1) := by decide +kernel
theorem dX5_salts_86 : decode cX5_salts 86 = .ok (.ireturn, 1) := by decide +kernel
theorem dX5_burns_0 : decode cX5_burns 0 = .ok (.aload_n 0, 1) := by decide +kernel
theorem dX5_burns_1 : decode cX5_burns 1 = .ok (.iload_n 1, 1) := by decide +kernel
theorem dX5_burns_2 : decode cX5_burns 2 = .ok (.iconst 0, 1) := by decide +kernel
theorem dX5_burns_3 : decode cX5_burns 3 = .ok (.invokevirtual 44, 3) := by decide +kernel
theorem dX5_burns_6 : decode cX5_burns 6 = .ok (.tableswitch 47 1 6 #[38, 44, 44, 41, 44, 38], 38) := by decide +kernel
theorem dX5_burns_44 : decode cX5_burns 44 = .ok (.bipush 70, 2) := by decide +kernel
theorem dX5_burns_46 : decode cX5_burns 46 = .ok (.ireturn, 1) := by decide +kernel
theorem dX5_burns_47 : decode cX5_burns 47 = .ok (.bipush 90, 2) := by decide +kernel
theorem dX5_burns_49 : decode cX5_burns 49 = .ok (.ireturn, 1) := by decide +kernel
theorem dX5_burns_50 : decode cX5_burns 50 = .ok (.bipush 99, 2) := by decide +kernel
theorem dX5_burns_52 : decode cX5_burns 52 = .ok (.ireturn, 1) := by decide +kernel
theorem dX5_burns_53 : decode cX5_burns 53 = .ok (.bipush 80, 2) := by decide +kernel
theorem dX5_burns_55 : decode cX5_burns 55 = .ok (.ireturn, 1) := by decide +kernel
theorem dX5_gives_0 : decode cX5_gives 0 = .ok (.aload_n 0, 1) := by decide +kernel
theorem dX5_gives_1 : decode cX5_gives 1 = .ok (.iload_n 1, 1) := by decide +kernel
theorem dX5_gives_2 : decode cX5_gives 2 = .ok (.iconst 3, 1) := by decide +kernel
theorem dX5_gives_3 : decode cX5_gives 3 = .ok (.invokevirtual 44, 3) := by decide +kernel
theorem dX5_gives_6 : decode cX5_gives 6 = .ok (.iconst 1, 1) := by decide +kernel
theorem dX5_gives_7 : decode cX5_gives 7 = .ok (.if_icmp .ne 5, 3) := by decide +kernel
theorem dX5_gives_10 : decode cX5_gives 10 = .ok (.iconst 0, 1) := by decide +kernel
theorem dX5_gives_11 : decode cX5_gives 11 = .ok (.ireturn, 1) := by decide +kernel
theorem dX5_gives_12 : decode cX5_gives 12 = .ok (.aload_n 0, 1) := by decide +kernel
theorem dX5_gives_13 : decode cX5_gives 13 = .ok (.iload_n 1, 1) := by decide +kernel
theorem dX5_gives_14 : decode cX5_gives 14 = .ok (.iconst 2, 1) := by decide +kernel
theorem dX5_gives_15 : decode cX5_gives 15 = .ok (.invokevirtual 44, 3) := by decide +kernel
theorem dX5_gives_18 : decode cX5_gives 18 = .ok (.bipush 30, 2) := by decide +kernel
theorem dX5_gives_20 : decode cX5_gives 20 = .ok (.if_icmp .ge 15, 3) := by decide +kernel
theorem dX5_gives_23 : decode cX5_gives 23 = .ok (.bipush 30, 2) := by decide +kernel
theorem dX5_gives_25 : decode cX5_gives 25 = .ok (.aload_n 0, 1) := by decide +kernel
theorem dX5_gives_26 : decode cX5_gives 26 = .ok (.iload_n 1, 1) := by decide +kernel
theorem dX5_gives_27 : decode cX5_gives 27 = .ok (.iconst 2, 1) := by decide +kernel
theorem dX5_gives_28 : decode cX5_gives 28 = .ok (.invokevirtual 44, 3) := by decide +kernel
theorem dX5_gives_31 : decode cX5_gives 31 = .ok (.isub, 1) := by decide +kernel
theorem dX5_gives_32 : decode cX5_gives 32 = .ok (.goto 12, 3) := by decide +kernel
theorem dX5_gives_35 : decode cX5_gives 35 = .ok (.aload_n 0, 1) := by decide +kernel
theorem dX5_gives_36 : decode cX5_gives 36 = .ok (.iload_n 1, 1) := by decide +kernel
theorem dX5_gives_37 : decode cX5_gives 37 = .ok (.iconst 2, 1) := by decide +kernel
theorem dX5_gives_38 : decode cX5_gives 38 = .ok (.invokevirtual 44, 3) := by decide +kernel
theorem dX5_gives_41 : decode cX5_gives 41 = .ok (.bipush 30, 2) := by decide +kernel
theorem dX5_gives_43 : decode cX5_gives 43 = .ok (.isub, 1) := by decide +kernel
theorem dX5_gives_44 : decode cX5_gives 44 = .ok (.istore_n 2, 1) := by decide +kernel
theorem dX5_gives_45 : decode cX5_gives 45 = .ok (.aload_n 0, 1) := by decide +kernel
theorem dX5_gives_46 : decode cX5_gives 46 = .ok (.iload_n 1, 1) := by decide +kernel
theorem dX5_gives_47 : decode cX5_gives 47 = .ok (.iconst 1, 1) := by decide +kernel
theorem dX5_gives_48 : decode cX5_gives 48 = .ok (.invokevirtual 44, 3) := by decide +kernel
theorem dX5_gives_51 : decode cX5_gives 51 = .ok (.iload_n 2, 1) := by decide +kernel
theorem dX5_gives_52 : decode cX5_gives 52 = .ok (.if_icmp .le 14, 3) := by decide +kernel
theorem dX5_gives_55 : decode cX5_gives 55 = .ok (.aload_n 0, 1) := by decide +kernel
theorem dX5_gives_56 : decode cX5_gives 56 = .ok (.iload_n 1, 1) := by decide +kernel
theorem dX5_gives_57 : decode cX5_gives 57 = .ok (.iconst 1, 1) := by decide +kernel
theorem dX5_gives_58 : decode cX5_gives 58 = .ok (.invokevirtual 44, 3) := by decide +kernel
theorem dX5_gives_61 : decode cX5_gives 61 = .ok (.iload_n 2, 1) := by decide +kernel
theorem dX5_gives_62 : decode cX5_gives 62 = .ok (.isub, 1) := by decide +kernel
theorem dX5_gives_63 : decode cX5_gives 63 = .ok (.goto 4, 3) := by decide +kernel
theorem dX5_gives_66 : decode cX5_gives 66 = .ok (.iconst 0, 1) := by decide +kernel
theorem dX5_gives_67 : decode cX5_gives 67 = .ok (.istore_n 3, 1) := by decide +kernel
theorem dX5_gives_68 : decode cX5_gives 68 = .ok (.aload_n 0, 1) := by decide +kernel
theorem dX5_gives_69 : decode cX5_gives 69 = .ok (.iload_n 1, 1) := by decide +kernel
theorem dX5_gives_70 : decode cX5_gives 70 = .ok (.iconst 0, 1) := by decide +kernel
theorem dX5_gives_71 : decode cX5_gives 71 = .ok (.invokevirtual 44, 3) := by decide +kernel
theorem dX5_gives_74 : decode cX5_gives 74 = .ok (.tableswitch 72 1 6 #[38, 49, 53, 60, 69, 38], 38) := by decide +kernel
theorem dX5_gives_112 : decode cX5_gives 112 = .ok (.iload_n 3, 1) := by decide +kernel
theorem dX5_gives_113 : decode cX5_gives 113 = .ok (.aload_n 0, 1) := by decide +kernel
theorem dX5_gives_114 : decode cX5_gives 114 = .ok (.getfield 9, 3) := by decide +kernel
theorem dX5_gives_117 : decode cX5_gives 117 = .ok (.iconst 1, 1) := by decide +kernel
theorem dX5_gives_118 : decode cX5_gives 118 = .ok (.iaload, 1) := by decide +kernel
theorem dX5_gives_119 : decode cX5_gives 119 = .ok (.iconst 5, 1) := by decide +kernel
theorem dX5_gives_120 : decode cX5_gives 120 = .ok (.idiv, 1) := by decide +kernel
theorem dX5_gives_121 : decode cX5_gives 121 = .ok (.iadd, 1) := by decide +kernel
theorem dX5_gives_122 : decode cX5_gives 122 = .ok (.ireturn, 1) := by decide +kernel
theorem dX5_gives_123 : decode cX5_gives 123 = .ok (.iload_n 3, 1) := by decide +kernel
theorem dX5_gives_124 : decode cX5_gives 124 = .ok (.iconst 2, 1) := by decide +kernel
theorem dX5_gives_125 : decode cX5_gives 125 = .ok (.idiv, 1) := by decide +kernel
theorem dX5_gives_126 : decode cX5_gives 126 = .ok (.ireturn, 1) := by decide +kernel
theorem dX5_gives_127 : decode cX5_gives 127 = .ok (.iload_n 3, 1) := by decide +kernel
theorem dX5_gives_128 : decode cX5_gives 128 = .ok (.iconst 2, 1) := by decide +kernel
theorem dX5_gives_129 : decode cX5_gives 129 = .ok (.idiv, 1) := by decide +kernel
theorem dX5_gives_130 : decode cX5_gives 130 = .ok (.bipush 20, 2) := by decide +kernel
theorem dX5_gives_132 : decode cX5_gives 132 = .ok (.iadd, 1) := by decide +kernel
theorem dX5_gives_133 : decode cX5_gives 133 = .ok (.ireturn, 1) := by decide +kernel
theorem dX5_gives_134 : decode cX5_gives 134 = .ok (.iconst 2, 1) := by decide +kernel
theorem dX5_gives_135 : decode cX5_gives 135 = .ok (.iload_n 3, 1) := by decide +kernel
theorem dX5_gives_136 : decode cX5_gives 136 = .ok (.iconst 2, 1) := by decide +kernel
theorem dX5_gives_137 : decode cX5_gives 137 = .ok (.idiv, 1) := by decide +kernel
theorem dX5_gives_138 : decode cX5_gives 138 = .ok (.bipush 20, 2) := by decide +kernel
theorem dX5_gives_140 : decode cX5_gives 140 = .ok (.iadd, 1) := by decide +kernel
theorem dX5_gives_141 : decode cX5_gives 141 = .ok (.imul, 1) := by decide +kernel
theorem dX5_gives_142 : decode cX5_gives 142 = .ok (.ireturn, 1) := by decide +kernel
theorem dX5_gives_143 : decode cX5_gives 143 = .ok (.bipush 10, 2) := by decide +kernel
theorem dX5_gives_145 : decode cX5_gives 145 = .ok (.ireturn, 1) := by decide +kernel
theorem dX5_gives_146 : decode cX5_gives 146 = .ok (.iload_n 3, 1) := by decide +kernel
theorem dX5_gives_147 : decode cX5_gives 147 = .ok (.ireturn, 1) := by decide +kernel
theorem dX5_isOn_0 : decode cX5_isOn 0 = .ok (.aload_n 0, 1) := by decide +kernel
theorem dX5_isOn_1 : decode cX5_isOn 1 = .ok (.iload_n 1, 1) := by decide +kernel
theorem dX5_isOn_2 : decode cX5_isOn 2 = .ok (.iconst 3, 1) := by decide +kernel
theorem dX5_isOn_3 : decode cX5_isOn 3 = .ok (.invokevirtual 44, 3) := by decide +kernel
theorem dX5_isOn_6 : decode cX5_isOn 6 = .ok (.ifCond .ne 16, 3) := by decide +kernel
theorem dX5_isOn_9 : decode cX5_isOn 9 = .ok (.aload_n 0, 1) := by decide +kernel
theorem dX5_isOn_10 : decode cX5_isOn 10 = .ok (.iload_n 1, 1) := by decide +kernel
theorem dX5_isOn_11 : decode cX5_isOn 11 = .ok (.iconst 4, 1) := by decide +kernel
theorem dX5_isOn_12 : decode cX5_isOn 12 = .ok (.invokevirtual 44, 3) := by decide +kernel
theorem dX5_isOn_15 : decode cX5_isOn 15 = .ok (.ifCond .ne 7, 3) := by decide +kernel
theorem dX5_isOn_18 : decode cX5_isOn 18 = .ok (.iconst 1, 1) := by decide +kernel
theorem dX5_isOn_19 : decode cX5_isOn 19 = .ok (.goto 4, 3) := by decide +kernel
theorem dX5_isOn_22 : decode cX5_isOn 22 = .ok (.iconst 0, 1) := by decide +kernel
theorem dX5_isOn_23 : decode cX5_isOn 23 = .ok (.ireturn, 1) := by decide +kernel
theorem dX5_set_0 : decode cX5_set 0 = .ok (.iload_n 1, 1) := by decide +kernel
theorem dX5_set_1 : decode cX5_set 1 = .ok (.iconst 0, 1) := by decide +kernel
theorem dX5_set_2 : decode cX5_set 2 = .ok (.iconst 1, 1) := by decide +kernel
theorem dX5_set_3 : decode cX5_set 3 = .ok (.invokestatic 40, 3) := by decide +kernel
theorem dX5_set_6 : decode cX5_set 6 = .ok (.ifCond .eq 33, 3) := by decide +kernel
theorem dX5_set_9 : decode cX5_set 9 = .ok (.iload_n 2, 1) := by decide +kernel
theorem dX5_set_10 : decode cX5_set 10 = .ok (.iconst 0, 1) := by decide +kernel
theorem dX5_set_11 : decode cX5_set 11 = .ok (.iload_n 1, 1) := by decide +kernel
theorem dX5_set_12 : decode cX5_set 12 = .ok (.ifCond .ne 8, 3) := by decide +kernel
theorem dX5_set_15 : decode cX5_set 15 = .ok (.bipush 99, 2) := by decide +kernel
theorem dX5_set_17 : decode cX5_set 17 = .ok (.goto 5, 3) := by decide +kernel
theorem dX5_set_20 : decode cX5_set 20 = .ok (.bipush 9, 2) := by decide +kernel
theorem dX5_set_22 : decode cX5_set 22 = .ok (.invokestatic 40, 3) := by decide +kernel
theorem dX5_set_25 : decode cX5_set 25 = .ok (.ifCond .eq 14, 3) := by decide +kernel
theorem dX5_set_28 : decode cX5_set 28 = .ok (.aload_n 0, 1) := by decide +kernel
theorem dX5_set_29 : decode cX5_set 29 = .ok (.iconst 1, 1) := by decide +kernel
theorem dX5_set_30 : decode cX5_set 30 = .ok (.iload_n 1, 1) := by decide +kernel
theorem dX5_set_31 : decode cX5_set 31 = .ok (.iadd, 1) := by decide +kernel
theorem dX5_set_32 : decode cX5_set 32 = .ok (.iload_n 2, 1) := by decide +kernel
theorem dX5_set_33 : decode cX5_set 33 = .ok (.invokevirtual 52, 3) := by decide +kernel
theorem dX5_set_36 : decode cX5_set 36 = .ok (.goto 9, 3) := by decide +kernel
theorem dX5_set_39 : decode cX5_set 39 = .ok (.aload_n 0, 1) := by decide +kernel
theorem dX5_set_40 : decode cX5_set 40 = .ok (.ldc 34, 2) := by decide +kernel
theorem dX5_set_42 : decode cX5_set 42 = .ok (.invokevirtual 36, 3) := by decide +kernel
theorem dX5_set_45 : decode cX5_set 45 = .ok (.ireturn, 1) := by decide +kernel
theorem dX5_deed_0 : decode cX5_deed 0 = .ok (.iload_n 1, 1) := by decide +kernel
theorem dX5_deed_1 : decode cX5_deed 1 = .ok (.iconst 0, 1) := by decide +kernel
theorem dX5_deed_2 : decode cX5_deed 2 = .ok (.iconst 5, 1) := by decide +kernel
theorem dX5_deed_3 : decode cX5_deed 3 = .ok (.invokestatic 40, 3) := by decide +kernel
theorem dX5_deed_6 : decode cX5_deed 6 = .ok (.ifCond .eq 22, 3) := by decide +kernel
theorem dX5_deed_9 : decode cX5_deed 9 = .ok (.iload_n 2, 1) := by decide +kernel
theorem dX5_deed_10 : decode cX5_deed 10 = .ok (.invokestatic 55, 3) := by decide +kernel
theorem dX5_deed_13 : decode cX5_deed 13 = .ok (.ifCond .eq 15, 3) := by decide +kernel
theorem dX5_deed_16 : decode cX5_deed 16 = .ok (.aload_n 0, 1) := by decide +kernel
theorem dX5_deed_17 : decode cX5_deed 17 = .ok (.bipush 6, 2) := by decide +kernel
theorem dX5_deed_19 : decode cX5_deed 19 = .ok (.iload_n 1, 1) := by decide +kernel
theorem dX5_deed_20 : decode cX5_deed 20 = .ok (.iadd, 1) := by decide +kernel
theorem dX5_deed_21 : decode cX5_deed 21 = .ok (.iload_n 2, 1) := by decide +kernel
theorem dX5_deed_22 : decode cX5_deed 22 = .ok (.invokevirtual 52, 3) := by decide +kernel
theorem dX5_deed_25 : decode cX5_deed 25 = .ok (.goto 9, 3) := by decide +kernel
theorem dX5_deed_28 : decode cX5_deed 28 = .ok (.aload_n 0, 1) := by decide +kernel
theorem dX5_deed_29 : decode cX5_deed 29 = .ok (.ldc 34, 2) := by decide +kernel
theorem dX5_deed_31 : decode cX5_deed 31 = .ok (.invokevirtual 36, 3) := by decide +kernel
theorem dX5_deed_34 : decode cX5_deed 34 = .ok (.ireturn, 1) := by decide +kernel
theorem dX5_listed_0 : decode cX5_listed 0 = .ok (.iload_n 1, 1) := by decide +kernel
theorem dX5_listed_1 : decode cX5_listed 1 = .ok (.iconst 0, 1) := by decide +kernel
theorem dX5_listed_2 : decode cX5_listed 2 = .ok (.iconst 5, 1) := by decide +kernel
theorem dX5_listed_3 : decode cX5_listed 3 = .ok (.invokestatic 40, 3) := by decide +kernel
theorem dX5_listed_6 : decode cX5_listed 6 = .ok (.ifCond .eq 15, 3) := by decide +kernel
theorem dX5_listed_9 : decode cX5_listed 9 = .ok (.aload_n 0, 1) := by decide +kernel
theorem dX5_listed_10 : decode cX5_listed 10 = .ok (.getfield 9, 3) := by decide +kernel
theorem dX5_listed_13 : decode cX5_listed 13 = .ok (.bipush 6, 2) := by decide +kernel
theorem dX5_listed_15 : decode cX5_listed 15 = .ok (.iload_n 1, 1) := by decide +kernel
theorem dX5_listed_16 : decode cX5_listed 16 = .ok (.iadd, 1) := by decide +kernel
theorem dX5_listed_17 : decode cX5_listed 17 = .ok (.iaload, 1) := by decide +kernel
theorem dX5_listed_18 : decode cX5_listed 18 = .ok (.goto 9, 3) := by decide +kernel
theorem dX5_listed_21 : decode cX5_listed 21 = .ok (.aload_n 0, 1) := by decide +kernel
theorem dX5_listed_22 : decode cX5_listed 22 = .ok (.ldc 34, 2) := by decide +kernel
theorem dX5_listed_24 : decode cX5_listed 24 = .ok (.invokevirtual 36, 3) := by decide +kernel
theorem dX5_listed_27 : decode cX5_listed 27 = .ok (.ireturn, 1) := by decide +kernel
theorem dX5_comes_0 : decode cX5_comes 0 = .ok (.aload_n 0, 1) := by decide +kernel
theorem dX5_comes_1 : decode cX5_comes 1 = .ok (.getfield 9, 3) := by decide +kernel
theorem dX5_comes_4 : decode cX5_comes 4 = .ok (.iconst 5, 1) := by decide +kernel
theorem dX5_comes_5 : decode cX5_comes 5 = .ok (.iaload, 1) := by decide +kernel
theorem dX5_comes_6 : decode cX5_comes 6 = .ok (.istore 6, 2) := by decide +kernel
theorem dX5_comes_8 : decode cX5_comes 8 = .ok (.aload_n 0, 1) := by decide +kernel
theorem dX5_comes_9 : decode cX5_comes 9 = .ok (.getfield 9, 3) := by decide +kernel
theorem dX5_comes_12 : decode cX5_comes 12 = .ok (.iconst 5, 1) := by decide +kernel
theorem dX5_comes_13 : decode cX5_comes 13 = .ok (.dup2, 1) := by decide +kernel
theorem dX5_comes_14 : decode cX5_comes 14 = .ok (.iaload, 1) := by decide +kernel
theorem dX5_comes_15 : decode cX5_comes 15 = .ok (.iconst 1, 1) := by decide +kernel
theorem dX5_comes_16 : decode cX5_comes 16 = .ok (.iadd, 1) := by decide +kernel
theorem dX5_comes_17 : decode cX5_comes 17 = .ok (.iastore, 1) := by decide +kernel
theorem dX5_comes_18 : decode cX5_comes 18 = .ok (.aload_n 0, 1) := by decide +kernel
theorem dX5_comes_19 : decode cX5_comes 19 = .ok (.iload 6, 2) := by decide +kernel
theorem dX5_comes_21 : decode cX5_comes 21 = .ok (.iconst 0, 1) := by decide +kernel
theorem dX5_comes_22 : decode cX5_comes 22 = .ok (.iload_n 1, 1) := by decide +kernel
theorem dX5_comes_23 : decode cX5_comes 23 = .ok (.invokevirtual 59, 3) := by decide +kernel
theorem dX5_comes_26 : decode cX5_comes 26 = .ok (.aload_n 0, 1) := by decide +kernel
theorem dX5_comes_27 : decode cX5_comes 27 = .ok (.iload 6, 2) := by decide +kernel
theorem dX5_comes_29 : decode cX5_comes 29 = .ok (.iconst 1, 1) := by decide +kernel
theorem dX5_comes_30 : decode cX5_comes 30 = .ok (.iload_n 2, 1) := by decide +kernel
theorem dX5_comes_31 : decode cX5_comes 31 = .ok (.invokevirtual 59, 3) := by decide +kernel
theorem dX5_comes_34 : decode cX5_comes 34 = .ok (.aload_n 0, 1) := by decide +kernel
theorem dX5_comes_35 : decode cX5_comes 35 = .ok (.iload 6, 2) := by decide +kernel
theorem dX5_comes_37 : decode cX5_comes 37 = .ok (.iconst 2, 1) := by decide +kernel
theorem dX5_comes_38 : decode cX5_comes 38 = .ok (.iload_n 3, 1) := by decide +kernel
theorem dX5_comes_39 : decode cX5_comes 39 = .ok (.invokevirtual 59, 3) := by decide +kernel
theorem dX5_comes_42 : decode cX5_comes 42 = .ok (.aload_n 0, 1) := by decide +kernel
theorem dX5_comes_43 : decode cX5_comes 43 = .ok (.iload 6, 2) := by decide +kernel
theorem dX5_comes_45 : decode cX5_comes 45 = .ok (.iconst 3, 1) := by decide +kernel
theorem dX5_comes_46 : decode cX5_comes 46 = .ok (.iload 5, 2) := by decide +kernel
theorem dX5_comes_48 : decode cX5_comes 48 = .ok (.invokevirtual 59, 3) := by decide +kernel
theorem dX5_comes_51 : decode cX5_comes 51 = .ok (.aload_n 0, 1) := by decide +kernel
theorem dX5_comes_52 : decode cX5_comes 52 = .ok (.iload 6, 2) := by decide +kernel
theorem dX5_comes_54 : decode cX5_comes 54 = .ok (.iconst 4, 1) := by decide +kernel
theorem dX5_comes_55 : decode cX5_comes 55 = .ok (.iload 4, 2) := by decide +kernel
theorem dX5_comes_57 : decode cX5_comes 57 = .ok (.invokevirtual 59, 3) := by decide +kernel
theorem dX5_comes_60 : decode cX5_comes 60 = .ok (.aload_n 0, 1) := by decide +kernel
theorem dX5_comes_61 : decode cX5_comes 61 = .ok (.iload 6, 2) := by decide +kernel
theorem dX5_comes_63 : decode cX5_comes 63 = .ok (.iconst 5, 1) := by decide +kernel
theorem dX5_comes_64 : decode cX5_comes 64 = .ok (.iconst 0, 1) := by decide +kernel
theorem dX5_comes_65 : decode cX5_comes 65 = .ok (.invokevirtual 59, 3) := by decide +kernel
theorem dX5_comes_68 : decode cX5_comes 68 = .ok (.iload 6, 2) := by decide +kernel
theorem dX5_comes_70 : decode cX5_comes 70 = .ok (.ireturn, 1) := by decide +kernel
theorem dX5_dish_0 : decode cX5_dish 0 = .ok (.iload_n 1, 1) := by decide +kernel
theorem dX5_dish_1 : decode cX5_dish 1 = .ok (.iconst 0, 1) := by decide +kernel
theorem dX5_dish_2 : decode cX5_dish 2 = .ok (.bipush 6, 2) := by decide +kernel
theorem dX5_dish_4 : decode cX5_dish 4 = .ok (.invokestatic 40, 3) := by decide +kernel
theorem dX5_dish_7 : decode cX5_dish 7 = .ok (.ifCond .eq 13, 3) := by decide +kernel
theorem dX5_dish_10 : decode cX5_dish 10 = .ok (.iload_n 2, 1) := by decide +kernel
theorem dX5_dish_11 : decode cX5_dish 11 = .ok (.iconst 0, 1) := by decide +kernel
theorem dX5_dish_12 : decode cX5_dish 12 = .ok (.bipush 99, 2) := by decide +kernel
theorem dX5_dish_14 : decode cX5_dish 14 = .ok (.invokestatic 40, 3) := by decide +kernel
theorem dX5_dish_17 : decode cX5_dish 17 = .ok (.ifCond .ne 10, 3) := by decide +kernel
theorem dX5_dish_20 : decode cX5_dish 20 = .ok (.aload_n 0, 1) := by decide +kernel
theorem dX5_dish_21 : decode cX5_dish 21 = .ok (.ldc 34, 2) := by decide +kernel
theorem dX5_dish_23 : decode cX5_dish 23 = .ok (.invokevirtual 36, 3) := by decide +kernel
theorem dX5_dish_26 : decode cX5_dish 26 = .ok (.ireturn, 1) := by decide +kernel
theorem dX5_dish_27 : decode cX5_dish 27 = .ok (.aload_n 0, 1) := by decide +kernel
theorem dX5_dish_28 : decode cX5_dish 28 = .ok (.getfield 9, 3) := by decide +kernel
theorem dX5_dish_31 : decode cX5_dish 31 = .ok (.iconst 5, 1) := by decide +kernel
theorem dX5_dish_32 : decode cX5_dish 32 = .ok (.iaload, 1) := by decide +kernel
theorem dX5_dish_33 : decode cX5_dish 33 = .ok (.bipush 8, 2) := by decide +kernel
theorem dX5_dish_35 : decode cX5_dish 35 = .ok (.if_icmp .ne 12, 3) := by decide +kernel
theorem dX5_dish_38 : decode cX5_dish 38 = .ok (.aload_n 0, 1) := by decide +kernel
theorem dX5_dish_39 : decode cX5_dish 39 = .ok (.ldc 63, 2) := by decide +kernel
theorem dX5_dish_41 : decode cX5_dish 41 = .ok (.invokevirtual 36, 3) := by decide +kernel
theorem dX5_dish_44 : decode cX5_dish 44 = .ok (.goto 13, 3) := by decide +kernel
theorem dX5_dish_47 : decode cX5_dish 47 = .ok (.aload_n 0, 1) := by decide +kernel
theorem dX5_dish_48 : decode cX5_dish 48 = .ok (.iload_n 1, 1) := by decide +kernel
theorem dX5_dish_49 : decode cX5_dish 49 = .ok (.iload_n 2, 1) := by decide +kernel
theorem dX5_dish_50 : decode cX5_dish 50 = .ok (.bipush 10, 2) := by decide +kernel
theorem dX5_dish_52 : decode cX5_dish 52 = .ok (.iconst 0, 1) := by decide +kernel
theorem dX5_dish_53 : decode cX5_dish 53 = .ok (.iconst 0, 1) := by decide +kernel
theorem dX5_dish_54 : decode cX5_dish 54 = .ok (.invokevirtual 64, 3) := by decide +kernel
theorem dX5_dish_57 : decode cX5_dish 57 = .ok (.ireturn, 1) := by decide +kernel
theorem dX5_of_0 : decode cX5_of 0 = .ok (.aload_n 0, 1) := by decide +kernel
theorem dX5_of_1 : decode cX5_of 1 = .ok (.iload_n 1, 1) := by decide +kernel
theorem dX5_of_2 : decode cX5_of 2 = .ok (.invokevirtual 68, 3) := by decide +kernel
theorem dX5_of_5 : decode cX5_of 5 = .ok (.ifCond .eq 13, 3) := by decide +kernel
theorem dX5_of_8 : decode cX5_of 8 = .ok (.iload_n 2, 1) := by decide +kernel
theorem dX5_of_9 : decode cX5_of 9 = .ok (.iconst 0, 1) := by decide +kernel
theorem dX5_of_10 : decode cX5_of 10 = .ok (.bipush 10, 2) := by decide +kernel
theorem dX5_of_12 : decode cX5_of 12 = .ok (.invokestatic 40, 3) := by decide +kernel
theorem dX5_of_15 : decode cX5_of 15 = .ok (.ifCond .ne 10, 3) := by decide +kernel
theorem dX5_of_18 : decode cX5_of 18 = .ok (.aload_n 0, 1) := by decide +kernel
theorem dX5_of_19 : decode cX5_of 19 = .ok (.ldc 34, 2) := by decide +kernel
theorem dX5_of_21 : decode cX5_of 21 = .ok (.invokevirtual 36, 3) := by decide +kernel
theorem dX5_of_24 : decode cX5_of 24 = .ok (.ireturn, 1) := by decide +kernel
theorem dX5_of_25 : decode cX5_of 25 = .ok (.iload_n 2, 1) := by decide +kernel
theorem dX5_of_26 : decode cX5_of 26 = .ok (.tableswitch 64 6 10 #[34, 40, 46, 52, 58], 34) := by decide +kernel
theorem dX5_of_60 : decode cX5_of 60 = .ok (.aload_n 0, 1) := by decide +kernel
theorem dX5_of_61 : decode cX5_of 61 = .ok (.iload_n 1, 1) := by decide +kernel
theorem dX5_of_62 : decode cX5_of 62 = .ok (.invokevirtual 71, 3) := by decide +kernel
theorem dX5_of_65 : decode cX5_of 65 = .ok (.ireturn, 1) := by decide +kernel
theorem dX5_of_66 : decode cX5_of 66 = .ok (.aload_n 0, 1) := by decide +kernel
theorem dX5_of_67 : decode cX5_of 67 = .ok (.iload_n 1, 1) := by decide +kernel
theorem dX5_of_68 : decode cX5_of 68 = .ok (.invokevirtual 74, 3) := by decide +kernel
theorem dX5_of_71 : decode cX5_of 71 = .ok (.ireturn, 1) := by decide +kernel
theorem dX5_of_72 : decode cX5_of 72 = .ok (.aload_n 0, 1) := by decide +kernel
theorem dX5_of_73 : decode cX5_of 73 = .ok (.iload_n 1, 1) := by decide +kernel
theorem dX5_of_74 : decode cX5_of 74 = .ok (.invokevirtual 77, 3) := by decide +kernel
theorem dX5_of_77 : decode cX5_of 77 = .ok (.ireturn, 1) := by decide +kernel
theorem dX5_of_78 : decode cX5_of 78 = .ok (.aload_n 0, 1) := by decide +kernel
theorem dX5_of_79 : decode cX5_of 79 = .ok (.iload_n 1, 1) := by decide +kernel
theorem dX5_of_80 : decode cX5_of 80 = .ok (.invokevirtual 80, 3) := by decide +kernel
theorem dX5_of_83 : decode cX5_of 83 = .ok (.ireturn, 1) := by decide +kernel
theorem dX5_of_84 : decode cX5_of 84 = .ok (.aload_n 0, 1) := by decide +kernel
theorem dX5_of_85 : decode cX5_of 85 = .ok (.iload_n 1, 1) := by decide +kernel
theorem dX5_of_86 : decode cX5_of 86 = .ok (.invokevirtual 83, 3) := by decide +kernel
theorem dX5_of_89 : decode cX5_of 89 = .ok (.ireturn, 1) := by decide +kernel
theorem dX5_of_90 : decode cX5_of 90 = .ok (.aload_n 0, 1) := by decide +kernel
theorem dX5_of_91 : decode cX5_of 91 = .ok (.iload_n 1, 1) := by decide +kernel
theorem dX5_of_92 : decode cX5_of 92 = .ok (.iload_n 2, 1) := by decide +kernel
theorem dX5_of_93 : decode cX5_of 93 = .ok (.invokevirtual 44, 3) := by decide +kernel
theorem dX5_of_96 : decode cX5_of 96 = .ok (.ireturn, 1) := by decide +kernel
theorem dX5_mostOf_0 : decode cX5_mostOf 0 = .ok (.iload_n 0, 1) := by decide +kernel
theorem dX5_mostOf_1 : decode cX5_mostOf 1 = .ok (.ifCond .ne 8, 3) := by decide +kernel
theorem dX5_mostOf_4 : decode cX5_mostOf 4 = .ok (.bipush 6, 2) := by decide +kernel
theorem dX5_mostOf_6 : decode cX5_mostOf 6 = .ok (.goto 30, 3) := by decide +kernel
theorem dX5_mostOf_9 : decode cX5_mostOf 9 = .ok (.iload_n 0, 1) := by decide +kernel
theorem dX5_mostOf_10 : decode cX5_mostOf 10 = .ok (.iconst 1, 1) := by decide +kernel
theorem dX5_mostOf_11 : decode cX5_mostOf 11 = .ok (.if_icmp .eq 8, 3) := by decide +kernel
theorem dX5_mostOf_14 : decode cX5_mostOf 14 = .ok (.iload_n 0, 1) := by decide +kernel
theorem dX5_mostOf_15 : decode cX5_mostOf 15 = .ok (.iconst 2, 1) := by decide +kernel
theorem dX5_mostOf_16 : decode cX5_mostOf 16 = .ok (.if_icmp .ne 8, 3) := by decide +kernel
theorem dX5_mostOf_19 : decode cX5_mostOf 19 = .ok (.bipush 99, 2) := by decide +kernel
theorem dX5_mostOf_21 : decode cX5_mostOf 21 = .ok (.goto 15, 3) := by decide +kernel
theorem dX5_mostOf_24 : decode cX5_mostOf 24 = .ok (.iload_n 0, 1) := by decide +kernel
theorem dX5_mostOf_25 : decode cX5_mostOf 25 = .ok (.iconst 5, 1) := by decide +kernel
theorem dX5_mostOf_26 : decode cX5_mostOf 26 = .ok (.if_icmp .ne 9, 3) := by decide +kernel
theorem dX5_mostOf_29 : decode cX5_mostOf 29 = .ok (.sipush 9999, 3) := by decide +kernel
theorem dX5_mostOf_32 : decode cX5_mostOf 32 = .ok (.goto 4, 3) := by decide +kernel
theorem dX5_mostOf_35 : decode cX5_mostOf 35 = .ok (.iconst 1, 1) := by decide +kernel
theorem dX5_mostOf_36 : decode cX5_mostOf 36 = .ok (.ireturn, 1) := by decide +kernel
theorem dX5_change_0 : decode cX5_change 0 = .ok (.aload_n 0, 1) := by decide +kernel
theorem dX5_change_1 : decode cX5_change 1 = .ok (.iload_n 1, 1) := by decide +kernel
theorem dX5_change_2 : decode cX5_change 2 = .ok (.invokevirtual 68, 3) := by decide +kernel
theorem dX5_change_5 : decode cX5_change 5 = .ok (.ifCond .eq 41, 3) := by decide +kernel
theorem dX5_change_8 : decode cX5_change 8 = .ok (.iload_n 2, 1) := by decide +kernel
theorem dX5_change_9 : decode cX5_change 9 = .ok (.iconst 0, 1) := by decide +kernel
theorem dX5_change_10 : decode cX5_change 10 = .ok (.iconst 5, 1) := by decide +kernel
theorem dX5_change_11 : decode cX5_change 11 = .ok (.invokestatic 40, 3) := by decide +kernel
theorem dX5_change_14 : decode cX5_change 14 = .ok (.ifCond .eq 32, 3) := by decide +kernel
theorem dX5_change_17 : decode cX5_change 17 = .ok (.iload_n 3, 1) := by decide +kernel
theorem dX5_change_18 : decode cX5_change 18 = .ok (.iconst 0, 1) := by decide +kernel
theorem dX5_change_19 : decode cX5_change 19 = .ok (.iload_n 2, 1) := by decide +kernel
theorem dX5_change_20 : decode cX5_change 20 = .ok (.invokestatic 86, 3) := by decide +kernel
theorem dX5_change_23 : decode cX5_change 23 = .ok (.invokestatic 40, 3) := by decide +kernel
theorem dX5_change_26 : decode cX5_change 26 = .ok (.ifCond .eq 20, 3) := by decide +kernel
theorem dX5_change_29 : decode cX5_change 29 = .ok (.aload_n 0, 1) := by decide +kernel
theorem dX5_change_30 : decode cX5_change 30 = .ok (.bipush 12, 2) := by decide +kernel
theorem dX5_change_32 : decode cX5_change 32 = .ok (.bipush 6, 2) := by decide +kernel
theorem dX5_change_34 : decode cX5_change 34 = .ok (.iload_n 1, 1) := by decide +kernel
theorem dX5_change_35 : decode cX5_change 35 = .ok (.imul, 1) := by decide +kernel
theorem dX5_change_36 : decode cX5_change 36 = .ok (.iadd, 1) := by decide +kernel
theorem dX5_change_37 : decode cX5_change 37 = .ok (.iload_n 2, 1) := by decide +kernel
theorem dX5_change_38 : decode cX5_change 38 = .ok (.iadd, 1) := by decide +kernel
theorem dX5_change_39 : decode cX5_change 39 = .ok (.iload_n 3, 1) := by decide +kernel
theorem dX5_change_40 : decode cX5_change 40 = .ok (.invokevirtual 52, 3) := by decide +kernel
theorem dX5_change_43 : decode cX5_change 43 = .ok (.goto 9, 3) := by decide +kernel
theorem dX5_change_46 : decode cX5_change 46 = .ok (.aload_n 0, 1) := by decide +kernel
theorem dX5_change_47 : decode cX5_change 47 = .ok (.ldc 34, 2) := by decide +kernel
theorem dX5_change_49 : decode cX5_change 49 = .ok (.invokevirtual 36, 3) := by decide +kernel
theorem dX5_change_52 : decode cX5_change 52 = .ok (.ireturn, 1) := by decide +kernel
theorem dX5_serves_0 : decode cX5_serves 0 = .ok (.aload_n 0, 1) := by decide +kernel
theorem dX5_serves_1 : decode cX5_serves 1 = .ok (.iload_n 1, 1) := by decide +kernel
theorem dX5_serves_2 : decode cX5_serves 2 = .ok (.invokevirtual 83, 3) := by decide +kernel
theorem dX5_serves_5 : decode cX5_serves 5 = .ok (.istore_n 2, 1) := by decide +kernel
theorem dX5_serves_6 : decode cX5_serves 6 = .ok (.aload_n 0, 1) := by decide +kernel
theorem dX5_serves_7 : decode cX5_serves 7 = .ok (.getfield 9, 3) := by decide +kernel
theorem dX5_serves_10 : decode cX5_serves 10 = .ok (.iconst 3, 1) := by decide +kernel
theorem dX5_serves_11 : decode cX5_serves 11 = .ok (.aload_n 0, 1) := by decide +kernel
theorem dX5_serves_12 : decode cX5_serves 12 = .ok (.getfield 9, 3) := by decide +kernel
theorem dX5_serves_15 : decode cX5_serves 15 = .ok (.iconst 3, 1) := by decide +kernel
theorem dX5_serves_16 : decode cX5_serves 16 = .ok (.iaload, 1) := by decide +kernel
theorem dX5_serves_17 : decode cX5_serves 17 = .ok (.iload_n 2, 1) := by decide +kernel
theorem dX5_serves_18 : decode cX5_serves 18 = .ok (.iadd, 1) := by decide +kernel
theorem dX5_serves_19 : decode cX5_serves 19 = .ok (.iconst 0, 1) := by decide +kernel
theorem dX5_serves_20 : decode cX5_serves 20 = .ok (.ldc 89, 2) := by decide +kernel
theorem dX5_serves_22 : decode cX5_serves 22 = .ok (.invokestatic 90, 3) := by decide +kernel
theorem dX5_serves_25 : decode cX5_serves 25 = .ok (.iastore, 1) := by decide +kernel
theorem dX5_serves_26 : decode cX5_serves 26 = .ok (.aload_n 0, 1) := by decide +kernel
theorem dX5_serves_27 : decode cX5_serves 27 = .ok (.iload_n 1, 1) := by decide +kernel
theorem dX5_serves_28 : decode cX5_serves 28 = .ok (.iconst 5, 1) := by decide +kernel
theorem dX5_serves_29 : decode cX5_serves 29 = .ok (.aload_n 0, 1) := by decide +kernel
theorem dX5_serves_30 : decode cX5_serves 30 = .ok (.iload_n 1, 1) := by decide +kernel
theorem dX5_serves_31 : decode cX5_serves 31 = .ok (.iconst 5, 1) := by decide +kernel
theorem dX5_serves_32 : decode cX5_serves 32 = .ok (.invokevirtual 44, 3) := by decide +kernel
theorem dX5_serves_35 : decode cX5_serves 35 = .ok (.iconst 1, 1) := by decide +kernel
theorem dX5_serves_36 : decode cX5_serves 36 = .ok (.iadd, 1) := by decide +kernel
theorem dX5_serves_37 : decode cX5_serves 37 = .ok (.iconst 0, 1) := by decide +kernel
theorem dX5_serves_38 : decode cX5_serves 38 = .ok (.sipush 9999, 3) := by decide +kernel
theorem dX5_serves_41 : decode cX5_serves 41 = .ok (.invokestatic 90, 3) := by decide +kernel
theorem dX5_serves_44 : decode cX5_serves 44 = .ok (.invokevirtual 59, 3) := by decide +kernel
theorem dX5_serves_47 : decode cX5_serves 47 = .ok (.aload_n 0, 1) := by decide +kernel
theorem dX5_serves_48 : decode cX5_serves 48 = .ok (.iload_n 1, 1) := by decide +kernel
theorem dX5_serves_49 : decode cX5_serves 49 = .ok (.iconst 1, 1) := by decide +kernel
theorem dX5_serves_50 : decode cX5_serves 50 = .ok (.bipush 10, 2) := by decide +kernel
theorem dX5_serves_52 : decode cX5_serves 52 = .ok (.invokevirtual 59, 3) := by decide +kernel
theorem dX5_serves_55 : decode cX5_serves 55 = .ok (.aload_n 0, 1) := by decide +kernel
theorem dX5_serves_56 : decode cX5_serves 56 = .ok (.iload_n 1, 1) := by decide +kernel
theorem dX5_serves_57 : decode cX5_serves 57 = .ok (.iconst 2, 1) := by decide +kernel
theorem dX5_serves_58 : decode cX5_serves 58 = .ok (.bipush 10, 2) := by decide +kernel
theorem dX5_serves_60 : decode cX5_serves 60 = .ok (.invokevirtual 59, 3) := by decide +kernel
theorem dX5_serves_63 : decode cX5_serves 63 = .ok (.aload_n 0, 1) := by decide +kernel
theorem dX5_serves_64 : decode cX5_serves 64 = .ok (.iload_n 1, 1) := by decide +kernel
theorem dX5_serves_65 : decode cX5_serves 65 = .ok (.iconst 3, 1) := by decide +kernel
theorem dX5_serves_66 : decode cX5_serves 66 = .ok (.iconst 0, 1) := by decide +kernel
theorem dX5_serves_67 : decode cX5_serves 67 = .ok (.invokevirtual 59, 3) := by decide +kernel
theorem dX5_serves_70 : decode cX5_serves 70 = .ok (.iload_n 2, 1) := by decide +kernel
theorem dX5_serves_71 : decode cX5_serves 71 = .ok (.ireturn, 1) := by decide +kernel
theorem dX5_serve_0 : decode cX5_serve 0 = .ok (.aload_n 0, 1) := by decide +kernel
theorem dX5_serve_1 : decode cX5_serve 1 = .ok (.iload_n 1, 1) := by decide +kernel
theorem dX5_serve_2 : decode cX5_serve 2 = .ok (.invokevirtual 68, 3) := by decide +kernel
theorem dX5_serve_5 : decode cX5_serve 5 = .ok (.ifCond .ne 10, 3) := by decide +kernel
theorem dX5_serve_8 : decode cX5_serve 8 = .ok (.aload_n 0, 1) := by decide +kernel
theorem dX5_serve_9 : decode cX5_serve 9 = .ok (.ldc 34, 2) := by decide +kernel
theorem dX5_serve_11 : decode cX5_serve 11 = .ok (.invokevirtual 36, 3) := by decide +kernel
theorem dX5_serve_14 : decode cX5_serve 14 = .ok (.ireturn, 1) := by decide +kernel
theorem dX5_serve_15 : decode cX5_serve 15 = .ok (.aload_n 0, 1) := by decide +kernel
theorem dX5_serve_16 : decode cX5_serve 16 = .ok (.iload_n 1, 1) := by decide +kernel
theorem dX5_serve_17 : decode cX5_serve 17 = .ok (.iconst 4, 1) := by decide +kernel
theorem dX5_serve_18 : decode cX5_serve 18 = .ok (.invokevirtual 44, 3) := by decide +kernel
theorem dX5_serve_21 : decode cX5_serve 21 = .ok (.iconst 1, 1) := by decide +kernel
theorem dX5_serve_22 : decode cX5_serve 22 = .ok (.if_icmp .ne 12, 3) := by decide +kernel
theorem dX5_serve_25 : decode cX5_serve 25 = .ok (.aload_n 0, 1) := by decide +kernel
theorem dX5_serve_26 : decode cX5_serve 26 = .ok (.ldc 94, 2) := by decide +kernel
theorem dX5_serve_28 : decode cX5_serve 28 = .ok (.invokevirtual 36, 3) := by decide +kernel
theorem dX5_serve_31 : decode cX5_serve 31 = .ok (.goto 8, 3) := by decide +kernel
theorem dX5_serve_34 : decode cX5_serve 34 = .ok (.aload_n 0, 1) := by decide +kernel
theorem dX5_serve_35 : decode cX5_serve 35 = .ok (.iload_n 1, 1) := by decide +kernel
theorem dX5_serve_36 : decode cX5_serve 36 = .ok (.invokevirtual 95, 3) := by decide +kernel
theorem dX5_serve_39 : decode cX5_serve 39 = .ok (.ireturn, 1) := by decide +kernel
theorem dX5_does_0 : decode cX5_does 0 = .ok (.aload_n 0, 1) := by decide +kernel
theorem dX5_does_1 : decode cX5_does 1 = .ok (.getfield 9, 3) := by decide +kernel
theorem dX5_does_4 : decode cX5_does 4 = .ok (.iconst 1, 1) := by decide +kernel
theorem dX5_does_5 : decode cX5_does 5 = .ok (.aload_n 0, 1) := by decide +kernel
theorem dX5_does_6 : decode cX5_does 6 = .ok (.getfield 9, 3) := by decide +kernel
theorem dX5_does_9 : decode cX5_does 9 = .ok (.iconst 1, 1) := by decide +kernel
theorem dX5_does_10 : decode cX5_does 10 = .ok (.iaload, 1) := by decide +kernel
theorem dX5_does_11 : decode cX5_does 11 = .ok (.getstatic 98, 3) := by decide +kernel
theorem dX5_does_14 : decode cX5_does 14 = .ok (.iload_n 1, 1) := by decide +kernel
theorem dX5_does_15 : decode cX5_does 15 = .ok (.iaload, 1) := by decide +kernel
theorem dX5_does_16 : decode cX5_does 16 = .ok (.iadd, 1) := by decide +kernel
theorem dX5_does_17 : decode cX5_does 17 = .ok (.iconst 0, 1) := by decide +kernel
theorem dX5_does_18 : decode cX5_does 18 = .ok (.bipush 99, 2) := by decide +kernel
theorem dX5_does_20 : decode cX5_does 20 = .ok (.invokestatic 90, 3) := by decide +kernel
theorem dX5_does_23 : decode cX5_does 23 = .ok (.iastore, 1) := by decide +kernel
theorem dX5_does_24 : decode cX5_does 24 = .ok (.aload_n 0, 1) := by decide +kernel
theorem dX5_does_25 : decode cX5_does 25 = .ok (.getfield 9, 3) := by decide +kernel
theorem dX5_does_28 : decode cX5_does 28 = .ok (.iconst 1, 1) := by decide +kernel
theorem dX5_does_29 : decode cX5_does 29 = .ok (.iaload, 1) := by decide +kernel
theorem dX5_does_30 : decode cX5_does 30 = .ok (.ireturn, 1) := by decide +kernel
theorem dX5_act_0 : decode cX5_act 0 = .ok (.iload_n 1, 1) := by decide +kernel
theorem dX5_act_1 : decode cX5_act 1 = .ok (.invokestatic 55, 3) := by decide +kernel
theorem dX5_act_4 : decode cX5_act 4 = .ok (.ifCond .eq 11, 3) := by decide +kernel
theorem dX5_act_7 : decode cX5_act 7 = .ok (.aload_n 0, 1) := by decide +kernel
theorem dX5_act_8 : decode cX5_act 8 = .ok (.iload_n 1, 1) := by decide +kernel
theorem dX5_act_9 : decode cX5_act 9 = .ok (.invokevirtual 101, 3) := by decide +kernel
theorem dX5_act_12 : decode cX5_act 12 = .ok (.goto 9, 3) := by decide +kernel
theorem dX5_act_15 : decode cX5_act 15 = .ok (.aload_n 0, 1) := by decide +kernel
theorem dX5_act_16 : decode cX5_act 16 = .ok (.ldc 34, 2) := by decide +kernel
theorem dX5_act_18 : decode cX5_act 18 = .ok (.invokevirtual 36, 3) := by decide +kernel
theorem dX5_act_21 : decode cX5_act 21 = .ok (.ireturn, 1) := by decide +kernel
theorem dX5_cooks_0 : decode cX5_cooks 0 = .ok (.aload_n 0, 1) := by decide +kernel
theorem dX5_cooks_1 : decode cX5_cooks 1 = .ok (.getfield 9, 3) := by decide +kernel
theorem dX5_cooks_4 : decode cX5_cooks 4 = .ok (.iconst 1, 1) := by decide +kernel
theorem dX5_cooks_5 : decode cX5_cooks 5 = .ok (.iaload, 1) := by decide +kernel
theorem dX5_cooks_6 : decode cX5_cooks 6 = .ok (.aload_n 0, 1) := by decide +kernel
theorem dX5_cooks_7 : decode cX5_cooks 7 = .ok (.iload_n 1, 1) := by decide +kernel
theorem dX5_cooks_8 : decode cX5_cooks 8 = .ok (.invokevirtual 71, 3) := by decide +kernel
theorem dX5_cooks_11 : decode cX5_cooks 11 = .ok (.if_icmp .ge 11, 3) := by decide +kernel
theorem dX5_cooks_14 : decode cX5_cooks 14 = .ok (.aload_n 0, 1) := by decide +kernel
theorem dX5_cooks_15 : decode cX5_cooks 15 = .ok (.iload_n 1, 1) := by decide +kernel
theorem dX5_cooks_16 : decode cX5_cooks 16 = .ok (.iconst 3, 1) := by decide +kernel
theorem dX5_cooks_17 : decode cX5_cooks 17 = .ok (.iconst 1, 1) := by decide +kernel
theorem dX5_cooks_18 : decode cX5_cooks 18 = .ok (.invokevirtual 59, 3) := by decide +kernel
theorem dX5_cooks_21 : decode cX5_cooks 21 = .ok (.return_, 1) := by decide +kernel
theorem dX5_cooks_22 : decode cX5_cooks 22 = .ok (.aload_n 0, 1) := by decide +kernel
theorem dX5_cooks_23 : decode cX5_cooks 23 = .ok (.iload_n 1, 1) := by decide +kernel
theorem dX5_cooks_24 : decode cX5_cooks 24 = .ok (.iconst 1, 1) := by decide +kernel
theorem dX5_cooks_25 : decode cX5_cooks 25 = .ok (.invokevirtual 44, 3) := by decide +kernel
theorem dX5_cooks_28 : decode cX5_cooks 28 = .ok (.aload_n 0, 1) := by decide +kernel
theorem dX5_cooks_29 : decode cX5_cooks 29 = .ok (.iload_n 1, 1) := by decide +kernel
theorem dX5_cooks_30 : decode cX5_cooks 30 = .ok (.invokevirtual 74, 3) := by decide +kernel
theorem dX5_cooks_33 : decode cX5_cooks 33 = .ok (.iadd, 1) := by decide +kernel
theorem dX5_cooks_34 : decode cX5_cooks 34 = .ok (.iconst 0, 1) := by decide +kernel
theorem dX5_cooks_35 : decode cX5_cooks 35 = .ok (.bipush 99, 2) := by decide +kernel
theorem dX5_cooks_37 : decode cX5_cooks 37 = .ok (.invokestatic 90, 3) := by decide +kernel
theorem dX5_cooks_40 : decode cX5_cooks 40 = .ok (.istore_n 2, 1) := by decide +kernel
theorem dX5_cooks_41 : decode cX5_cooks 41 = .ok (.aload_n 0, 1) := by decide +kernel
theorem dX5_cooks_42 : decode cX5_cooks 42 = .ok (.iload_n 1, 1) := by decide +kernel
theorem dX5_cooks_43 : decode cX5_cooks 43 = .ok (.iconst 2, 1) := by decide +kernel
theorem dX5_cooks_44 : decode cX5_cooks 44 = .ok (.invokevirtual 44, 3) := by decide +kernel
theorem dX5_cooks_47 : decode cX5_cooks 47 = .ok (.aload_n 0, 1) := by decide +kernel
theorem dX5_cooks_48 : decode cX5_cooks 48 = .ok (.iload_n 1, 1) := by decide +kernel
theorem dX5_cooks_49 : decode cX5_cooks 49 = .ok (.invokevirtual 77, 3) := by decide +kernel
theorem dX5_cooks_52 : decode cX5_cooks 52 = .ok (.iadd, 1) := by decide +kernel
theorem dX5_cooks_53 : decode cX5_cooks 53 = .ok (.iconst 0, 1) := by decide +kernel
theorem dX5_cooks_54 : decode cX5_cooks 54 = .ok (.bipush 99, 2) := by decide +kernel
theorem dX5_cooks_56 : decode cX5_cooks 56 = .ok (.invokestatic 90, 3) := by decide +kernel
theorem dX5_cooks_59 : decode cX5_cooks 59 = .ok (.istore_n 3, 1) := by decide +kernel
theorem dX5_cooks_60 : decode cX5_cooks 60 = .ok (.aload_n 0, 1) := by decide +kernel
theorem dX5_cooks_61 : decode cX5_cooks 61 = .ok (.iload_n 1, 1) := by decide +kernel
theorem dX5_cooks_62 : decode cX5_cooks 62 = .ok (.iconst 1, 1) := by decide +kernel
theorem dX5_cooks_63 : decode cX5_cooks 63 = .ok (.iload_n 2, 1) := by decide +kernel
theorem dX5_cooks_64 : decode cX5_cooks 64 = .ok (.invokevirtual 59, 3) := by decide +kernel
theorem dX5_cooks_67 : decode cX5_cooks 67 = .ok (.aload_n 0, 1) := by decide +kernel
theorem dX5_cooks_68 : decode cX5_cooks 68 = .ok (.iload_n 1, 1) := by decide +kernel
theorem dX5_cooks_69 : decode cX5_cooks 69 = .ok (.iconst 2, 1) := by decide +kernel
theorem dX5_cooks_70 : decode cX5_cooks 70 = .ok (.iload_n 3, 1) := by decide +kernel
theorem dX5_cooks_71 : decode cX5_cooks 71 = .ok (.invokevirtual 59, 3) := by decide +kernel
theorem dX5_cooks_74 : decode cX5_cooks 74 = .ok (.aload_n 0, 1) := by decide +kernel
theorem dX5_cooks_75 : decode cX5_cooks 75 = .ok (.iload_n 1, 1) := by decide +kernel
theorem dX5_cooks_76 : decode cX5_cooks 76 = .ok (.iconst 3, 1) := by decide +kernel
theorem dX5_cooks_77 : decode cX5_cooks 77 = .ok (.iload_n 2, 1) := by decide +kernel
theorem dX5_cooks_78 : decode cX5_cooks 78 = .ok (.aload_n 0, 1) := by decide +kernel
theorem dX5_cooks_79 : decode cX5_cooks 79 = .ok (.iload_n 1, 1) := by decide +kernel
theorem dX5_cooks_80 : decode cX5_cooks 80 = .ok (.invokevirtual 80, 3) := by decide +kernel
theorem dX5_cooks_83 : decode cX5_cooks 83 = .ok (.if_icmp .le 7, 3) := by decide +kernel
theorem dX5_cooks_86 : decode cX5_cooks 86 = .ok (.iconst 1, 1) := by decide +kernel
theorem dX5_cooks_87 : decode cX5_cooks 87 = .ok (.goto 4, 3) := by decide +kernel
theorem dX5_cooks_90 : decode cX5_cooks 90 = .ok (.iconst 0, 1) := by decide +kernel
theorem dX5_cooks_91 : decode cX5_cooks 91 = .ok (.invokevirtual 59, 3) := by decide +kernel
theorem dX5_cooks_94 : decode cX5_cooks 94 = .ok (.return_, 1) := by decide +kernel
theorem dX5_goes_0 : decode cX5_goes 0 = .ok (.aload_n 0, 1) := by decide +kernel
theorem dX5_goes_1 : decode cX5_goes 1 = .ok (.aload_n 0, 1) := by decide +kernel
theorem dX5_goes_2 : decode cX5_goes 2 = .ok (.invokevirtual 48, 3) := by decide +kernel
theorem dX5_goes_5 : decode cX5_goes 5 = .ok (.invokevirtual 101, 3) := by decide +kernel
theorem dX5_goes_8 : decode cX5_goes 8 = .ok (.istore_n 1, 1) := by decide +kernel
theorem dX5_goes_9 : decode cX5_goes 9 = .ok (.iconst 0, 1) := by decide +kernel
theorem dX5_goes_10 : decode cX5_goes 10 = .ok (.istore_n 2, 1) := by decide +kernel
theorem dX5_goes_11 : decode cX5_goes 11 = .ok (.iload_n 2, 1) := by decide +kernel
theorem dX5_goes_12 : decode cX5_goes 12 = .ok (.aload_n 0, 1) := by decide +kernel
theorem dX5_goes_13 : decode cX5_goes 13 = .ok (.getfield 9, 3) := by decide +kernel
theorem dX5_goes_16 : decode cX5_goes 16 = .ok (.iconst 5, 1) := by decide +kernel
theorem dX5_goes_17 : decode cX5_goes 17 = .ok (.iaload, 1) := by decide +kernel
theorem dX5_goes_18 : decode cX5_goes 18 = .ok (.if_icmp .ge 22, 3) := by decide +kernel
theorem dX5_goes_21 : decode cX5_goes 21 = .ok (.aload_n 0, 1) := by decide +kernel
theorem dX5_goes_22 : decode cX5_goes 22 = .ok (.iload_n 2, 1) := by decide +kernel
theorem dX5_goes_23 : decode cX5_goes 23 = .ok (.invokevirtual 104, 3) := by decide +kernel
theorem dX5_goes_26 : decode cX5_goes 26 = .ok (.ifCond .eq 8, 3) := by decide +kernel
theorem dX5_goes_29 : decode cX5_goes 29 = .ok (.aload_n 0, 1) := by decide +kernel
theorem dX5_goes_30 : decode cX5_goes 30 = .ok (.iload_n 2, 1) := by decide +kernel
theorem dX5_goes_31 : decode cX5_goes 31 = .ok (.invokevirtual 107, 3) := by decide +kernel
theorem dX5_goes_34 : decode cX5_goes 34 = .ok (.iinc 2 1, 3) := by decide +kernel
theorem dX5_goes_37 : decode cX5_goes 37 = .ok (.goto (-26), 3) := by decide +kernel
theorem dX5_goes_40 : decode cX5_goes 40 = .ok (.aload_n 0, 1) := by decide +kernel
theorem dX5_goes_41 : decode cX5_goes 41 = .ok (.getfield 9, 3) := by decide +kernel
theorem dX5_goes_44 : decode cX5_goes 44 = .ok (.iconst 0, 1) := by decide +kernel
theorem dX5_goes_45 : decode cX5_goes 45 = .ok (.aload_n 0, 1) := by decide +kernel
theorem dX5_goes_46 : decode cX5_goes 46 = .ok (.getfield 9, 3) := by decide +kernel
theorem dX5_goes_49 : decode cX5_goes 49 = .ok (.iconst 0, 1) := by decide +kernel
theorem dX5_goes_50 : decode cX5_goes 50 = .ok (.iaload, 1) := by decide +kernel
theorem dX5_goes_51 : decode cX5_goes 51 = .ok (.iconst 1, 1) := by decide +kernel
theorem dX5_goes_52 : decode cX5_goes 52 = .ok (.iadd, 1) := by decide +kernel
theorem dX5_goes_53 : decode cX5_goes 53 = .ok (.iconst 0, 1) := by decide +kernel
theorem dX5_goes_54 : decode cX5_goes 54 = .ok (.ldc 89, 2) := by decide +kernel
theorem dX5_goes_56 : decode cX5_goes 56 = .ok (.invokestatic 90, 3) := by decide +kernel
theorem dX5_goes_59 : decode cX5_goes 59 = .ok (.iastore, 1) := by decide +kernel
theorem dX5_goes_60 : decode cX5_goes 60 = .ok (.return_, 1) := by decide +kernel
theorem dX5_goesFor_0 : decode cX5_goesFor 0 = .ok (.iconst 0, 1) := by decide +kernel
theorem dX5_goesFor_1 : decode cX5_goesFor 1 = .ok (.istore_n 2, 1) := by decide +kernel
theorem dX5_goesFor_2 : decode cX5_goesFor 2 = .ok (.iload_n 2, 1) := by decide +kernel
theorem dX5_goesFor_3 : decode cX5_goesFor 3 = .ok (.iload_n 1, 1) := by decide +kernel
theorem dX5_goesFor_4 : decode cX5_goesFor 4 = .ok (.if_icmp .ge 13, 3) := by decide +kernel
theorem dX5_goesFor_7 : decode cX5_goesFor 7 = .ok (.aload_n 0, 1) := by decide +kernel
theorem dX5_goesFor_8 : decode cX5_goesFor 8 = .ok (.invokevirtual 111, 3) := by decide +kernel
theorem dX5_goesFor_11 : decode cX5_goesFor 11 = .ok (.iinc 2 1, 3) := by decide +kernel
theorem dX5_goesFor_14 : decode cX5_goesFor 14 = .ok (.goto (-12), 3) := by decide +kernel
theorem dX5_goesFor_17 : decode cX5_goesFor 17 = .ok (.return_, 1) := by decide +kernel
theorem dX5_go_0 : decode cX5_go 0 = .ok (.iload_n 1, 1) := by decide +kernel
theorem dX5_go_1 : decode cX5_go 1 = .ok (.iconst 1, 1) := by decide +kernel
theorem dX5_go_2 : decode cX5_go 2 = .ok (.bipush 60, 2) := by decide +kernel
theorem dX5_go_4 : decode cX5_go 4 = .ok (.invokestatic 40, 3) := by decide +kernel
theorem dX5_go_7 : decode cX5_go 7 = .ok (.ifCond .ne 10, 3) := by decide +kernel
theorem dX5_go_10 : decode cX5_go 10 = .ok (.aload_n 0, 1) := by decide +kernel
theorem dX5_go_11 : decode cX5_go 11 = .ok (.ldc 34, 2) := by decide +kernel
theorem dX5_go_13 : decode cX5_go 13 = .ok (.invokevirtual 36, 3) := by decide +kernel
theorem dX5_go_16 : decode cX5_go 16 = .ok (.ireturn, 1) := by decide +kernel
theorem dX5_go_17 : decode cX5_go 17 = .ok (.aload_n 0, 1) := by decide +kernel
theorem dX5_go_18 : decode cX5_go 18 = .ok (.getfield 9, 3) := by decide +kernel
theorem dX5_go_21 : decode cX5_go 21 = .ok (.iconst 0, 1) := by decide +kernel
theorem dX5_go_22 : decode cX5_go 22 = .ok (.iaload, 1) := by decide +kernel
theorem dX5_go_23 : decode cX5_go 23 = .ok (.iload_n 1, 1) := by decide +kernel
theorem dX5_go_24 : decode cX5_go 24 = .ok (.iadd, 1) := by decide +kernel
theorem dX5_go_25 : decode cX5_go 25 = .ok (.ldc 89, 2) := by decide +kernel
theorem dX5_go_27 : decode cX5_go 27 = .ok (.if_icmp .le 10, 3) := by decide +kernel
theorem dX5_go_30 : decode cX5_go 30 = .ok (.aload_n 0, 1) := by decide +kernel
theorem dX5_go_31 : decode cX5_go 31 = .ok (.ldc 94, 2) := by decide +kernel
theorem dX5_go_33 : decode cX5_go 33 = .ok (.invokevirtual 36, 3) := by decide +kernel
theorem dX5_go_36 : decode cX5_go 36 = .ok (.ireturn, 1) := by decide +kernel
theorem dX5_go_37 : decode cX5_go 37 = .ok (.aload_n 0, 1) := by decide +kernel
theorem dX5_go_38 : decode cX5_go 38 = .ok (.iload_n 1, 1) := by decide +kernel
theorem dX5_go_39 : decode cX5_go 39 = .ok (.invokevirtual 114, 3) := by decide +kernel
theorem dX5_go_42 : decode cX5_go 42 = .ok (.aload_n 0, 1) := by decide +kernel
theorem dX5_go_43 : decode cX5_go 43 = .ok (.getfield 9, 3) := by decide +kernel
theorem dX5_go_46 : decode cX5_go 46 = .ok (.iconst 1, 1) := by decide +kernel
theorem dX5_go_47 : decode cX5_go 47 = .ok (.iaload, 1) := by decide +kernel
theorem dX5_go_48 : decode cX5_go 48 = .ok (.ireturn, 1) := by decide +kernel
theorem dX5_wouldSplit_0 : decode cX5_wouldSplit 0 = .ok (.iconst 0, 1) := by decide +kernel
theorem dX5_wouldSplit_1 : decode cX5_wouldSplit 1 = .ok (.istore_n 1, 1) := by decide +kernel
theorem dX5_wouldSplit_2 : decode cX5_wouldSplit 2 = .ok (.iconst 0, 1) := by decide +kernel
theorem dX5_wouldSplit_3 : decode cX5_wouldSplit 3 = .ok (.istore_n 2, 1) := by decide +kernel
theorem dX5_wouldSplit_4 : decode cX5_wouldSplit 4 = .ok (.iload_n 2, 1) := by decide +kernel
theorem dX5_wouldSplit_5 : decode cX5_wouldSplit 5 = .ok (.aload_n 0, 1) := by decide +kernel
theorem dX5_wouldSplit_6 : decode cX5_wouldSplit 6 = .ok (.getfield 9, 3) := by decide +kernel
theorem dX5_wouldSplit_9 : decode cX5_wouldSplit 9 = .ok (.iconst 5, 1) := by decide +kernel
theorem dX5_wouldSplit_10 : decode cX5_wouldSplit 10 = .ok (.iaload, 1) := by decide +kernel
theorem dX5_wouldSplit_11 : decode cX5_wouldSplit 11 = .ok (.if_icmp .ge 41, 3) := by decide +kernel
theorem dX5_wouldSplit_14 : decode cX5_wouldSplit 14 = .ok (.iload_n 1, 1) := by decide +kernel
theorem dX5_wouldSplit_15 : decode cX5_wouldSplit 15 = .ok (.aload_n 0, 1) := by decide +kernel
theorem dX5_wouldSplit_16 : decode cX5_wouldSplit 16 = .ok (.iload_n 2, 1) := by decide +kernel
theorem dX5_wouldSplit_17 : decode cX5_wouldSplit 17 = .ok (.invokevirtual 104, 3) := by decide +kernel
theorem dX5_wouldSplit_20 : decode cX5_wouldSplit 20 = .ok (.ifCond .eq 23, 3) := by decide +kernel
theorem dX5_wouldSplit_23 : decode cX5_wouldSplit 23 = .ok (.aload_n 0, 1) := by decide +kernel
theorem dX5_wouldSplit_24 : decode cX5_wouldSplit 24 = .ok (.getfield 9, 3) := by decide +kernel
theorem dX5_wouldSplit_27 : decode cX5_wouldSplit 27 = .ok (.iconst 1, 1) := by decide +kernel
theorem dX5_wouldSplit_28 : decode cX5_wouldSplit 28 = .ok (.iaload, 1) := by decide +kernel
theorem dX5_wouldSplit_29 : decode cX5_wouldSplit 29 = .ok (.aload_n 0, 1) := by decide +kernel
theorem dX5_wouldSplit_30 : decode cX5_wouldSplit 30 = .ok (.iload_n 2, 1) := by decide +kernel
theorem dX5_wouldSplit_31 : decode cX5_wouldSplit 31 = .ok (.invokevirtual 71, 3) := by decide +kernel
theorem dX5_wouldSplit_34 : decode cX5_wouldSplit 34 = .ok (.if_icmp .ge 9, 3) := by decide +kernel
theorem dX5_wouldSplit_37 : decode cX5_wouldSplit 37 = .ok (.iconst 1, 1) := by decide +kernel
theorem dX5_wouldSplit_38 : decode cX5_wouldSplit 38 = .ok (.iload_n 2, 1) := by decide +kernel
theorem dX5_wouldSplit_39 : decode cX5_wouldSplit 39 = .ok (.ishl, 1) := by decide +kernel
theorem dX5_wouldSplit_40 : decode cX5_wouldSplit 40 = .ok (.goto 4, 3) := by decide +kernel
theorem dX5_wouldSplit_43 : decode cX5_wouldSplit 43 = .ok (.iconst 0, 1) := by decide +kernel
theorem dX5_wouldSplit_44 : decode cX5_wouldSplit 44 = .ok (.ior, 1) := by decide +kernel
theorem dX5_wouldSplit_45 : decode cX5_wouldSplit 45 = .ok (.istore_n 1, 1) := by decide +kernel
theorem dX5_wouldSplit_46 : decode cX5_wouldSplit 46 = .ok (.iinc 2 1, 3) := by decide +kernel
theorem dX5_wouldSplit_49 : decode cX5_wouldSplit 49 = .ok (.goto (-45), 3) := by decide +kernel
theorem dX5_wouldSplit_52 : decode cX5_wouldSplit 52 = .ok (.iload_n 1, 1) := by decide +kernel
theorem dX5_wouldSplit_53 : decode cX5_wouldSplit 53 = .ok (.ireturn, 1) := by decide +kernel
theorem dX5_allGive_0 : decode cX5_allGive 0 = .ok (.iconst 0, 1) := by decide +kernel
theorem dX5_allGive_1 : decode cX5_allGive 1 = .ok (.istore_n 1, 1) := by decide +kernel
theorem dX5_allGive_2 : decode cX5_allGive 2 = .ok (.iconst 0, 1) := by decide +kernel
theorem dX5_allGive_3 : decode cX5_allGive 3 = .ok (.istore_n 2, 1) := by decide +kernel
theorem dX5_allGive_4 : decode cX5_allGive 4 = .ok (.iload_n 2, 1) := by decide +kernel
theorem dX5_allGive_5 : decode cX5_allGive 5 = .ok (.aload_n 0, 1) := by decide +kernel
theorem dX5_allGive_6 : decode cX5_allGive 6 = .ok (.getfield 9, 3) := by decide +kernel
theorem dX5_allGive_9 : decode cX5_allGive 9 = .ok (.iconst 5, 1) := by decide +kernel
theorem dX5_allGive_10 : decode cX5_allGive 10 = .ok (.iaload, 1) := by decide +kernel
theorem dX5_allGive_11 : decode cX5_allGive 11 = .ok (.if_icmp .ge 17, 3) := by decide +kernel
theorem dX5_allGive_14 : decode cX5_allGive 14 = .ok (.iload_n 1, 1) := by decide +kernel
theorem dX5_allGive_15 : decode cX5_allGive 15 = .ok (.aload_n 0, 1) := by decide +kernel
theorem dX5_allGive_16 : decode cX5_allGive 16 = .ok (.iload_n 2, 1) := by decide +kernel
theorem dX5_allGive_17 : decode cX5_allGive 17 = .ok (.invokevirtual 83, 3) := by decide +kernel
theorem dX5_allGive_20 : decode cX5_allGive 20 = .ok (.iadd, 1) := by decide +kernel
theorem dX5_allGive_21 : decode cX5_allGive 21 = .ok (.istore_n 1, 1) := by decide +kernel
theorem dX5_allGive_22 : decode cX5_allGive 22 = .ok (.iinc 2 1, 3) := by decide +kernel
theorem dX5_allGive_25 : decode cX5_allGive 25 = .ok (.goto (-21), 3) := by decide +kernel
theorem dX5_allGive_28 : decode cX5_allGive 28 = .ok (.iload_n 1, 1) := by decide +kernel
theorem dX5_allGive_29 : decode cX5_allGive 29 = .ok (.ireturn, 1) := by decide +kernel
theorem dX5_finest_0 : decode cX5_finest 0 = .ok (.iconst (-1), 1) := by decide +kernel
theorem dX5_finest_1 : decode cX5_finest 1 = .ok (.istore_n 1, 1) := by decide +kernel
theorem dX5_finest_2 : decode cX5_finest 2 = .ok (.iconst 0, 1) := by decide +kernel
theorem dX5_finest_3 : decode cX5_finest 3 = .ok (.istore_n 2, 1) := by decide +kernel
theorem dX5_finest_4 : decode cX5_finest 4 = .ok (.iload_n 2, 1) := by decide +kernel
theorem dX5_finest_5 : decode cX5_finest 5 = .ok (.aload_n 0, 1) := by decide +kernel
theorem dX5_finest_6 : decode cX5_finest 6 = .ok (.getfield 9, 3) := by decide +kernel
theorem dX5_finest_9 : decode cX5_finest 9 = .ok (.iconst 5, 1) := by decide +kernel
theorem dX5_finest_10 : decode cX5_finest 10 = .ok (.iaload, 1) := by decide +kernel
theorem dX5_finest_11 : decode cX5_finest 11 = .ok (.if_icmp .ge 32, 3) := by decide +kernel
theorem dX5_finest_14 : decode cX5_finest 14 = .ok (.iload_n 1, 1) := by decide +kernel
theorem dX5_finest_15 : decode cX5_finest 15 = .ok (.ifCond .lt 16, 3) := by decide +kernel
theorem dX5_finest_18 : decode cX5_finest 18 = .ok (.aload_n 0, 1) := by decide +kernel
theorem dX5_finest_19 : decode cX5_finest 19 = .ok (.iload_n 2, 1) := by decide +kernel
theorem dX5_finest_20 : decode cX5_finest 20 = .ok (.invokevirtual 83, 3) := by decide +kernel
theorem dX5_finest_23 : decode cX5_finest 23 = .ok (.aload_n 0, 1) := by decide +kernel
theorem dX5_finest_24 : decode cX5_finest 24 = .ok (.iload_n 1, 1) := by decide +kernel
theorem dX5_finest_25 : decode cX5_finest 25 = .ok (.invokevirtual 83, 3) := by decide +kernel
theorem dX5_finest_28 : decode cX5_finest 28 = .ok (.if_icmp .le 7, 3) := by decide +kernel
theorem dX5_finest_31 : decode cX5_finest 31 = .ok (.iload_n 2, 1) := by decide +kernel
theorem dX5_finest_32 : decode cX5_finest 32 = .ok (.goto 4, 3) := by decide +kernel
theorem dX5_finest_35 : decode cX5_finest 35 = .ok (.iload_n 1, 1) := by decide +kernel
theorem dX5_finest_36 : decode cX5_finest 36 = .ok (.istore_n 1, 1) := by decide +kernel
theorem dX5_finest_37 : decode cX5_finest 37 = .ok (.iinc 2 1, 3) := by decide +kernel
theorem dX5_finest_40 : decode cX5_finest 40 = .ok (.goto (-36), 3) := by decide +kernel
theorem dX5_finest_43 : decode cX5_finest 43 = .ok (.iload_n 1, 1) := by decide +kernel
theorem dX5_finest_44 : decode cX5_finest 44 = .ok (.ireturn, 1) := by decide +kernel
theorem dX5_now_0 : decode cX5_now 0 = .ok (.iload_n 1, 1) := by decide +kernel
theorem dX5_now_1 : decode cX5_now 1 = .ok (.tableswitch 90 0 7 #[47, 47, 56, 63, 69, 75, 80, 85], 47) := by decide +kernel
theorem dX5_now_48 : decode cX5_now 48 = .ok (.aload_n 0, 1) := by decide +kernel
theorem dX5_now_49 : decode cX5_now 49 = .ok (.getfield 9, 3) := by decide +kernel
theorem dX5_now_52 : decode cX5_now 52 = .ok (.iconst 0, 1) := by decide +kernel
theorem dX5_now_53 : decode cX5_now 53 = .ok (.iload_n 1, 1) := by decide +kernel
theorem dX5_now_54 : decode cX5_now 54 = .ok (.iadd, 1) := by decide +kernel
theorem dX5_now_55 : decode cX5_now 55 = .ok (.iaload, 1) := by decide +kernel
theorem dX5_now_56 : decode cX5_now 56 = .ok (.ireturn, 1) := by decide +kernel
theorem dX5_now_57 : decode cX5_now 57 = .ok (.aload_n 0, 1) := by decide +kernel
theorem dX5_now_58 : decode cX5_now 58 = .ok (.getfield 9, 3) := by decide +kernel
theorem dX5_now_61 : decode cX5_now 61 = .ok (.iconst 3, 1) := by decide +kernel
theorem dX5_now_62 : decode cX5_now 62 = .ok (.iaload, 1) := by decide +kernel
theorem dX5_now_63 : decode cX5_now 63 = .ok (.ireturn, 1) := by decide +kernel
theorem dX5_now_64 : decode cX5_now 64 = .ok (.aload_n 0, 1) := by decide +kernel
theorem dX5_now_65 : decode cX5_now 65 = .ok (.iconst 3, 1) := by decide +kernel
theorem dX5_now_66 : decode cX5_now 66 = .ok (.invokevirtual 117, 3) := by decide +kernel
theorem dX5_now_69 : decode cX5_now 69 = .ok (.ireturn, 1) := by decide +kernel
theorem dX5_now_70 : decode cX5_now 70 = .ok (.aload_n 0, 1) := by decide +kernel
theorem dX5_now_71 : decode cX5_now 71 = .ok (.iconst 4, 1) := by decide +kernel
theorem dX5_now_72 : decode cX5_now 72 = .ok (.invokevirtual 117, 3) := by decide +kernel
theorem dX5_now_75 : decode cX5_now 75 = .ok (.ireturn, 1) := by decide +kernel
theorem dX5_now_76 : decode cX5_now 76 = .ok (.aload_n 0, 1) := by decide +kernel
theorem dX5_now_77 : decode cX5_now 77 = .ok (.invokevirtual 120, 3) := by decide +kernel
theorem dX5_now_80 : decode cX5_now 80 = .ok (.ireturn, 1) := by decide +kernel
theorem dX5_now_81 : decode cX5_now 81 = .ok (.aload_n 0, 1) := by decide +kernel
theorem dX5_now_82 : decode cX5_now 82 = .ok (.invokevirtual 123, 3) := by decide +kernel
theorem dX5_now_85 : decode cX5_now 85 = .ok (.ireturn, 1) := by decide +kernel
theorem dX5_now_86 : decode cX5_now 86 = .ok (.aload_n 0, 1) := by decide +kernel
theorem dX5_now_87 : decode cX5_now 87 = .ok (.invokevirtual 126, 3) := by decide +kernel
theorem dX5_now_90 : decode cX5_now 90 = .ok (.ireturn, 1) := by decide +kernel
theorem dX5_now_91 : decode cX5_now 91 = .ok (.aload_n 0, 1) := by decide +kernel
theorem dX5_now_92 : decode cX5_now 92 = .ok (.ldc 34, 2) := by decide +kernel
theorem dX5_now_94 : decode cX5_now 94 = .ok (.invokevirtual 36, 3) := by decide +kernel
theorem dX5_now_97 : decode cX5_now 97 = .ok (.ireturn, 1) := by decide +kernel
theorem dX5_thinks_0 : decode cX5_thinks 0 = .ok (.aload_n 0, 1) := by decide +kernel
theorem dX5_thinks_1 : decode cX5_thinks 1 = .ok (.getfield 9, 3) := by decide +kernel
theorem dX5_thinks_4 : decode cX5_thinks 4 = .ok (.aload_n 0, 1) := by decide +kernel
theorem dX5_thinks_5 : decode cX5_thinks 5 = .ok (.getfield 16, 3) := by decide +kernel
theorem dX5_thinks_8 : decode cX5_thinks 8 = .ok (.invokestatic 129, 3) := by decide +kernel
theorem dX5_thinks_11 : decode cX5_thinks 11 = .ok (.return_, 1) := by decide +kernel
theorem dX5_putsBack_0 : decode cX5_putsBack 0 = .ok (.aload_n 0, 1) := by decide +kernel
theorem dX5_putsBack_1 : decode cX5_putsBack 1 = .ok (.getfield 16, 3) := by decide +kernel
theorem dX5_putsBack_4 : decode cX5_putsBack 4 = .ok (.aload_n 0, 1) := by decide +kernel
theorem dX5_putsBack_5 : decode cX5_putsBack 5 = .ok (.getfield 9, 3) := by decide +kernel
theorem dX5_putsBack_8 : decode cX5_putsBack 8 = .ok (.invokestatic 129, 3) := by decide +kernel
theorem dX5_putsBack_11 : decode cX5_putsBack 11 = .ok (.return_, 1) := by decide +kernel
theorem dX5_ahead_0 : decode cX5_ahead 0 = .ok (.aload_n 0, 1) := by decide +kernel
theorem dX5_ahead_1 : decode cX5_ahead 1 = .ok (.iload_n 1, 1) := by decide +kernel
theorem dX5_ahead_2 : decode cX5_ahead 2 = .ok (.invokevirtual 68, 3) := by decide +kernel
theorem dX5_ahead_5 : decode cX5_ahead 5 = .ok (.ifCond .eq 28, 3) := by decide +kernel
theorem dX5_ahead_8 : decode cX5_ahead 8 = .ok (.iload_n 2, 1) := by decide +kernel
theorem dX5_ahead_9 : decode cX5_ahead 9 = .ok (.iconst 1, 1) := by decide +kernel
theorem dX5_ahead_10 : decode cX5_ahead 10 = .ok (.iconst 3, 1) := by decide +kernel
theorem dX5_ahead_11 : decode cX5_ahead 11 = .ok (.invokestatic 40, 3) := by decide +kernel
theorem dX5_ahead_14 : decode cX5_ahead 14 = .ok (.ifCond .ne 9, 3) := by decide +kernel
theorem dX5_ahead_17 : decode cX5_ahead 17 = .ok (.iload_n 2, 1) := by decide +kernel
theorem dX5_ahead_18 : decode cX5_ahead 18 = .ok (.bipush 10, 2) := by decide +kernel
theorem dX5_ahead_20 : decode cX5_ahead 20 = .ok (.if_icmp .ne 13, 3) := by decide +kernel
theorem dX5_ahead_23 : decode cX5_ahead 23 = .ok (.iload_n 3, 1) := by decide +kernel
theorem dX5_ahead_24 : decode cX5_ahead 24 = .ok (.iconst 0, 1) := by decide +kernel
theorem dX5_ahead_25 : decode cX5_ahead 25 = .ok (.bipush 100, 2) := by decide +kernel
theorem dX5_ahead_27 : decode cX5_ahead 27 = .ok (.invokestatic 40, 3) := by decide +kernel
theorem dX5_ahead_30 : decode cX5_ahead 30 = .ok (.ifCond .ne 10, 3) := by decide +kernel
theorem dX5_ahead_33 : decode cX5_ahead 33 = .ok (.aload_n 0, 1) := by decide +kernel
theorem dX5_ahead_34 : decode cX5_ahead 34 = .ok (.ldc 34, 2) := by decide +kernel
theorem dX5_ahead_36 : decode cX5_ahead 36 = .ok (.invokevirtual 36, 3) := by decide +kernel
theorem dX5_ahead_39 : decode cX5_ahead 39 = .ok (.ireturn, 1) := by decide +kernel
theorem dX5_ahead_40 : decode cX5_ahead 40 = .ok (.aload_n 0, 1) := by decide +kernel
theorem dX5_ahead_41 : decode cX5_ahead 41 = .ok (.invokevirtual 133, 3) := by decide +kernel
theorem dX5_ahead_44 : decode cX5_ahead 44 = .ok (.aload_n 0, 1) := by decide +kernel
theorem dX5_ahead_45 : decode cX5_ahead 45 = .ok (.iload_n 3, 1) := by decide +kernel
theorem dX5_ahead_46 : decode cX5_ahead 46 = .ok (.invokevirtual 114, 3) := by decide +kernel
theorem dX5_ahead_49 : decode cX5_ahead 49 = .ok (.iload_n 2, 1) := by decide +kernel
theorem dX5_ahead_50 : decode cX5_ahead 50 = .ok (.bipush 10, 2) := by decide +kernel
theorem dX5_ahead_52 : decode cX5_ahead 52 = .ok (.if_icmp .ne 11, 3) := by decide +kernel
theorem dX5_ahead_55 : decode cX5_ahead 55 = .ok (.aload_n 0, 1) := by decide +kernel
theorem dX5_ahead_56 : decode cX5_ahead 56 = .ok (.iload_n 1, 1) := by decide +kernel
theorem dX5_ahead_57 : decode cX5_ahead 57 = .ok (.invokevirtual 83, 3) := by decide +kernel
theorem dX5_ahead_60 : decode cX5_ahead 60 = .ok (.goto 9, 3) := by decide +kernel
theorem dX5_ahead_63 : decode cX5_ahead 63 = .ok (.aload_n 0, 1) := by decide +kernel
theorem dX5_ahead_64 : decode cX5_ahead 64 = .ok (.iload_n 1, 1) := by decide +kernel
theorem dX5_ahead_65 : decode cX5_ahead 65 = .ok (.iload_n 2, 1) := by decide +kernel
theorem dX5_ahead_66 : decode cX5_ahead 66 = .ok (.invokevirtual 44, 3) := by decide +kernel
theorem dX5_ahead_69 : decode cX5_ahead 69 = .ok (.istore 4, 2) := by decide +kernel
theorem dX5_ahead_71 : decode cX5_ahead 71 = .ok (.aload_n 0, 1) := by decide +kernel
theorem dX5_ahead_72 : decode cX5_ahead 72 = .ok (.invokevirtual 136, 3) := by decide +kernel
theorem dX5_ahead_75 : decode cX5_ahead 75 = .ok (.iload 4, 2) := by decide +kernel
theorem dX5_ahead_77 : decode cX5_ahead 77 = .ok (.ireturn, 1) := by decide +kernel
theorem dX5_mood_0 : decode cX5_mood 0 = .ok (.iload_n 1, 1) := by decide +kernel
theorem dX5_mood_1 : decode cX5_mood 1 = .ok (.iconst 0, 1) := by decide +kernel
theorem dX5_mood_2 : decode cX5_mood 2 = .ok (.bipush 100, 2) := by decide +kernel
theorem dX5_mood_4 : decode cX5_mood 4 = .ok (.invokestatic 40, 3) := by decide +kernel
theorem dX5_mood_7 : decode cX5_mood 7 = .ok (.ifCond .ne 10, 3) := by decide +kernel
theorem dX5_mood_10 : decode cX5_mood 10 = .ok (.aload_n 0, 1) := by decide +kernel
theorem dX5_mood_11 : decode cX5_mood 11 = .ok (.ldc 34, 2) := by decide +kernel
theorem dX5_mood_13 : decode cX5_mood 13 = .ok (.invokevirtual 36, 3) := by decide +kernel
theorem dX5_mood_16 : decode cX5_mood 16 = .ok (.ireturn, 1) := by decide +kernel
theorem dX5_mood_17 : decode cX5_mood 17 = .ok (.aload_n 0, 1) := by decide +kernel
theorem dX5_mood_18 : decode cX5_mood 18 = .ok (.invokevirtual 133, 3) := by decide +kernel
theorem dX5_mood_21 : decode cX5_mood 21 = .ok (.aload_n 0, 1) := by decide +kernel
theorem dX5_mood_22 : decode cX5_mood 22 = .ok (.iload_n 1, 1) := by decide +kernel
theorem dX5_mood_23 : decode cX5_mood 23 = .ok (.invokevirtual 114, 3) := by decide +kernel
theorem dX5_mood_26 : decode cX5_mood 26 = .ok (.aload_n 0, 1) := by decide +kernel
theorem dX5_mood_27 : decode cX5_mood 27 = .ok (.getfield 9, 3) := by decide +kernel
theorem dX5_mood_30 : decode cX5_mood 30 = .ok (.iconst 1, 1) := by decide +kernel
theorem dX5_mood_31 : decode cX5_mood 31 = .ok (.iaload, 1) := by decide +kernel
theorem dX5_mood_32 : decode cX5_mood 32 = .ok (.istore_n 2, 1) := by decide +kernel
theorem dX5_mood_33 : decode cX5_mood 33 = .ok (.aload_n 0, 1) := by decide +kernel
theorem dX5_mood_34 : decode cX5_mood 34 = .ok (.invokevirtual 136, 3) := by decide +kernel
theorem dX5_mood_37 : decode cX5_mood 37 = .ok (.iload_n 2, 1) := by decide +kernel
theorem dX5_mood_38 : decode cX5_mood 38 = .ok (.ireturn, 1) := by decide +kernel
theorem dX5_splits_0 : decode cX5_splits 0 = .ok (.aload_n 0, 1) := by decide +kernel
theorem dX5_splits_1 : decode cX5_splits 1 = .ok (.iload_n 1, 1) := by decide +kernel
theorem dX5_splits_2 : decode cX5_splits 2 = .ok (.invokevirtual 68, 3) := by decide +kernel
theorem dX5_splits_5 : decode cX5_splits 5 = .ok (.ifCond .ne 10, 3) := by decide +kernel
theorem dX5_splits_8 : decode cX5_splits 8 = .ok (.aload_n 0, 1) := by decide +kernel
theorem dX5_splits_9 : decode cX5_splits 9 = .ok (.ldc 34, 2) := by decide +kernel
theorem dX5_splits_11 : decode cX5_splits 11 = .ok (.invokevirtual 36, 3) := by decide +kernel
theorem dX5_splits_14 : decode cX5_splits 14 = .ok (.ireturn, 1) := by decide +kernel
theorem dX5_splits_15 : decode cX5_splits 15 = .ok (.aload_n 0, 1) := by decide +kernel
theorem dX5_splits_16 : decode cX5_splits 16 = .ok (.invokevirtual 133, 3) := by decide +kernel
theorem dX5_splits_19 : decode cX5_splits 19 = .ok (.iconst 0, 1) := by decide +kernel
theorem dX5_splits_20 : decode cX5_splits 20 = .ok (.istore_n 2, 1) := by decide +kernel
theorem dX5_splits_21 : decode cX5_splits 21 = .ok (.iload_n 2, 1) := by decide +kernel
theorem dX5_splits_22 : decode cX5_splits 22 = .ok (.sipush 200, 3) := by decide +kernel
theorem dX5_splits_25 : decode cX5_splits 25 = .ok (.if_icmp .gt 22, 3) := by decide +kernel
theorem dX5_splits_28 : decode cX5_splits 28 = .ok (.aload_n 0, 1) := by decide +kernel
theorem dX5_splits_29 : decode cX5_splits 29 = .ok (.iload_n 1, 1) := by decide +kernel
theorem dX5_splits_30 : decode cX5_splits 30 = .ok (.iconst 3, 1) := by decide +kernel
theorem dX5_splits_31 : decode cX5_splits 31 = .ok (.invokevirtual 44, 3) := by decide +kernel
theorem dX5_splits_34 : decode cX5_splits 34 = .ok (.ifCond .ne 13, 3) := by decide +kernel
theorem dX5_splits_37 : decode cX5_splits 37 = .ok (.aload_n 0, 1) := by decide +kernel
theorem dX5_splits_38 : decode cX5_splits 38 = .ok (.invokevirtual 111, 3) := by decide +kernel
theorem dX5_splits_41 : decode cX5_splits 41 = .ok (.iinc 2 1, 3) := by decide +kernel
theorem dX5_splits_44 : decode cX5_splits 44 = .ok (.goto (-23), 3) := by decide +kernel
theorem dX5_splits_47 : decode cX5_splits 47 = .ok (.aload_n 0, 1) := by decide +kernel
theorem dX5_splits_48 : decode cX5_splits 48 = .ok (.invokevirtual 136, 3) := by decide +kernel
theorem dX5_splits_51 : decode cX5_splits 51 = .ok (.iload_n 2, 1) := by decide +kernel
theorem dX5_splits_52 : decode cX5_splits 52 = .ok (.sipush 200, 3) := by decide +kernel
theorem dX5_splits_55 : decode cX5_splits 55 = .ok (.if_icmp .le 12, 3) := by decide +kernel
theorem dX5_splits_58 : decode cX5_splits 58 = .ok (.aload_n 0, 1) := by decide +kernel
theorem dX5_splits_59 : decode cX5_splits 59 = .ok (.ldc 35, 2) := by decide +kernel
theorem dX5_splits_61 : decode cX5_splits 61 = .ok (.invokevirtual 36, 3) := by decide +kernel
theorem dX5_splits_64 : decode cX5_splits 64 = .ok (.goto 4, 3) := by decide +kernel
theorem dX5_splits_67 : decode cX5_splits 67 = .ok (.iload_n 2, 1) := by decide +kernel
theorem dX5_splits_68 : decode cX5_splits 68 = .ok (.ireturn, 1) := by decide +kernel
theorem dX5_ready_0 : decode cX5_ready 0 = .ok (.aload_n 0, 1) := by decide +kernel
theorem dX5_ready_1 : decode cX5_ready 1 = .ok (.iload_n 1, 1) := by decide +kernel
theorem dX5_ready_2 : decode cX5_ready 2 = .ok (.invokevirtual 68, 3) := by decide +kernel
theorem dX5_ready_5 : decode cX5_ready 5 = .ok (.ifCond .eq 14, 3) := by decide +kernel
theorem dX5_ready_8 : decode cX5_ready 8 = .ok (.iload_n 2, 1) := by decide +kernel
theorem dX5_ready_9 : decode cX5_ready 9 = .ok (.iconst 0, 1) := by decide +kernel
theorem dX5_ready_10 : decode cX5_ready 10 = .ok (.sipush 999, 3) := by decide +kernel
theorem dX5_ready_13 : decode cX5_ready 13 = .ok (.invokestatic 40, 3) := by decide +kernel
theorem dX5_ready_16 : decode cX5_ready 16 = .ok (.ifCond .ne 10, 3) := by decide +kernel
theorem dX5_ready_19 : decode cX5_ready 19 = .ok (.aload_n 0, 1) := by decide +kernel
theorem dX5_ready_20 : decode cX5_ready 20 = .ok (.ldc 34, 2) := by decide +kernel
theorem dX5_ready_22 : decode cX5_ready 22 = .ok (.invokevirtual 36, 3) := by decide +kernel
theorem dX5_ready_25 : decode cX5_ready 25 = .ok (.ireturn, 1) := by decide +kernel
theorem dX5_ready_26 : decode cX5_ready 26 = .ok (.aload_n 0, 1) := by decide +kernel
theorem dX5_ready_27 : decode cX5_ready 27 = .ok (.invokevirtual 133, 3) := by decide +kernel
theorem dX5_ready_30 : decode cX5_ready 30 = .ok (.iconst 0, 1) := by decide +kernel
theorem dX5_ready_31 : decode cX5_ready 31 = .ok (.istore_n 3, 1) := by decide +kernel
theorem dX5_ready_32 : decode cX5_ready 32 = .ok (.iload_n 3, 1) := by decide +kernel
theorem dX5_ready_33 : decode cX5_ready 33 = .ok (.sipush 200, 3) := by decide +kernel
theorem dX5_ready_36 : decode cX5_ready 36 = .ok (.if_icmp .gt 22, 3) := by decide +kernel
theorem dX5_ready_39 : decode cX5_ready 39 = .ok (.aload_n 0, 1) := by decide +kernel
theorem dX5_ready_40 : decode cX5_ready 40 = .ok (.iload_n 1, 1) := by decide +kernel
theorem dX5_ready_41 : decode cX5_ready 41 = .ok (.invokevirtual 83, 3) := by decide +kernel
theorem dX5_ready_44 : decode cX5_ready 44 = .ok (.iload_n 2, 1) := by decide +kernel
theorem dX5_ready_45 : decode cX5_ready 45 = .ok (.if_icmp .ge 13, 3) := by decide +kernel
theorem dX5_ready_48 : decode cX5_ready 48 = .ok (.aload_n 0, 1) := by decide +kernel
theorem dX5_ready_49 : decode cX5_ready 49 = .ok (.invokevirtual 111, 3) := by decide +kernel
theorem dX5_ready_52 : decode cX5_ready 52 = .ok (.iinc 3 1, 3) := by decide +kernel
theorem dX5_ready_55 : decode cX5_ready 55 = .ok (.goto (-23), 3) := by decide +kernel
theorem dX5_ready_58 : decode cX5_ready 58 = .ok (.aload_n 0, 1) := by decide +kernel
theorem dX5_ready_59 : decode cX5_ready 59 = .ok (.invokevirtual 136, 3) := by decide +kernel
theorem dX5_ready_62 : decode cX5_ready 62 = .ok (.iload_n 3, 1) := by decide +kernel
theorem dX5_ready_63 : decode cX5_ready 63 = .ok (.sipush 200, 3) := by decide +kernel
theorem dX5_ready_66 : decode cX5_ready 66 = .ok (.if_icmp .le 12, 3) := by decide +kernel
theorem dX5_ready_69 : decode cX5_ready 69 = .ok (.aload_n 0, 1) := by decide +kernel
theorem dX5_ready_70 : decode cX5_ready 70 = .ok (.ldc 35, 2) := by decide +kernel
theorem dX5_ready_72 : decode cX5_ready 72 = .ok (.invokevirtual 36, 3) := by decide +kernel
theorem dX5_ready_75 : decode cX5_ready 75 = .ok (.goto 4, 3) := by decide +kernel
theorem dX5_ready_78 : decode cX5_ready 78 = .ok (.iload_n 3, 1) := by decide +kernel
theorem dX5_ready_79 : decode cX5_ready 79 = .ok (.ireturn, 1) := by decide +kernel
theorem dX5_peace_0 : decode cX5_peace 0 = .ok (.iload_n 1, 1) := by decide +kernel
theorem dX5_peace_1 : decode cX5_peace 1 = .ok (.iconst 0, 1) := by decide +kernel
theorem dX5_peace_2 : decode cX5_peace 2 = .ok (.bipush 99, 2) := by decide +kernel
theorem dX5_peace_4 : decode cX5_peace 4 = .ok (.invokestatic 40, 3) := by decide +kernel
theorem dX5_peace_7 : decode cX5_peace 7 = .ok (.ifCond .ne 10, 3) := by decide +kernel
theorem dX5_peace_10 : decode cX5_peace 10 = .ok (.aload_n 0, 1) := by decide +kernel
theorem dX5_peace_11 : decode cX5_peace 11 = .ok (.ldc 34, 2) := by decide +kernel
theorem dX5_peace_13 : decode cX5_peace 13 = .ok (.invokevirtual 36, 3) := by decide +kernel
theorem dX5_peace_16 : decode cX5_peace 16 = .ok (.ireturn, 1) := by decide +kernel
theorem dX5_peace_17 : decode cX5_peace 17 = .ok (.aload_n 0, 1) := by decide +kernel
theorem dX5_peace_18 : decode cX5_peace 18 = .ok (.invokevirtual 133, 3) := by decide +kernel
theorem dX5_peace_21 : decode cX5_peace 21 = .ok (.iconst 0, 1) := by decide +kernel
theorem dX5_peace_22 : decode cX5_peace 22 = .ok (.istore_n 2, 1) := by decide +kernel
theorem dX5_peace_23 : decode cX5_peace 23 = .ok (.iload_n 2, 1) := by decide +kernel
theorem dX5_peace_24 : decode cX5_peace 24 = .ok (.sipush 200, 3) := by decide +kernel
theorem dX5_peace_27 : decode cX5_peace 27 = .ok (.if_icmp .gt 23, 3) := by decide +kernel
theorem dX5_peace_30 : decode cX5_peace 30 = .ok (.aload_n 0, 1) := by decide +kernel
theorem dX5_peace_31 : decode cX5_peace 31 = .ok (.getfield 9, 3) := by decide +kernel
theorem dX5_peace_34 : decode cX5_peace 34 = .ok (.iconst 1, 1) := by decide +kernel
theorem dX5_peace_35 : decode cX5_peace 35 = .ok (.iaload, 1) := by decide +kernel
theorem dX5_peace_36 : decode cX5_peace 36 = .ok (.iload_n 1, 1) := by decide +kernel
theorem dX5_peace_37 : decode cX5_peace 37 = .ok (.if_icmp .le 13, 3) := by decide +kernel
theorem dX5_peace_40 : decode cX5_peace 40 = .ok (.aload_n 0, 1) := by decide +kernel
theorem dX5_peace_41 : decode cX5_peace 41 = .ok (.invokevirtual 111, 3) := by decide +kernel
theorem dX5_peace_44 : decode cX5_peace 44 = .ok (.iinc 2 1, 3) := by decide +kernel
theorem dX5_peace_47 : decode cX5_peace 47 = .ok (.goto (-24), 3) := by decide +kernel
theorem dX5_peace_50 : decode cX5_peace 50 = .ok (.aload_n 0, 1) := by decide +kernel
theorem dX5_peace_51 : decode cX5_peace 51 = .ok (.invokevirtual 136, 3) := by decide +kernel
theorem dX5_peace_54 : decode cX5_peace 54 = .ok (.iload_n 2, 1) := by decide +kernel
theorem dX5_peace_55 : decode cX5_peace 55 = .ok (.sipush 200, 3) := by decide +kernel
theorem dX5_peace_58 : decode cX5_peace 58 = .ok (.if_icmp .le 12, 3) := by decide +kernel
theorem dX5_peace_61 : decode cX5_peace 61 = .ok (.aload_n 0, 1) := by decide +kernel
theorem dX5_peace_62 : decode cX5_peace 62 = .ok (.ldc 35, 2) := by decide +kernel
theorem dX5_peace_64 : decode cX5_peace 64 = .ok (.invokevirtual 36, 3) := by decide +kernel
theorem dX5_peace_67 : decode cX5_peace 67 = .ok (.goto 4, 3) := by decide +kernel
theorem dX5_peace_70 : decode cX5_peace 70 = .ok (.iload_n 2, 1) := by decide +kernel
theorem dX5_peace_71 : decode cX5_peace 71 = .ok (.ireturn, 1) := by decide +kernel
theorem dX5_deedFor_0 : decode cX5_deedFor 0 = .ok (.iload_n 1, 1) := by decide +kernel
theorem dX5_deedFor_1 : decode cX5_deedFor 1 = .ok (.iconst 0, 1) := by decide +kernel
theorem dX5_deedFor_2 : decode cX5_deedFor 2 = .ok (.iconst 5, 1) := by decide +kernel
theorem dX5_deedFor_3 : decode cX5_deedFor 3 = .ok (.invokestatic 40, 3) := by decide +kernel
theorem dX5_deedFor_6 : decode cX5_deedFor 6 = .ok (.ifCond .eq 13, 3) := by decide +kernel
theorem dX5_deedFor_9 : decode cX5_deedFor 9 = .ok (.iload_n 2, 1) := by decide +kernel
theorem dX5_deedFor_10 : decode cX5_deedFor 10 = .ok (.iconst 0, 1) := by decide +kernel
theorem dX5_deedFor_11 : decode cX5_deedFor 11 = .ok (.bipush 60, 2) := by decide +kernel
theorem dX5_deedFor_13 : decode cX5_deedFor 13 = .ok (.invokestatic 40, 3) := by decide +kernel
theorem dX5_deedFor_16 : decode cX5_deedFor 16 = .ok (.ifCond .ne 10, 3) := by decide +kernel
theorem dX5_deedFor_19 : decode cX5_deedFor 19 = .ok (.aload_n 0, 1) := by decide +kernel
theorem dX5_deedFor_20 : decode cX5_deedFor 20 = .ok (.ldc 34, 2) := by decide +kernel
theorem dX5_deedFor_22 : decode cX5_deedFor 22 = .ok (.invokevirtual 36, 3) := by decide +kernel
theorem dX5_deedFor_25 : decode cX5_deedFor 25 = .ok (.ireturn, 1) := by decide +kernel
theorem dX5_deedFor_26 : decode cX5_deedFor 26 = .ok (.aload_n 0, 1) := by decide +kernel
theorem dX5_deedFor_27 : decode cX5_deedFor 27 = .ok (.invokevirtual 133, 3) := by decide +kernel
theorem dX5_deedFor_30 : decode cX5_deedFor 30 = .ok (.iconst 0, 1) := by decide +kernel
theorem dX5_deedFor_31 : decode cX5_deedFor 31 = .ok (.istore_n 3, 1) := by decide +kernel
theorem dX5_deedFor_32 : decode cX5_deedFor 32 = .ok (.iconst (-1), 1) := by decide +kernel
theorem dX5_deedFor_33 : decode cX5_deedFor 33 = .ok (.istore 4, 2) := by decide +kernel
theorem dX5_deedFor_35 : decode cX5_deedFor 35 = .ok (.iconst 0, 1) := by decide +kernel
theorem dX5_deedFor_36 : decode cX5_deedFor 36 = .ok (.istore 5, 2) := by decide +kernel
theorem dX5_deedFor_38 : decode cX5_deedFor 38 = .ok (.iload 5, 2) := by decide +kernel
theorem dX5_deedFor_40 : decode cX5_deedFor 40 = .ok (.bipush 12, 2) := by decide +kernel
theorem dX5_deedFor_42 : decode cX5_deedFor 42 = .ok (.if_icmp .ge 65, 3) := by decide +kernel
theorem dX5_deedFor_45 : decode cX5_deedFor 45 = .ok (.aload_n 0, 1) := by decide +kernel
theorem dX5_deedFor_46 : decode cX5_deedFor 46 = .ok (.getfield 9, 3) := by decide +kernel
theorem dX5_deedFor_49 : decode cX5_deedFor 49 = .ok (.bipush 6, 2) := by decide +kernel
theorem dX5_deedFor_51 : decode cX5_deedFor 51 = .ok (.iload_n 1, 1) := by decide +kernel
theorem dX5_deedFor_52 : decode cX5_deedFor 52 = .ok (.iadd, 1) := by decide +kernel
theorem dX5_deedFor_53 : decode cX5_deedFor 53 = .ok (.iload 5, 2) := by decide +kernel
theorem dX5_deedFor_55 : decode cX5_deedFor 55 = .ok (.iastore, 1) := by decide +kernel
theorem dX5_deedFor_56 : decode cX5_deedFor 56 = .ok (.aload_n 0, 1) := by decide +kernel
theorem dX5_deedFor_57 : decode cX5_deedFor 57 = .ok (.iload_n 2, 1) := by decide +kernel
theorem dX5_deedFor_58 : decode cX5_deedFor 58 = .ok (.invokevirtual 114, 3) := by decide +kernel
theorem dX5_deedFor_61 : decode cX5_deedFor 61 = .ok (.aload_n 0, 1) := by decide +kernel
theorem dX5_deedFor_62 : decode cX5_deedFor 62 = .ok (.invokevirtual 123, 3) := by decide +kernel
theorem dX5_deedFor_65 : decode cX5_deedFor 65 = .ok (.istore 6, 2) := by decide +kernel
theorem dX5_deedFor_67 : decode cX5_deedFor 67 = .ok (.aload_n 0, 1) := by decide +kernel
theorem dX5_deedFor_68 : decode cX5_deedFor 68 = .ok (.invokevirtual 136, 3) := by decide +kernel
theorem dX5_deedFor_71 : decode cX5_deedFor 71 = .ok (.iload 6, 2) := by decide +kernel
theorem dX5_deedFor_73 : decode cX5_deedFor 73 = .ok (.iload 4, 2) := by decide +kernel
theorem dX5_deedFor_75 : decode cX5_deedFor 75 = .ok (.if_icmp .le 8, 3) := by decide +kernel
theorem dX5_deedFor_78 : decode cX5_deedFor 78 = .ok (.iload 5, 2) := by decide +kernel
theorem dX5_deedFor_80 : decode cX5_deedFor 80 = .ok (.goto 4, 3) := by decide +kernel
theorem dX5_deedFor_83 : decode cX5_deedFor 83 = .ok (.iload_n 3, 1) := by decide +kernel
theorem dX5_deedFor_84 : decode cX5_deedFor 84 = .ok (.istore_n 3, 1) := by decide +kernel
theorem dX5_deedFor_85 : decode cX5_deedFor 85 = .ok (.iload 6, 2) := by decide +kernel
theorem dX5_deedFor_87 : decode cX5_deedFor 87 = .ok (.iload 4, 2) := by decide +kernel
theorem dX5_deedFor_89 : decode cX5_deedFor 89 = .ok (.if_icmp .le 8, 3) := by decide +kernel
theorem dX5_deedFor_92 : decode cX5_deedFor 92 = .ok (.iload 6, 2) := by decide +kernel
theorem dX5_deedFor_94 : decode cX5_deedFor 94 = .ok (.goto 5, 3) := by decide +kernel
theorem dX5_deedFor_97 : decode cX5_deedFor 97 = .ok (.iload 4, 2) := by decide +kernel
theorem dX5_deedFor_99 : decode cX5_deedFor 99 = .ok (.istore 4, 2) := by decide +kernel
theorem dX5_deedFor_101 : decode cX5_deedFor 101 = .ok (.iinc 5 1, 3) := by decide +kernel
theorem dX5_deedFor_104 : decode cX5_deedFor 104 = .ok (.goto (-66), 3) := by decide +kernel
theorem dX5_deedFor_107 : decode cX5_deedFor 107 = .ok (.iload_n 3, 1) := by decide +kernel
theorem dX5_deedFor_108 : decode cX5_deedFor 108 = .ok (.ireturn, 1) := by decide +kernel
theorem dX5_grudgeFor_0 : decode cX5_grudgeFor 0 = .ok (.aload_n 0, 1) := by decide +kernel
theorem dX5_grudgeFor_1 : decode cX5_grudgeFor 1 = .ok (.iload_n 1, 1) := by decide +kernel
theorem dX5_grudgeFor_2 : decode cX5_grudgeFor 2 = .ok (.invokevirtual 68, 3) := by decide +kernel
theorem dX5_grudgeFor_5 : decode cX5_grudgeFor 5 = .ok (.ifCond .eq 13, 3) := by decide +kernel
theorem dX5_grudgeFor_8 : decode cX5_grudgeFor 8 = .ok (.iload_n 2, 1) := by decide +kernel
theorem dX5_grudgeFor_9 : decode cX5_grudgeFor 9 = .ok (.iconst 0, 1) := by decide +kernel
theorem dX5_grudgeFor_10 : decode cX5_grudgeFor 10 = .ok (.bipush 60, 2) := by decide +kernel
theorem dX5_grudgeFor_12 : decode cX5_grudgeFor 12 = .ok (.invokestatic 40, 3) := by decide +kernel
theorem dX5_grudgeFor_15 : decode cX5_grudgeFor 15 = .ok (.ifCond .ne 10, 3) := by decide +kernel
theorem dX5_grudgeFor_18 : decode cX5_grudgeFor 18 = .ok (.aload_n 0, 1) := by decide +kernel
theorem dX5_grudgeFor_19 : decode cX5_grudgeFor 19 = .ok (.ldc 34, 2) := by decide +kernel
theorem dX5_grudgeFor_21 : decode cX5_grudgeFor 21 = .ok (.invokevirtual 36, 3) := by decide +kernel
theorem dX5_grudgeFor_24 : decode cX5_grudgeFor 24 = .ok (.ireturn, 1) := by decide +kernel
theorem dX5_grudgeFor_25 : decode cX5_grudgeFor 25 = .ok (.aload_n 0, 1) := by decide +kernel
theorem dX5_grudgeFor_26 : decode cX5_grudgeFor 26 = .ok (.invokevirtual 133, 3) := by decide +kernel
theorem dX5_grudgeFor_29 : decode cX5_grudgeFor 29 = .ok (.iconst (-1), 1) := by decide +kernel
theorem dX5_grudgeFor_30 : decode cX5_grudgeFor 30 = .ok (.istore_n 3, 1) := by decide +kernel
theorem dX5_grudgeFor_31 : decode cX5_grudgeFor 31 = .ok (.iconst 0, 1) := by decide +kernel
theorem dX5_grudgeFor_32 : decode cX5_grudgeFor 32 = .ok (.istore 4, 2) := by decide +kernel
theorem dX5_grudgeFor_34 : decode cX5_grudgeFor 34 = .ok (.iload 4, 2) := by decide +kernel
theorem dX5_grudgeFor_36 : decode cX5_grudgeFor 36 = .ok (.bipush 99, 2) := by decide +kernel
theorem dX5_grudgeFor_38 : decode cX5_grudgeFor 38 = .ok (.if_icmp .gt 46, 3) := by decide +kernel
theorem dX5_grudgeFor_41 : decode cX5_grudgeFor 41 = .ok (.iload_n 3, 1) := by decide +kernel
theorem dX5_grudgeFor_42 : decode cX5_grudgeFor 42 = .ok (.ifCond .ge 42, 3) := by decide +kernel
theorem dX5_grudgeFor_45 : decode cX5_grudgeFor 45 = .ok (.aload_n 0, 1) := by decide +kernel
theorem dX5_grudgeFor_46 : decode cX5_grudgeFor 46 = .ok (.getfield 9, 3) := by decide +kernel
theorem dX5_grudgeFor_49 : decode cX5_grudgeFor 49 = .ok (.iconst 1, 1) := by decide +kernel
theorem dX5_grudgeFor_50 : decode cX5_grudgeFor 50 = .ok (.iload 4, 2) := by decide +kernel
theorem dX5_grudgeFor_52 : decode cX5_grudgeFor 52 = .ok (.iastore, 1) := by decide +kernel
theorem dX5_grudgeFor_53 : decode cX5_grudgeFor 53 = .ok (.aload_n 0, 1) := by decide +kernel
theorem dX5_grudgeFor_54 : decode cX5_grudgeFor 54 = .ok (.iload_n 2, 1) := by decide +kernel
theorem dX5_grudgeFor_55 : decode cX5_grudgeFor 55 = .ok (.invokevirtual 114, 3) := by decide +kernel
theorem dX5_grudgeFor_58 : decode cX5_grudgeFor 58 = .ok (.aload_n 0, 1) := by decide +kernel
theorem dX5_grudgeFor_59 : decode cX5_grudgeFor 59 = .ok (.iload_n 1, 1) := by decide +kernel
theorem dX5_grudgeFor_60 : decode cX5_grudgeFor 60 = .ok (.iconst 3, 1) := by decide +kernel
theorem dX5_grudgeFor_61 : decode cX5_grudgeFor 61 = .ok (.invokevirtual 44, 3) := by decide +kernel
theorem dX5_grudgeFor_64 : decode cX5_grudgeFor 64 = .ok (.ifCond .ne 8, 3) := by decide +kernel
theorem dX5_grudgeFor_67 : decode cX5_grudgeFor 67 = .ok (.iload 4, 2) := by decide +kernel
theorem dX5_grudgeFor_69 : decode cX5_grudgeFor 69 = .ok (.goto 4, 3) := by decide +kernel
theorem dX5_grudgeFor_72 : decode cX5_grudgeFor 72 = .ok (.iconst (-1), 1) := by decide +kernel
theorem dX5_grudgeFor_73 : decode cX5_grudgeFor 73 = .ok (.istore_n 3, 1) := by decide +kernel
theorem dX5_grudgeFor_74 : decode cX5_grudgeFor 74 = .ok (.aload_n 0, 1) := by decide +kernel
theorem dX5_grudgeFor_75 : decode cX5_grudgeFor 75 = .ok (.invokevirtual 136, 3) := by decide +kernel
theorem dX5_grudgeFor_78 : decode cX5_grudgeFor 78 = .ok (.iinc 4 1, 3) := by decide +kernel
theorem dX5_grudgeFor_81 : decode cX5_grudgeFor 81 = .ok (.goto (-47), 3) := by decide +kernel
theorem dX5_grudgeFor_84 : decode cX5_grudgeFor 84 = .ok (.aload_n 0, 1) := by decide +kernel
theorem dX5_grudgeFor_85 : decode cX5_grudgeFor 85 = .ok (.iload_n 3, 1) := by decide +kernel
theorem dX5_grudgeFor_86 : decode cX5_grudgeFor 86 = .ok (.invokevirtual 139, 3) := by decide +kernel
theorem dX5_grudgeFor_89 : decode cX5_grudgeFor 89 = .ok (.ireturn, 1) := by decide +kernel
theorem dX5_kindFor_0 : decode cX5_kindFor 0 = .ok (.aload_n 0, 1) := by decide +kernel
theorem dX5_kindFor_1 : decode cX5_kindFor 1 = .ok (.iload_n 1, 1) := by decide +kernel
theorem dX5_kindFor_2 : decode cX5_kindFor 2 = .ok (.invokevirtual 68, 3) := by decide +kernel
theorem dX5_kindFor_5 : decode cX5_kindFor 5 = .ok (.ifCond .eq 13, 3) := by decide +kernel
theorem dX5_kindFor_8 : decode cX5_kindFor 8 = .ok (.iload_n 2, 1) := by decide +kernel
theorem dX5_kindFor_9 : decode cX5_kindFor 9 = .ok (.iconst 0, 1) := by decide +kernel
theorem dX5_kindFor_10 : decode cX5_kindFor 10 = .ok (.bipush 60, 2) := by decide +kernel
theorem dX5_kindFor_12 : decode cX5_kindFor 12 = .ok (.invokestatic 40, 3) := by decide +kernel
theorem dX5_kindFor_15 : decode cX5_kindFor 15 = .ok (.ifCond .ne 10, 3) := by decide +kernel
theorem dX5_kindFor_18 : decode cX5_kindFor 18 = .ok (.aload_n 0, 1) := by decide +kernel
theorem dX5_kindFor_19 : decode cX5_kindFor 19 = .ok (.ldc 34, 2) := by decide +kernel
theorem dX5_kindFor_21 : decode cX5_kindFor 21 = .ok (.invokevirtual 36, 3) := by decide +kernel
theorem dX5_kindFor_24 : decode cX5_kindFor 24 = .ok (.ireturn, 1) := by decide +kernel
theorem dX5_kindFor_25 : decode cX5_kindFor 25 = .ok (.aload_n 0, 1) := by decide +kernel
theorem dX5_kindFor_26 : decode cX5_kindFor 26 = .ok (.invokevirtual 133, 3) := by decide +kernel
theorem dX5_kindFor_29 : decode cX5_kindFor 29 = .ok (.iconst 0, 1) := by decide +kernel
theorem dX5_kindFor_30 : decode cX5_kindFor 30 = .ok (.istore_n 3, 1) := by decide +kernel
theorem dX5_kindFor_31 : decode cX5_kindFor 31 = .ok (.iconst (-1), 1) := by decide +kernel
theorem dX5_kindFor_32 : decode cX5_kindFor 32 = .ok (.istore 4, 2) := by decide +kernel
theorem dX5_kindFor_34 : decode cX5_kindFor 34 = .ok (.iconst 0, 1) := by decide +kernel
theorem dX5_kindFor_35 : decode cX5_kindFor 35 = .ok (.istore 5, 2) := by decide +kernel
theorem dX5_kindFor_37 : decode cX5_kindFor 37 = .ok (.iload 5, 2) := by decide +kernel
theorem dX5_kindFor_39 : decode cX5_kindFor 39 = .ok (.bipush 6, 2) := by decide +kernel
theorem dX5_kindFor_41 : decode cX5_kindFor 41 = .ok (.if_icmp .gt 63, 3) := by decide +kernel
theorem dX5_kindFor_44 : decode cX5_kindFor 44 = .ok (.aload_n 0, 1) := by decide +kernel
theorem dX5_kindFor_45 : decode cX5_kindFor 45 = .ok (.iload_n 1, 1) := by decide +kernel
theorem dX5_kindFor_46 : decode cX5_kindFor 46 = .ok (.iconst 0, 1) := by decide +kernel
theorem dX5_kindFor_47 : decode cX5_kindFor 47 = .ok (.iload 5, 2) := by decide +kernel
theorem dX5_kindFor_49 : decode cX5_kindFor 49 = .ok (.invokevirtual 59, 3) := by decide +kernel
theorem dX5_kindFor_52 : decode cX5_kindFor 52 = .ok (.aload_n 0, 1) := by decide +kernel
theorem dX5_kindFor_53 : decode cX5_kindFor 53 = .ok (.iload_n 2, 1) := by decide +kernel
theorem dX5_kindFor_54 : decode cX5_kindFor 54 = .ok (.invokevirtual 114, 3) := by decide +kernel
theorem dX5_kindFor_57 : decode cX5_kindFor 57 = .ok (.aload_n 0, 1) := by decide +kernel
theorem dX5_kindFor_58 : decode cX5_kindFor 58 = .ok (.iload_n 1, 1) := by decide +kernel
theorem dX5_kindFor_59 : decode cX5_kindFor 59 = .ok (.invokevirtual 83, 3) := by decide +kernel
theorem dX5_kindFor_62 : decode cX5_kindFor 62 = .ok (.istore 6, 2) := by decide +kernel
theorem dX5_kindFor_64 : decode cX5_kindFor 64 = .ok (.aload_n 0, 1) := by decide +kernel
theorem dX5_kindFor_65 : decode cX5_kindFor 65 = .ok (.invokevirtual 136, 3) := by decide +kernel
theorem dX5_kindFor_68 : decode cX5_kindFor 68 = .ok (.iload 6, 2) := by decide +kernel
theorem dX5_kindFor_70 : decode cX5_kindFor 70 = .ok (.iload 4, 2) := by decide +kernel
theorem dX5_kindFor_72 : decode cX5_kindFor 72 = .ok (.if_icmp .le 8, 3) := by decide +kernel
theorem dX5_kindFor_75 : decode cX5_kindFor 75 = .ok (.iload 5, 2) := by decide +kernel
theorem dX5_kindFor_77 : decode cX5_kindFor 77 = .ok (.goto 4, 3) := by decide +kernel
theorem dX5_kindFor_80 : decode cX5_kindFor 80 = .ok (.iload_n 3, 1) := by decide +kernel
theorem dX5_kindFor_81 : decode cX5_kindFor 81 = .ok (.istore_n 3, 1) := by decide +kernel
theorem dX5_kindFor_82 : decode cX5_kindFor 82 = .ok (.iload 6, 2) := by decide +kernel
theorem dX5_kindFor_84 : decode cX5_kindFor 84 = .ok (.iload 4, 2) := by decide +kernel
theorem dX5_kindFor_86 : decode cX5_kindFor 86 = .ok (.if_icmp .le 8, 3) := by decide +kernel
theorem dX5_kindFor_89 : decode cX5_kindFor 89 = .ok (.iload 6, 2) := by decide +kernel
theorem dX5_kindFor_91 : decode cX5_kindFor 91 = .ok (.goto 5, 3) := by decide +kernel
theorem dX5_kindFor_94 : decode cX5_kindFor 94 = .ok (.iload 4, 2) := by decide +kernel
theorem dX5_kindFor_96 : decode cX5_kindFor 96 = .ok (.istore 4, 2) := by decide +kernel
theorem dX5_kindFor_98 : decode cX5_kindFor 98 = .ok (.iinc 5 1, 3) := by decide +kernel
theorem dX5_kindFor_101 : decode cX5_kindFor 101 = .ok (.goto (-64), 3) := by decide +kernel
theorem dX5_kindFor_104 : decode cX5_kindFor 104 = .ok (.iload_n 3, 1) := by decide +kernel
theorem dX5_kindFor_105 : decode cX5_kindFor 105 = .ok (.ireturn, 1) := by decide +kernel
theorem dX5_best_0 : decode cX5_best 0 = .ok (.aload_n 0, 1) := by decide +kernel
theorem dX5_best_1 : decode cX5_best 1 = .ok (.iload_n 1, 1) := by decide +kernel
theorem dX5_best_2 : decode cX5_best 2 = .ok (.invokevirtual 68, 3) := by decide +kernel
theorem dX5_best_5 : decode cX5_best 5 = .ok (.ifCond .ne 10, 3) := by decide +kernel
theorem dX5_best_8 : decode cX5_best 8 = .ok (.aload_n 0, 1) := by decide +kernel
theorem dX5_best_9 : decode cX5_best 9 = .ok (.ldc 34, 2) := by decide +kernel
theorem dX5_best_11 : decode cX5_best 11 = .ok (.invokevirtual 36, 3) := by decide +kernel
theorem dX5_best_14 : decode cX5_best 14 = .ok (.ireturn, 1) := by decide +kernel
theorem dX5_best_15 : decode cX5_best 15 = .ok (.aload_n 0, 1) := by decide +kernel
theorem dX5_best_16 : decode cX5_best 16 = .ok (.invokevirtual 133, 3) := by decide +kernel
theorem dX5_best_19 : decode cX5_best 19 = .ok (.iconst 0, 1) := by decide +kernel
theorem dX5_best_20 : decode cX5_best 20 = .ok (.istore_n 2, 1) := by decide +kernel
theorem dX5_best_21 : decode cX5_best 21 = .ok (.iconst (-1), 1) := by decide +kernel
theorem dX5_best_22 : decode cX5_best 22 = .ok (.istore_n 3, 1) := by decide +kernel
theorem dX5_best_23 : decode cX5_best 23 = .ok (.iconst 0, 1) := by decide +kernel
theorem dX5_best_24 : decode cX5_best 24 = .ok (.istore 4, 2) := by decide +kernel
theorem dX5_best_26 : decode cX5_best 26 = .ok (.iload 4, 2) := by decide +kernel
theorem dX5_best_28 : decode cX5_best 28 = .ok (.bipush 60, 2) := by decide +kernel
theorem dX5_best_30 : decode cX5_best 30 = .ok (.if_icmp .gt 46, 3) := by decide +kernel
theorem dX5_best_33 : decode cX5_best 33 = .ok (.aload_n 0, 1) := by decide +kernel
theorem dX5_best_34 : decode cX5_best 34 = .ok (.iload_n 1, 1) := by decide +kernel
theorem dX5_best_35 : decode cX5_best 35 = .ok (.invokevirtual 83, 3) := by decide +kernel
theorem dX5_best_38 : decode cX5_best 38 = .ok (.istore 5, 2) := by decide +kernel
theorem dX5_best_40 : decode cX5_best 40 = .ok (.iload 5, 2) := by decide +kernel
theorem dX5_best_42 : decode cX5_best 42 = .ok (.iload_n 3, 1) := by decide +kernel
theorem dX5_best_43 : decode cX5_best 43 = .ok (.if_icmp .le 8, 3) := by decide +kernel
theorem dX5_best_46 : decode cX5_best 46 = .ok (.iload 4, 2) := by decide +kernel
theorem dX5_best_48 : decode cX5_best 48 = .ok (.goto 4, 3) := by decide +kernel
theorem dX5_best_51 : decode cX5_best 51 = .ok (.iload_n 2, 1) := by decide +kernel
theorem dX5_best_52 : decode cX5_best 52 = .ok (.istore_n 2, 1) := by decide +kernel
theorem dX5_best_53 : decode cX5_best 53 = .ok (.iload 5, 2) := by decide +kernel
theorem dX5_best_55 : decode cX5_best 55 = .ok (.iload_n 3, 1) := by decide +kernel
theorem dX5_best_56 : decode cX5_best 56 = .ok (.if_icmp .le 8, 3) := by decide +kernel
theorem dX5_best_59 : decode cX5_best 59 = .ok (.iload 5, 2) := by decide +kernel
theorem dX5_best_61 : decode cX5_best 61 = .ok (.goto 4, 3) := by decide +kernel
theorem dX5_best_64 : decode cX5_best 64 = .ok (.iload_n 3, 1) := by decide +kernel
theorem dX5_best_65 : decode cX5_best 65 = .ok (.istore_n 3, 1) := by decide +kernel
theorem dX5_best_66 : decode cX5_best 66 = .ok (.aload_n 0, 1) := by decide +kernel
theorem dX5_best_67 : decode cX5_best 67 = .ok (.invokevirtual 111, 3) := by decide +kernel
theorem dX5_best_70 : decode cX5_best 70 = .ok (.iinc 4 1, 3) := by decide +kernel
theorem dX5_best_73 : decode cX5_best 73 = .ok (.goto (-47), 3) := by decide +kernel
theorem dX5_best_76 : decode cX5_best 76 = .ok (.aload_n 0, 1) := by decide +kernel
theorem dX5_best_77 : decode cX5_best 77 = .ok (.invokevirtual 136, 3) := by decide +kernel
theorem dX5_best_80 : decode cX5_best 80 = .ok (.iload_n 2, 1) := by decide +kernel
theorem dX5_best_81 : decode cX5_best 81 = .ok (.ireturn, 1) := by decide +kernel
theorem dX5_isSafe_0 : decode cX5_isSafe 0 = .ok (.aload_n 0, 1) := by decide +kernel
theorem dX5_isSafe_1 : decode cX5_isSafe 1 = .ok (.iconst 3, 1) := by decide +kernel
theorem dX5_isSafe_2 : decode cX5_isSafe 2 = .ok (.invokevirtual 117, 3) := by decide +kernel
theorem dX5_isSafe_5 : decode cX5_isSafe 5 = .ok (.invokestatic 142, 3) := by decide +kernel
theorem dX5_isSafe_8 : decode cX5_isSafe 8 = .ok (.istore_n 3, 1) := by decide +kernel
theorem dX5_isSafe_9 : decode cX5_isSafe 9 = .ok (.iconst 0, 1) := by decide +kernel
theorem dX5_isSafe_10 : decode cX5_isSafe 10 = .ok (.istore 4, 2) := by decide +kernel
theorem dX5_isSafe_12 : decode cX5_isSafe 12 = .ok (.iload 4, 2) := by decide +kernel
theorem dX5_isSafe_14 : decode cX5_isSafe 14 = .ok (.aload_n 0, 1) := by decide +kernel
theorem dX5_isSafe_15 : decode cX5_isSafe 15 = .ok (.getfield 9, 3) := by decide +kernel
theorem dX5_isSafe_18 : decode cX5_isSafe 18 = .ok (.iconst 5, 1) := by decide +kernel
theorem dX5_isSafe_19 : decode cX5_isSafe 19 = .ok (.iaload, 1) := by decide +kernel
theorem dX5_isSafe_20 : decode cX5_isSafe 20 = .ok (.if_icmp .ge 30, 3) := by decide +kernel
theorem dX5_isSafe_23 : decode cX5_isSafe 23 = .ok (.aload_n 0, 1) := by decide +kernel
theorem dX5_isSafe_24 : decode cX5_isSafe 24 = .ok (.iload 4, 2) := by decide +kernel
theorem dX5_isSafe_26 : decode cX5_isSafe 26 = .ok (.iconst 4, 1) := by decide +kernel
theorem dX5_isSafe_27 : decode cX5_isSafe 27 = .ok (.aload_n 0, 1) := by decide +kernel
theorem dX5_isSafe_28 : decode cX5_isSafe 28 = .ok (.iload 4, 2) := by decide +kernel
theorem dX5_isSafe_30 : decode cX5_isSafe 30 = .ok (.iconst 4, 1) := by decide +kernel
theorem dX5_isSafe_31 : decode cX5_isSafe 31 = .ok (.invokevirtual 44, 3) := by decide +kernel
theorem dX5_isSafe_34 : decode cX5_isSafe 34 = .ok (.iload_n 1, 1) := by decide +kernel
theorem dX5_isSafe_35 : decode cX5_isSafe 35 = .ok (.iload 4, 2) := by decide +kernel
theorem dX5_isSafe_37 : decode cX5_isSafe 37 = .ok (.ishr, 1) := by decide +kernel
theorem dX5_isSafe_38 : decode cX5_isSafe 38 = .ok (.iconst 1, 1) := by decide +kernel
theorem dX5_isSafe_39 : decode cX5_isSafe 39 = .ok (.iand, 1) := by decide +kernel
theorem dX5_isSafe_40 : decode cX5_isSafe 40 = .ok (.ior, 1) := by decide +kernel
theorem dX5_isSafe_41 : decode cX5_isSafe 41 = .ok (.invokevirtual 59, 3) := by decide +kernel
theorem dX5_isSafe_44 : decode cX5_isSafe 44 = .ok (.iinc 4 1, 3) := by decide +kernel
theorem dX5_isSafe_47 : decode cX5_isSafe 47 = .ok (.goto (-35), 3) := by decide +kernel
theorem dX5_isSafe_50 : decode cX5_isSafe 50 = .ok (.aload_n 0, 1) := by decide +kernel
theorem dX5_isSafe_51 : decode cX5_isSafe 51 = .ok (.iload_n 2, 1) := by decide +kernel
theorem dX5_isSafe_52 : decode cX5_isSafe 52 = .ok (.invokevirtual 114, 3) := by decide +kernel
theorem dX5_isSafe_55 : decode cX5_isSafe 55 = .ok (.aload_n 0, 1) := by decide +kernel
theorem dX5_isSafe_56 : decode cX5_isSafe 56 = .ok (.iconst 3, 1) := by decide +kernel
theorem dX5_isSafe_57 : decode cX5_isSafe 57 = .ok (.invokevirtual 117, 3) := by decide +kernel
theorem dX5_isSafe_60 : decode cX5_isSafe 60 = .ok (.invokestatic 142, 3) := by decide +kernel
theorem dX5_isSafe_63 : decode cX5_isSafe 63 = .ok (.iload_n 3, 1) := by decide +kernel
theorem dX5_isSafe_64 : decode cX5_isSafe 64 = .ok (.if_icmp .gt 7, 3) := by decide +kernel
theorem dX5_isSafe_67 : decode cX5_isSafe 67 = .ok (.iconst 1, 1) := by decide +kernel
theorem dX5_isSafe_68 : decode cX5_isSafe 68 = .ok (.goto 4, 3) := by decide +kernel
theorem dX5_isSafe_71 : decode cX5_isSafe 71 = .ok (.iconst 0, 1) := by decide +kernel
theorem dX5_isSafe_72 : decode cX5_isSafe 72 = .ok (.istore 4, 2) := by decide +kernel
theorem dX5_isSafe_74 : decode cX5_isSafe 74 = .ok (.aload_n 0, 1) := by decide +kernel
theorem dX5_isSafe_75 : decode cX5_isSafe 75 = .ok (.invokevirtual 136, 3) := by decide +kernel
theorem dX5_isSafe_78 : decode cX5_isSafe 78 = .ok (.iload 4, 2) := by decide +kernel
theorem dX5_isSafe_80 : decode cX5_isSafe 80 = .ok (.ireturn, 1) := by decide +kernel
theorem dX5_takeOff_0 : decode cX5_takeOff 0 = .ok (.iload_n 1, 1) := by decide +kernel
theorem dX5_takeOff_1 : decode cX5_takeOff 1 = .ok (.iconst 0, 1) := by decide +kernel
theorem dX5_takeOff_2 : decode cX5_takeOff 2 = .ok (.bipush 20, 2) := by decide +kernel
theorem dX5_takeOff_4 : decode cX5_takeOff 4 = .ok (.invokestatic 40, 3) := by decide +kernel
theorem dX5_takeOff_7 : decode cX5_takeOff 7 = .ok (.ifCond .ne 10, 3) := by decide +kernel
theorem dX5_takeOff_10 : decode cX5_takeOff 10 = .ok (.aload_n 0, 1) := by decide +kernel
theorem dX5_takeOff_11 : decode cX5_takeOff 11 = .ok (.ldc 34, 2) := by decide +kernel
theorem dX5_takeOff_13 : decode cX5_takeOff 13 = .ok (.invokevirtual 36, 3) := by decide +kernel
theorem dX5_takeOff_16 : decode cX5_takeOff 16 = .ok (.ireturn, 1) := by decide +kernel
theorem dX5_takeOff_17 : decode cX5_takeOff 17 = .ok (.aload_n 0, 1) := by decide +kernel
theorem dX5_takeOff_18 : decode cX5_takeOff 18 = .ok (.invokevirtual 133, 3) := by decide +kernel
theorem dX5_takeOff_21 : decode cX5_takeOff 21 = .ok (.iconst (-1), 1) := by decide +kernel
theorem dX5_takeOff_22 : decode cX5_takeOff 22 = .ok (.istore_n 2, 1) := by decide +kernel
theorem dX5_takeOff_23 : decode cX5_takeOff 23 = .ok (.iconst 0, 1) := by decide +kernel
theorem dX5_takeOff_24 : decode cX5_takeOff 24 = .ok (.istore_n 3, 1) := by decide +kernel
theorem dX5_takeOff_25 : decode cX5_takeOff 25 = .ok (.iload_n 3, 1) := by decide +kernel
theorem dX5_takeOff_26 : decode cX5_takeOff 26 = .ok (.iconst 1, 1) := by decide +kernel
theorem dX5_takeOff_27 : decode cX5_takeOff 27 = .ok (.aload_n 0, 1) := by decide +kernel
theorem dX5_takeOff_28 : decode cX5_takeOff 28 = .ok (.getfield 9, 3) := by decide +kernel
theorem dX5_takeOff_31 : decode cX5_takeOff 31 = .ok (.iconst 5, 1) := by decide +kernel
theorem dX5_takeOff_32 : decode cX5_takeOff 32 = .ok (.iaload, 1) := by decide +kernel
theorem dX5_takeOff_33 : decode cX5_takeOff 33 = .ok (.ishl, 1) := by decide +kernel
theorem dX5_takeOff_34 : decode cX5_takeOff 34 = .ok (.if_icmp .ge 51, 3) := by decide +kernel
theorem dX5_takeOff_37 : decode cX5_takeOff 37 = .ok (.iload_n 2, 1) := by decide +kernel
theorem dX5_takeOff_38 : decode cX5_takeOff 38 = .ok (.ifCond .lt 14, 3) := by decide +kernel
theorem dX5_takeOff_41 : decode cX5_takeOff 41 = .ok (.iload_n 3, 1) := by decide +kernel
theorem dX5_takeOff_42 : decode cX5_takeOff 42 = .ok (.invokestatic 142, 3) := by decide +kernel
theorem dX5_takeOff_45 : decode cX5_takeOff 45 = .ok (.iload_n 2, 1) := by decide +kernel
theorem dX5_takeOff_46 : decode cX5_takeOff 46 = .ok (.invokestatic 142, 3) := by decide +kernel
theorem dX5_takeOff_49 : decode cX5_takeOff 49 = .ok (.if_icmp .ge 7, 3) := by decide +kernel
theorem dX5_takeOff_52 : decode cX5_takeOff 52 = .ok (.iconst 1, 1) := by decide +kernel
theorem dX5_takeOff_53 : decode cX5_takeOff 53 = .ok (.goto 4, 3) := by decide +kernel
theorem dX5_takeOff_56 : decode cX5_takeOff 56 = .ok (.iconst 0, 1) := by decide +kernel
theorem dX5_takeOff_57 : decode cX5_takeOff 57 = .ok (.istore 4, 2) := by decide +kernel
theorem dX5_takeOff_59 : decode cX5_takeOff 59 = .ok (.iload 4, 2) := by decide +kernel
theorem dX5_takeOff_61 : decode cX5_takeOff 61 = .ok (.ifCond .eq 16, 3) := by decide +kernel
theorem dX5_takeOff_64 : decode cX5_takeOff 64 = .ok (.aload_n 0, 1) := by decide +kernel
theorem dX5_takeOff_65 : decode cX5_takeOff 65 = .ok (.iload_n 3, 1) := by decide +kernel
theorem dX5_takeOff_66 : decode cX5_takeOff 66 = .ok (.iload_n 1, 1) := by decide +kernel
theorem dX5_takeOff_67 : decode cX5_takeOff 67 = .ok (.invokevirtual 145, 3) := by decide +kernel
theorem dX5_takeOff_70 : decode cX5_takeOff 70 = .ok (.ifCond .eq 7, 3) := by decide +kernel
theorem dX5_takeOff_73 : decode cX5_takeOff 73 = .ok (.iload_n 3, 1) := by decide +kernel
theorem dX5_takeOff_74 : decode cX5_takeOff 74 = .ok (.goto 4, 3) := by decide +kernel
theorem dX5_takeOff_77 : decode cX5_takeOff 77 = .ok (.iload_n 2, 1) := by decide +kernel
theorem dX5_takeOff_78 : decode cX5_takeOff 78 = .ok (.istore_n 2, 1) := by decide +kernel
theorem dX5_takeOff_79 : decode cX5_takeOff 79 = .ok (.iinc 3 1, 3) := by decide +kernel
theorem dX5_takeOff_82 : decode cX5_takeOff 82 = .ok (.goto (-57), 3) := by decide +kernel
theorem dX5_takeOff_85 : decode cX5_takeOff 85 = .ok (.aload_n 0, 1) := by decide +kernel
theorem dX5_takeOff_86 : decode cX5_takeOff 86 = .ok (.iload_n 2, 1) := by decide +kernel
theorem dX5_takeOff_87 : decode cX5_takeOff 87 = .ok (.invokevirtual 139, 3) := by decide +kernel
theorem dX5_takeOff_90 : decode cX5_takeOff 90 = .ok (.ireturn, 1) := by decide +kernel
theorem dX5_isSheet_0 : decode cX5_isSheet 0 = .ok (.iload_n 0, 1) := by decide +kernel
theorem dX5_isSheet_1 : decode cX5_isSheet 1 = .ok (.iconst 0, 1) := by decide +kernel
theorem dX5_isSheet_2 : decode cX5_isSheet 2 = .ok (.iconst 3, 1) := by decide +kernel
theorem dX5_isSheet_3 : decode cX5_isSheet 3 = .ok (.invokestatic 40, 3) := by decide +kernel
theorem dX5_isSheet_6 : decode cX5_isSheet 6 = .ok (.ireturn, 1) := by decide +kernel
theorem dX5_notThere_0 : decode cX5_notThere 0 = .ok (.iload_n 1, 1) := by decide +kernel
theorem dX5_notThere_1 : decode cX5_notThere 1 = .ok (.invokestatic 149, 3) := by decide +kernel
theorem dX5_notThere_4 : decode cX5_notThere 4 = .ok (.ifCond .ne 8, 3) := by decide +kernel
theorem dX5_notThere_7 : decode cX5_notThere 7 = .ok (.ldc 34, 2) := by decide +kernel
theorem dX5_notThere_9 : decode cX5_notThere 9 = .ok (.goto 18, 3) := by decide +kernel
theorem dX5_notThere_12 : decode cX5_notThere 12 = .ok (.aload_n 0, 1) := by decide +kernel
theorem dX5_notThere_13 : decode cX5_notThere 13 = .ok (.getfield 22, 3) := by decide +kernel
theorem dX5_notThere_16 : decode cX5_notThere 16 = .ok (.iload_n 1, 1) := by decide +kernel
theorem dX5_notThere_17 : decode cX5_notThere 17 = .ok (.iaload, 1) := by decide +kernel
theorem dX5_notThere_18 : decode cX5_notThere 18 = .ok (.ifCond .ne 8, 3) := by decide +kernel
theorem dX5_notThere_21 : decode cX5_notThere 21 = .ok (.ldc 152, 2) := by decide +kernel
theorem dX5_notThere_23 : decode cX5_notThere 23 = .ok (.goto 4, 3) := by decide +kernel
theorem dX5_notThere_26 : decode cX5_notThere 26 = .ok (.iconst 0, 1) := by decide +kernel
theorem dX5_notThere_27 : decode cX5_notThere 27 = .ok (.ireturn, 1) := by decide +kernel
theorem dX5_notAsked_0 : decode cX5_notAsked 0 = .ok (.aload_n 0, 1) := by decide +kernel
theorem dX5_notAsked_1 : decode cX5_notAsked 1 = .ok (.iload_n 1, 1) := by decide +kernel
theorem dX5_notAsked_2 : decode cX5_notAsked 2 = .ok (.invokevirtual 153, 3) := by decide +kernel
theorem dX5_notAsked_5 : decode cX5_notAsked 5 = .ok (.istore_n 3, 1) := by decide +kernel
theorem dX5_notAsked_6 : decode cX5_notAsked 6 = .ok (.iload_n 3, 1) := by decide +kernel
theorem dX5_notAsked_7 : decode cX5_notAsked 7 = .ok (.ifCond .ne 16, 3) := by decide +kernel
theorem dX5_notAsked_10 : decode cX5_notAsked 10 = .ok (.aload_n 0, 1) := by decide +kernel
theorem dX5_notAsked_11 : decode cX5_notAsked 11 = .ok (.iload_n 2, 1) := by decide +kernel
theorem dX5_notAsked_12 : decode cX5_notAsked 12 = .ok (.invokevirtual 68, 3) := by decide +kernel
theorem dX5_notAsked_15 : decode cX5_notAsked 15 = .ok (.ifCond .ne 8, 3) := by decide +kernel
theorem dX5_notAsked_18 : decode cX5_notAsked 18 = .ok (.ldc 34, 2) := by decide +kernel
theorem dX5_notAsked_20 : decode cX5_notAsked 20 = .ok (.goto 4, 3) := by decide +kernel
theorem dX5_notAsked_23 : decode cX5_notAsked 23 = .ok (.iload_n 3, 1) := by decide +kernel
theorem dX5_notAsked_24 : decode cX5_notAsked 24 = .ok (.ireturn, 1) := by decide +kernel
theorem dX5_isTold_0 : decode cX5_isTold 0 = .ok (.iconst 1, 1) := by decide +kernel
theorem dX5_isTold_1 : decode cX5_isTold 1 = .ok (.istore_n 3, 1) := by decide +kernel
theorem dX5_isTold_2 : decode cX5_isTold 2 = .ok (.iconst 0, 1) := by decide +kernel
theorem dX5_isTold_3 : decode cX5_isTold 3 = .ok (.istore 4, 2) := by decide +kernel
theorem dX5_isTold_5 : decode cX5_isTold 5 = .ok (.iload 4, 2) := by decide +kernel
theorem dX5_isTold_7 : decode cX5_isTold 7 = .ok (.aload_n 0, 1) := by decide +kernel
theorem dX5_isTold_8 : decode cX5_isTold 8 = .ok (.getfield 25, 3) := by decide +kernel
theorem dX5_isTold_11 : decode cX5_isTold 11 = .ok (.iload_n 1, 1) := by decide +kernel
theorem dX5_isTold_12 : decode cX5_isTold 12 = .ok (.iaload, 1) := by decide +kernel
theorem dX5_isTold_13 : decode cX5_isTold 13 = .ok (.if_icmp .ge 54, 3) := by decide +kernel
theorem dX5_isTold_16 : decode cX5_isTold 16 = .ok (.iload_n 3, 1) := by decide +kernel
theorem dX5_isTold_17 : decode cX5_isTold 17 = .ok (.ifCond .eq 50, 3) := by decide +kernel
theorem dX5_isTold_20 : decode cX5_isTold 20 = .ok (.aload_n 0, 1) := by decide +kernel
theorem dX5_isTold_21 : decode cX5_isTold 21 = .ok (.getfield 28, 3) := by decide +kernel
theorem dX5_isTold_24 : decode cX5_isTold 24 = .ok (.bipush 40, 2) := by decide +kernel
theorem dX5_isTold_26 : decode cX5_isTold 26 = .ok (.iload_n 1, 1) := by decide +kernel
theorem dX5_isTold_27 : decode cX5_isTold 27 = .ok (.imul, 1) := by decide +kernel
theorem dX5_isTold_28 : decode cX5_isTold 28 = .ok (.iload 4, 2) := by decide +kernel
theorem dX5_isTold_30 : decode cX5_isTold 30 = .ok (.iadd, 1) := by decide +kernel
theorem dX5_isTold_31 : decode cX5_isTold 31 = .ok (.iaload, 1) := by decide +kernel
theorem dX5_isTold_32 : decode cX5_isTold 32 = .ok (.istore 5, 2) := by decide +kernel
theorem dX5_isTold_34 : decode cX5_isTold 34 = .ok (.iload 5, 2) := by decide +kernel
theorem dX5_isTold_36 : decode cX5_isTold 36 = .ok (.iconst (-1), 1) := by decide +kernel
theorem dX5_isTold_37 : decode cX5_isTold 37 = .ok (.if_icmp .eq 14, 3) := by decide +kernel
theorem dX5_isTold_40 : decode cX5_isTold 40 = .ok (.iload 5, 2) := by decide +kernel
theorem dX5_isTold_42 : decode cX5_isTold 42 = .ok (.aload_n 0, 1) := by decide +kernel
theorem dX5_isTold_43 : decode cX5_isTold 43 = .ok (.iload_n 2, 1) := by decide +kernel
theorem dX5_isTold_44 : decode cX5_isTold 44 = .ok (.iconst 1, 1) := by decide +kernel
theorem dX5_isTold_45 : decode cX5_isTold 45 = .ok (.invokevirtual 44, 3) := by decide +kernel
theorem dX5_isTold_48 : decode cX5_isTold 48 = .ok (.if_icmp .ne 7, 3) := by decide +kernel
theorem dX5_isTold_51 : decode cX5_isTold 51 = .ok (.iconst 1, 1) := by decide +kernel
theorem dX5_isTold_52 : decode cX5_isTold 52 = .ok (.goto 4, 3) := by decide +kernel
theorem dX5_isTold_55 : decode cX5_isTold 55 = .ok (.iconst 0, 1) := by decide +kernel
theorem dX5_isTold_56 : decode cX5_isTold 56 = .ok (.istore_n 3, 1) := by decide +kernel
theorem dX5_isTold_57 : decode cX5_isTold 57 = .ok (.aload_n 0, 1) := by decide +kernel
theorem dX5_isTold_58 : decode cX5_isTold 58 = .ok (.invokevirtual 111, 3) := by decide +kernel
theorem dX5_isTold_61 : decode cX5_isTold 61 = .ok (.iinc 4 1, 3) := by decide +kernel
theorem dX5_isTold_64 : decode cX5_isTold 64 = .ok (.goto (-59), 3) := by decide +kernel
theorem dX5_isTold_67 : decode cX5_isTold 67 = .ok (.aload_n 0, 1) := by decide +kernel
theorem dX5_isTold_68 : decode cX5_isTold 68 = .ok (.invokevirtual 136, 3) := by decide +kernel
theorem dX5_isTold_71 : decode cX5_isTold 71 = .ok (.iload_n 3, 1) := by decide +kernel
theorem dX5_isTold_72 : decode cX5_isTold 72 = .ok (.ireturn, 1) := by decide +kernel
theorem dX5_fits_0 : decode cX5_fits 0 = .ok (.aload_n 0, 1) := by decide +kernel
theorem dX5_fits_1 : decode cX5_fits 1 = .ok (.iload_n 1, 1) := by decide +kernel
theorem dX5_fits_2 : decode cX5_fits 2 = .ok (.iload_n 2, 1) := by decide +kernel
theorem dX5_fits_3 : decode cX5_fits 3 = .ok (.invokevirtual 156, 3) := by decide +kernel
theorem dX5_fits_6 : decode cX5_fits 6 = .ok (.istore_n 3, 1) := by decide +kernel
theorem dX5_fits_7 : decode cX5_fits 7 = .ok (.iload_n 3, 1) := by decide +kernel
