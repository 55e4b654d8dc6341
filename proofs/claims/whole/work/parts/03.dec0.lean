theorem dX0_init_0 : decode cX0_init 0 = .ok (.aload_n 0, 1) := by decide +kernel
theorem dX0_init_1 : decode cX0_init 1 = .ok (.invokespecial 3, 3) := by decide +kernel
theorem dX0_init_4 : decode cX0_init 4 = .ok (.aload_n 0, 1) := by decide +kernel
theorem dX0_init_5 : decode cX0_init 5 = .ok (.iconst 4, 1) := by decide +kernel
theorem dX0_init_6 : decode cX0_init 6 = .ok (.newarray .int, 2) := by decide +kernel
theorem dX0_init_8 : decode cX0_init 8 = .ok (.putfield 9, 3) := by decide +kernel
theorem dX0_init_11 : decode cX0_init 11 = .ok (.aload_n 0, 1) := by decide +kernel
theorem dX0_init_12 : decode cX0_init 12 = .ok (.iconst 4, 1) := by decide +kernel
theorem dX0_init_13 : decode cX0_init 13 = .ok (.newarray .int, 2) := by decide +kernel
theorem dX0_init_15 : decode cX0_init 15 = .ok (.putfield 15, 3) := by decide +kernel
theorem dX0_init_18 : decode cX0_init 18 = .ok (.aload_n 0, 1) := by decide +kernel
theorem dX0_init_19 : decode cX0_init 19 = .ok (.iconst 4, 1) := by decide +kernel
theorem dX0_init_20 : decode cX0_init 20 = .ok (.newarray .int, 2) := by decide +kernel
theorem dX0_init_22 : decode cX0_init 22 = .ok (.putfield 18, 3) := by decide +kernel
theorem dX0_init_25 : decode cX0_init 25 = .ok (.aload_n 0, 1) := by decide +kernel
theorem dX0_init_26 : decode cX0_init 26 = .ok (.iconst 4, 1) := by decide +kernel
theorem dX0_init_27 : decode cX0_init 27 = .ok (.newarray .int, 2) := by decide +kernel
theorem dX0_init_29 : decode cX0_init 29 = .ok (.putfield 21, 3) := by decide +kernel
theorem dX0_init_32 : decode cX0_init 32 = .ok (.aload_n 0, 1) := by decide +kernel
theorem dX0_init_33 : decode cX0_init 33 = .ok (.iconst 4, 1) := by decide +kernel
theorem dX0_init_34 : decode cX0_init 34 = .ok (.newarray .double, 2) := by decide +kernel
theorem dX0_init_36 : decode cX0_init 36 = .ok (.putfield 24, 3) := by decide +kernel
theorem dX0_init_39 : decode cX0_init 39 = .ok (.aload_n 0, 1) := by decide +kernel
theorem dX0_init_40 : decode cX0_init 40 = .ok (.bipush 64, 2) := by decide +kernel
theorem dX0_init_42 : decode cX0_init 42 = .ok (.newarray .int, 2) := by decide +kernel
theorem dX0_init_44 : decode cX0_init 44 = .ok (.putfield 28, 3) := by decide +kernel
theorem dX0_init_47 : decode cX0_init 47 = .ok (.aload_n 0, 1) := by decide +kernel
theorem dX0_init_48 : decode cX0_init 48 = .ok (.bipush 64, 2) := by decide +kernel
theorem dX0_init_50 : decode cX0_init 50 = .ok (.newarray .double, 2) := by decide +kernel
theorem dX0_init_52 : decode cX0_init 52 = .ok (.putfield 31, 3) := by decide +kernel
theorem dX0_init_55 : decode cX0_init 55 = .ok (.return_, 1) := by decide +kernel
theorem dX0_copy_0 : decode cX0_copy 0 = .ok (.aload_n 0, 1) := by decide +kernel
theorem dX0_copy_1 : decode cX0_copy 1 = .ok (.aload_n 1, 1) := by decide +kernel
theorem dX0_copy_2 : decode cX0_copy 2 = .ok (.getfield 34, 3) := by decide +kernel
theorem dX0_copy_5 : decode cX0_copy 5 = .ok (.putfield 34, 3) := by decide +kernel
theorem dX0_copy_8 : decode cX0_copy 8 = .ok (.aload_n 1, 1) := by decide +kernel
theorem dX0_copy_9 : decode cX0_copy 9 = .ok (.getfield 9, 3) := by decide +kernel
theorem dX0_copy_12 : decode cX0_copy 12 = .ok (.iconst 0, 1) := by decide +kernel
theorem dX0_copy_13 : decode cX0_copy 13 = .ok (.aload_n 0, 1) := by decide +kernel
theorem dX0_copy_14 : decode cX0_copy 14 = .ok (.getfield 9, 3) := by decide +kernel
theorem dX0_copy_17 : decode cX0_copy 17 = .ok (.iconst 0, 1) := by decide +kernel
theorem dX0_copy_18 : decode cX0_copy 18 = .ok (.iconst 4, 1) := by decide +kernel
theorem dX0_copy_19 : decode cX0_copy 19 = .ok (.invokestatic 38, 3) := by decide +kernel
theorem dX0_copy_22 : decode cX0_copy 22 = .ok (.aload_n 1, 1) := by decide +kernel
theorem dX0_copy_23 : decode cX0_copy 23 = .ok (.getfield 15, 3) := by decide +kernel
theorem dX0_copy_26 : decode cX0_copy 26 = .ok (.iconst 0, 1) := by decide +kernel
theorem dX0_copy_27 : decode cX0_copy 27 = .ok (.aload_n 0, 1) := by decide +kernel
theorem dX0_copy_28 : decode cX0_copy 28 = .ok (.getfield 15, 3) := by decide +kernel
theorem dX0_copy_31 : decode cX0_copy 31 = .ok (.iconst 0, 1) := by decide +kernel
theorem dX0_copy_32 : decode cX0_copy 32 = .ok (.iconst 4, 1) := by decide +kernel
theorem dX0_copy_33 : decode cX0_copy 33 = .ok (.invokestatic 38, 3) := by decide +kernel
theorem dX0_copy_36 : decode cX0_copy 36 = .ok (.aload_n 1, 1) := by decide +kernel
theorem dX0_copy_37 : decode cX0_copy 37 = .ok (.getfield 18, 3) := by decide +kernel
theorem dX0_copy_40 : decode cX0_copy 40 = .ok (.iconst 0, 1) := by decide +kernel
theorem dX0_copy_41 : decode cX0_copy 41 = .ok (.aload_n 0, 1) := by decide +kernel
theorem dX0_copy_42 : decode cX0_copy 42 = .ok (.getfield 18, 3) := by decide +kernel
theorem dX0_copy_45 : decode cX0_copy 45 = .ok (.iconst 0, 1) := by decide +kernel
theorem dX0_copy_46 : decode cX0_copy 46 = .ok (.iconst 4, 1) := by decide +kernel
theorem dX0_copy_47 : decode cX0_copy 47 = .ok (.invokestatic 38, 3) := by decide +kernel
theorem dX0_copy_50 : decode cX0_copy 50 = .ok (.aload_n 1, 1) := by decide +kernel
theorem dX0_copy_51 : decode cX0_copy 51 = .ok (.getfield 21, 3) := by decide +kernel
theorem dX0_copy_54 : decode cX0_copy 54 = .ok (.iconst 0, 1) := by decide +kernel
theorem dX0_copy_55 : decode cX0_copy 55 = .ok (.aload_n 0, 1) := by decide +kernel
theorem dX0_copy_56 : decode cX0_copy 56 = .ok (.getfield 21, 3) := by decide +kernel
theorem dX0_copy_59 : decode cX0_copy 59 = .ok (.iconst 0, 1) := by decide +kernel
theorem dX0_copy_60 : decode cX0_copy 60 = .ok (.iconst 4, 1) := by decide +kernel
theorem dX0_copy_61 : decode cX0_copy 61 = .ok (.invokestatic 38, 3) := by decide +kernel
theorem dX0_copy_64 : decode cX0_copy 64 = .ok (.aload_n 0, 1) := by decide +kernel
theorem dX0_copy_65 : decode cX0_copy 65 = .ok (.aload_n 1, 1) := by decide +kernel
theorem dX0_copy_66 : decode cX0_copy 66 = .ok (.getfield 44, 3) := by decide +kernel
theorem dX0_copy_69 : decode cX0_copy 69 = .ok (.putfield 44, 3) := by decide +kernel
theorem dX0_copy_72 : decode cX0_copy 72 = .ok (.aload_n 1, 1) := by decide +kernel
theorem dX0_copy_73 : decode cX0_copy 73 = .ok (.getfield 28, 3) := by decide +kernel
theorem dX0_copy_76 : decode cX0_copy 76 = .ok (.iconst 0, 1) := by decide +kernel
theorem dX0_copy_77 : decode cX0_copy 77 = .ok (.aload_n 0, 1) := by decide +kernel
theorem dX0_copy_78 : decode cX0_copy 78 = .ok (.getfield 28, 3) := by decide +kernel
theorem dX0_copy_81 : decode cX0_copy 81 = .ok (.iconst 0, 1) := by decide +kernel
theorem dX0_copy_82 : decode cX0_copy 82 = .ok (.bipush 64, 2) := by decide +kernel
theorem dX0_copy_84 : decode cX0_copy 84 = .ok (.invokestatic 38, 3) := by decide +kernel
theorem dX0_copy_87 : decode cX0_copy 87 = .ok (.aload_n 1, 1) := by decide +kernel
theorem dX0_copy_88 : decode cX0_copy 88 = .ok (.getfield 31, 3) := by decide +kernel
theorem dX0_copy_91 : decode cX0_copy 91 = .ok (.iconst 0, 1) := by decide +kernel
theorem dX0_copy_92 : decode cX0_copy 92 = .ok (.aload_n 0, 1) := by decide +kernel
theorem dX0_copy_93 : decode cX0_copy 93 = .ok (.getfield 31, 3) := by decide +kernel
theorem dX0_copy_96 : decode cX0_copy 96 = .ok (.iconst 0, 1) := by decide +kernel
theorem dX0_copy_97 : decode cX0_copy 97 = .ok (.bipush 64, 2) := by decide +kernel
theorem dX0_copy_99 : decode cX0_copy 99 = .ok (.invokestatic 38, 3) := by decide +kernel
theorem dX0_copy_102 : decode cX0_copy 102 = .ok (.return_, 1) := by decide +kernel
theorem dX0_add_0 : decode cX0_add 0 = .ok (.aload_n 0, 1) := by decide +kernel
theorem dX0_add_1 : decode cX0_add 1 = .ok (.getfield 34, 3) := by decide +kernel
theorem dX0_add_4 : decode cX0_add 4 = .ok (.iconst 4, 1) := by decide +kernel
theorem dX0_add_5 : decode cX0_add 5 = .ok (.if_icmp .lt 6, 3) := by decide +kernel
theorem dX0_add_8 : decode cX0_add 8 = .ok (.bipush (-3), 2) := by decide +kernel
theorem dX0_add_10 : decode cX0_add 10 = .ok (.ireturn, 1) := by decide +kernel
theorem dX0_add_11 : decode cX0_add 11 = .ok (.aload_n 0, 1) := by decide +kernel
theorem dX0_add_12 : decode cX0_add 12 = .ok (.getfield 9, 3) := by decide +kernel
theorem dX0_add_15 : decode cX0_add 15 = .ok (.aload_n 0, 1) := by decide +kernel
theorem dX0_add_16 : decode cX0_add 16 = .ok (.getfield 34, 3) := by decide +kernel
theorem dX0_add_19 : decode cX0_add 19 = .ok (.iload_n 1, 1) := by decide +kernel
theorem dX0_add_20 : decode cX0_add 20 = .ok (.iastore, 1) := by decide +kernel
theorem dX0_add_21 : decode cX0_add 21 = .ok (.aload_n 0, 1) := by decide +kernel
theorem dX0_add_22 : decode cX0_add 22 = .ok (.getfield 15, 3) := by decide +kernel
theorem dX0_add_25 : decode cX0_add 25 = .ok (.aload_n 0, 1) := by decide +kernel
theorem dX0_add_26 : decode cX0_add 26 = .ok (.getfield 34, 3) := by decide +kernel
theorem dX0_add_29 : decode cX0_add 29 = .ok (.iload_n 2, 1) := by decide +kernel
theorem dX0_add_30 : decode cX0_add 30 = .ok (.iastore, 1) := by decide +kernel
theorem dX0_add_31 : decode cX0_add 31 = .ok (.aload_n 0, 1) := by decide +kernel
theorem dX0_add_32 : decode cX0_add 32 = .ok (.getfield 18, 3) := by decide +kernel
theorem dX0_add_35 : decode cX0_add 35 = .ok (.aload_n 0, 1) := by decide +kernel
theorem dX0_add_36 : decode cX0_add 36 = .ok (.getfield 34, 3) := by decide +kernel
theorem dX0_add_39 : decode cX0_add 39 = .ok (.iload_n 3, 1) := by decide +kernel
theorem dX0_add_40 : decode cX0_add 40 = .ok (.iastore, 1) := by decide +kernel
theorem dX0_add_41 : decode cX0_add 41 = .ok (.aload_n 0, 1) := by decide +kernel
theorem dX0_add_42 : decode cX0_add 42 = .ok (.getfield 21, 3) := by decide +kernel
theorem dX0_add_45 : decode cX0_add 45 = .ok (.aload_n 0, 1) := by decide +kernel
theorem dX0_add_46 : decode cX0_add 46 = .ok (.getfield 34, 3) := by decide +kernel
theorem dX0_add_49 : decode cX0_add 49 = .ok (.iload 4, 2) := by decide +kernel
theorem dX0_add_51 : decode cX0_add 51 = .ok (.iastore, 1) := by decide +kernel
theorem dX0_add_52 : decode cX0_add 52 = .ok (.aload_n 0, 1) := by decide +kernel
theorem dX0_add_53 : decode cX0_add 53 = .ok (.dup, 1) := by decide +kernel
theorem dX0_add_54 : decode cX0_add 54 = .ok (.getfield 34, 3) := by decide +kernel
theorem dX0_add_57 : decode cX0_add 57 = .ok (.iconst 1, 1) := by decide +kernel
theorem dX0_add_58 : decode cX0_add 58 = .ok (.iadd, 1) := by decide +kernel
theorem dX0_add_59 : decode cX0_add 59 = .ok (.putfield 34, 3) := by decide +kernel
theorem dX0_add_62 : decode cX0_add 62 = .ok (.aload_n 0, 1) := by decide +kernel
theorem dX0_add_63 : decode cX0_add 63 = .ok (.getfield 34, 3) := by decide +kernel
theorem dX0_add_66 : decode cX0_add 66 = .ok (.iconst 1, 1) := by decide +kernel
theorem dX0_add_67 : decode cX0_add 67 = .ok (.isub, 1) := by decide +kernel
theorem dX0_add_68 : decode cX0_add 68 = .ok (.ireturn, 1) := by decide +kernel
theorem dX0_hasFired_0 : decode cX0_hasFired 0 = .ok (.iload_n 1, 1) := by decide +kernel
theorem dX0_hasFired_1 : decode cX0_hasFired 1 = .ok (.ifCond .lt 21, 3) := by decide +kernel
theorem dX0_hasFired_4 : decode cX0_hasFired 4 = .ok (.iload_n 1, 1) := by decide +kernel
theorem dX0_hasFired_5 : decode cX0_hasFired 5 = .ok (.aload_n 0, 1) := by decide +kernel
theorem dX0_hasFired_6 : decode cX0_hasFired 6 = .ok (.getfield 44, 3) := by decide +kernel
theorem dX0_hasFired_9 : decode cX0_hasFired 9 = .ok (.if_icmp .ge 13, 3) := by decide +kernel
theorem dX0_hasFired_12 : decode cX0_hasFired 12 = .ok (.iload_n 1, 1) := by decide +kernel
theorem dX0_hasFired_13 : decode cX0_hasFired 13 = .ok (.bipush 64, 2) := by decide +kernel
theorem dX0_hasFired_15 : decode cX0_hasFired 15 = .ok (.if_icmp .ge 7, 3) := by decide +kernel
theorem dX0_hasFired_18 : decode cX0_hasFired 18 = .ok (.iconst 1, 1) := by decide +kernel
theorem dX0_hasFired_19 : decode cX0_hasFired 19 = .ok (.goto 4, 3) := by decide +kernel
theorem dX0_hasFired_22 : decode cX0_hasFired 22 = .ok (.iconst 0, 1) := by decide +kernel
theorem dX0_hasFired_23 : decode cX0_hasFired 23 = .ok (.ireturn, 1) := by decide +kernel
theorem dX0_fire_0 : decode cX0_fire 0 = .ok (.aload_n 0, 1) := by decide +kernel
theorem dX0_fire_1 : decode cX0_fire 1 = .ok (.getfield 24, 3) := by decide +kernel
theorem dX0_fire_4 : decode cX0_fire 4 = .ok (.iload_n 1, 1) := by decide +kernel
theorem dX0_fire_5 : decode cX0_fire 5 = .ok (.ldc2_w 47, 3) := by decide +kernel
theorem dX0_fire_8 : decode cX0_fire 8 = .ok (.dastore, 1) := by decide +kernel
theorem dX0_fire_9 : decode cX0_fire 9 = .ok (.aload_n 0, 1) := by decide +kernel
theorem dX0_fire_10 : decode cX0_fire 10 = .ok (.getfield 44, 3) := by decide +kernel
theorem dX0_fire_13 : decode cX0_fire 13 = .ok (.bipush 64, 2) := by decide +kernel
theorem dX0_fire_15 : decode cX0_fire 15 = .ok (.if_icmp .ge 23, 3) := by decide +kernel
theorem dX0_fire_18 : decode cX0_fire 18 = .ok (.aload_n 0, 1) := by decide +kernel
theorem dX0_fire_19 : decode cX0_fire 19 = .ok (.getfield 28, 3) := by decide +kernel
theorem dX0_fire_22 : decode cX0_fire 22 = .ok (.aload_n 0, 1) := by decide +kernel
theorem dX0_fire_23 : decode cX0_fire 23 = .ok (.getfield 44, 3) := by decide +kernel
theorem dX0_fire_26 : decode cX0_fire 26 = .ok (.iload_n 1, 1) := by decide +kernel
theorem dX0_fire_27 : decode cX0_fire 27 = .ok (.iastore, 1) := by decide +kernel
theorem dX0_fire_28 : decode cX0_fire 28 = .ok (.aload_n 0, 1) := by decide +kernel
theorem dX0_fire_29 : decode cX0_fire 29 = .ok (.getfield 31, 3) := by decide +kernel
theorem dX0_fire_32 : decode cX0_fire 32 = .ok (.aload_n 0, 1) := by decide +kernel
theorem dX0_fire_33 : decode cX0_fire 33 = .ok (.getfield 44, 3) := by decide +kernel
theorem dX0_fire_36 : decode cX0_fire 36 = .ok (.dload_n 2, 1) := by decide +kernel
theorem dX0_fire_37 : decode cX0_fire 37 = .ok (.dastore, 1) := by decide +kernel
theorem dX0_fire_38 : decode cX0_fire 38 = .ok (.aload_n 0, 1) := by decide +kernel
theorem dX0_fire_39 : decode cX0_fire 39 = .ok (.dup, 1) := by decide +kernel
theorem dX0_fire_40 : decode cX0_fire 40 = .ok (.getfield 44, 3) := by decide +kernel
theorem dX0_fire_43 : decode cX0_fire 43 = .ok (.iconst 1, 1) := by decide +kernel
theorem dX0_fire_44 : decode cX0_fire 44 = .ok (.iadd, 1) := by decide +kernel
theorem dX0_fire_45 : decode cX0_fire 45 = .ok (.putfield 44, 3) := by decide +kernel
theorem dX0_fire_48 : decode cX0_fire 48 = .ok (.return_, 1) := by decide +kernel
theorem dX0_earliest_0 : decode cX0_earliest 0 = .ok (.iconst (-1), 1) := by decide +kernel
theorem dX0_earliest_1 : decode cX0_earliest 1 = .ok (.istore_n 1, 1) := by decide +kernel
theorem dX0_earliest_2 : decode cX0_earliest 2 = .ok (.ldc2_w 47, 3) := by decide +kernel
theorem dX0_earliest_5 : decode cX0_earliest 5 = .ok (.dstore_n 2, 1) := by decide +kernel
theorem dX0_earliest_6 : decode cX0_earliest 6 = .ok (.iconst 0, 1) := by decide +kernel
theorem dX0_earliest_7 : decode cX0_earliest 7 = .ok (.istore 4, 2) := by decide +kernel
theorem dX0_earliest_9 : decode cX0_earliest 9 = .ok (.iload 4, 2) := by decide +kernel
theorem dX0_earliest_11 : decode cX0_earliest 11 = .ok (.aload_n 0, 1) := by decide +kernel
theorem dX0_earliest_12 : decode cX0_earliest 12 = .ok (.getfield 34, 3) := by decide +kernel
theorem dX0_earliest_15 : decode cX0_earliest 15 = .ok (.if_icmp .ge 32, 3) := by decide +kernel
theorem dX0_earliest_18 : decode cX0_earliest 18 = .ok (.aload_n 0, 1) := by decide +kernel
theorem dX0_earliest_19 : decode cX0_earliest 19 = .ok (.getfield 24, 3) := by decide +kernel
theorem dX0_earliest_22 : decode cX0_earliest 22 = .ok (.iload 4, 2) := by decide +kernel
theorem dX0_earliest_24 : decode cX0_earliest 24 = .ok (.daload, 1) := by decide +kernel
theorem dX0_earliest_25 : decode cX0_earliest 25 = .ok (.dload_n 2, 1) := by decide +kernel
theorem dX0_earliest_26 : decode cX0_earliest 26 = .ok (.dcmp .g, 1) := by decide +kernel
theorem dX0_earliest_27 : decode cX0_earliest 27 = .ok (.ifCond .ge 14, 3) := by decide +kernel
theorem dX0_earliest_30 : decode cX0_earliest 30 = .ok (.aload_n 0, 1) := by decide +kernel
theorem dX0_earliest_31 : decode cX0_earliest 31 = .ok (.getfield 24, 3) := by decide +kernel
theorem dX0_earliest_34 : decode cX0_earliest 34 = .ok (.iload 4, 2) := by decide +kernel
theorem dX0_earliest_36 : decode cX0_earliest 36 = .ok (.daload, 1) := by decide +kernel
theorem dX0_earliest_37 : decode cX0_earliest 37 = .ok (.dstore_n 2, 1) := by decide +kernel
theorem dX0_earliest_38 : decode cX0_earliest 38 = .ok (.iload 4, 2) := by decide +kernel
theorem dX0_earliest_40 : decode cX0_earliest 40 = .ok (.istore_n 1, 1) := by decide +kernel
theorem dX0_earliest_41 : decode cX0_earliest 41 = .ok (.iinc 4 1, 3) := by decide +kernel
theorem dX0_earliest_44 : decode cX0_earliest 44 = .ok (.goto (-35), 3) := by decide +kernel
theorem dX0_earliest_47 : decode cX0_earliest 47 = .ok (.iload_n 1, 1) := by decide +kernel
theorem dX0_earliest_48 : decode cX0_earliest 48 = .ok (.ireturn, 1) := by decide +kernel
theorem dX0_turn_0 : decode cX0_turn 0 = .ok (.iload_n 2, 1) := by decide +kernel
theorem dX0_turn_1 : decode cX0_turn 1 = .ok (.iconst (-1), 1) := by decide +kernel
theorem dX0_turn_2 : decode cX0_turn 2 = .ok (.if_icmp .ne 23, 3) := by decide +kernel
theorem dX0_turn_5 : decode cX0_turn 5 = .ok (.iload_n 3, 1) := by decide +kernel
theorem dX0_turn_6 : decode cX0_turn 6 = .ok (.ifCond .eq 8, 3) := by decide +kernel
theorem dX0_turn_9 : decode cX0_turn 9 = .ok (.iload_n 3, 1) := by decide +kernel
theorem dX0_turn_10 : decode cX0_turn 10 = .ok (.iconst 1, 1) := by decide +kernel
theorem dX0_turn_11 : decode cX0_turn 11 = .ok (.if_icmp .ne 14, 3) := by decide +kernel
theorem dX0_turn_14 : decode cX0_turn 14 = .ok (.aload_n 0, 1) := by decide +kernel
theorem dX0_turn_15 : decode cX0_turn 15 = .ok (.getfield 15, 3) := by decide +kernel
theorem dX0_turn_18 : decode cX0_turn 18 = .ok (.iload_n 1, 1) := by decide +kernel
theorem dX0_turn_19 : decode cX0_turn 19 = .ok (.iaload, 1) := by decide +kernel
theorem dX0_turn_20 : decode cX0_turn 20 = .ok (.ifCond .lt 5, 3) := by decide +kernel
theorem dX0_turn_23 : decode cX0_turn 23 = .ok (.iconst 1, 1) := by decide +kernel
theorem dX0_turn_24 : decode cX0_turn 24 = .ok (.ireturn, 1) := by decide +kernel
theorem dX0_turn_25 : decode cX0_turn 25 = .ok (.iload_n 2, 1) := by decide +kernel
theorem dX0_turn_26 : decode cX0_turn 26 = .ok (.iconst 1, 1) := by decide +kernel
theorem dX0_turn_27 : decode cX0_turn 27 = .ok (.if_icmp .ne 23, 3) := by decide +kernel
theorem dX0_turn_30 : decode cX0_turn 30 = .ok (.iload_n 3, 1) := by decide +kernel
theorem dX0_turn_31 : decode cX0_turn 31 = .ok (.ifCond .eq 8, 3) := by decide +kernel
theorem dX0_turn_34 : decode cX0_turn 34 = .ok (.iload_n 3, 1) := by decide +kernel
theorem dX0_turn_35 : decode cX0_turn 35 = .ok (.iconst (-1), 1) := by decide +kernel
theorem dX0_turn_36 : decode cX0_turn 36 = .ok (.if_icmp .ne 14, 3) := by decide +kernel
theorem dX0_turn_39 : decode cX0_turn 39 = .ok (.aload_n 0, 1) := by decide +kernel
theorem dX0_turn_40 : decode cX0_turn 40 = .ok (.getfield 15, 3) := by decide +kernel
theorem dX0_turn_43 : decode cX0_turn 43 = .ok (.iload_n 1, 1) := by decide +kernel
theorem dX0_turn_44 : decode cX0_turn 44 = .ok (.iaload, 1) := by decide +kernel
theorem dX0_turn_45 : decode cX0_turn 45 = .ok (.ifCond .gt 5, 3) := by decide +kernel
theorem dX0_turn_48 : decode cX0_turn 48 = .ok (.iconst (-1), 1) := by decide +kernel
theorem dX0_turn_49 : decode cX0_turn 49 = .ok (.ireturn, 1) := by decide +kernel
theorem dX0_turn_50 : decode cX0_turn 50 = .ok (.iconst 0, 1) := by decide +kernel
theorem dX0_turn_51 : decode cX0_turn 51 = .ok (.ireturn, 1) := by decide +kernel
theorem dX1_init_0 : decode cX1_init 0 = .ok (.aload_n 0, 1) := by decide +kernel
theorem dX1_init_1 : decode cX1_init 1 = .ok (.invokespecial 3, 3) := by decide +kernel
theorem dX1_init_4 : decode cX1_init 4 = .ok (.aload_n 0, 1) := by decide +kernel
theorem dX1_init_5 : decode cX1_init 5 = .ok (.iload_n 1, 1) := by decide +kernel
theorem dX1_init_6 : decode cX1_init 6 = .ok (.putfield 9, 3) := by decide +kernel
theorem dX1_init_9 : decode cX1_init 9 = .ok (.aload_n 0, 1) := by decide +kernel
theorem dX1_init_10 : decode cX1_init 10 = .ok (.iload_n 2, 1) := by decide +kernel
theorem dX1_init_11 : decode cX1_init 11 = .ok (.putfield 15, 3) := by decide +kernel
theorem dX1_init_14 : decode cX1_init 14 = .ok (.aload_n 0, 1) := by decide +kernel
theorem dX1_init_15 : decode cX1_init 15 = .ok (.iload_n 3, 1) := by decide +kernel
theorem dX1_init_16 : decode cX1_init 16 = .ok (.putfield 18, 3) := by decide +kernel
theorem dX1_init_19 : decode cX1_init 19 = .ok (.aload_n 0, 1) := by decide +kernel
theorem dX1_init_20 : decode cX1_init 20 = .ok (.aload 4, 2) := by decide +kernel
theorem dX1_init_22 : decode cX1_init 22 = .ok (.putfield 21, 3) := by decide +kernel
theorem dX1_init_25 : decode cX1_init 25 = .ok (.aload_n 0, 1) := by decide +kernel
theorem dX1_init_26 : decode cX1_init 26 = .ok (.aload 5, 2) := by decide +kernel
theorem dX1_init_28 : decode cX1_init 28 = .ok (.putfield 25, 3) := by decide +kernel
theorem dX1_init_31 : decode cX1_init 31 = .ok (.aload_n 0, 1) := by decide +kernel
theorem dX1_init_32 : decode cX1_init 32 = .ok (.bipush 48, 2) := by decide +kernel
theorem dX1_init_34 : decode cX1_init 34 = .ok (.newarray .int, 2) := by decide +kernel
theorem dX1_init_36 : decode cX1_init 36 = .ok (.putfield 29, 3) := by decide +kernel
theorem dX1_init_39 : decode cX1_init 39 = .ok (.aload_n 0, 1) := by decide +kernel
theorem dX1_init_40 : decode cX1_init 40 = .ok (.bipush 48, 2) := by decide +kernel
theorem dX1_init_42 : decode cX1_init 42 = .ok (.newarray .int, 2) := by decide +kernel
theorem dX1_init_44 : decode cX1_init 44 = .ok (.putfield 33, 3) := by decide +kernel
theorem dX1_init_47 : decode cX1_init 47 = .ok (.aload_n 0, 1) := by decide +kernel
theorem dX1_init_48 : decode cX1_init 48 = .ok (.bipush 48, 2) := by decide +kernel
theorem dX1_init_50 : decode cX1_init 50 = .ok (.newarray .int, 2) := by decide +kernel
theorem dX1_init_52 : decode cX1_init 52 = .ok (.putfield 36, 3) := by decide +kernel
theorem dX1_init_55 : decode cX1_init 55 = .ok (.aload_n 0, 1) := by decide +kernel
theorem dX1_init_56 : decode cX1_init 56 = .ok (.bipush 48, 2) := by decide +kernel
theorem dX1_init_58 : decode cX1_init 58 = .ok (.newarray .int, 2) := by decide +kernel
theorem dX1_init_60 : decode cX1_init 60 = .ok (.putfield 39, 3) := by decide +kernel
theorem dX1_init_63 : decode cX1_init 63 = .ok (.aload_n 0, 1) := by decide +kernel
theorem dX1_init_64 : decode cX1_init 64 = .ok (.bipush 48, 2) := by decide +kernel
theorem dX1_init_66 : decode cX1_init 66 = .ok (.newarray .double, 2) := by decide +kernel
theorem dX1_init_68 : decode cX1_init 68 = .ok (.putfield 42, 3) := by decide +kernel
theorem dX1_init_71 : decode cX1_init 71 = .ok (.aload_n 0, 1) := by decide +kernel
theorem dX1_init_72 : decode cX1_init 72 = .ok (.new 46, 3) := by decide +kernel
theorem dX1_init_75 : decode cX1_init 75 = .ok (.dup, 1) := by decide +kernel
theorem dX1_init_76 : decode cX1_init 76 = .ok (.bipush 48, 2) := by decide +kernel
theorem dX1_init_78 : decode cX1_init 78 = .ok (.invokespecial 48, 3) := by decide +kernel
theorem dX1_init_81 : decode cX1_init 81 = .ok (.putfield 51, 3) := by decide +kernel
theorem dX1_init_84 : decode cX1_init 84 = .ok (.aload_n 0, 1) := by decide +kernel
theorem dX1_init_85 : decode cX1_init 85 = .ok (.iload_n 2, 1) := by decide +kernel
theorem dX1_init_86 : decode cX1_init 86 = .ok (.newarray .int, 2) := by decide +kernel
theorem dX1_init_88 : decode cX1_init 88 = .ok (.putfield 55, 3) := by decide +kernel
theorem dX1_init_91 : decode cX1_init 91 = .ok (.iconst 0, 1) := by decide +kernel
theorem dX1_init_92 : decode cX1_init 92 = .ok (.istore 6, 2) := by decide +kernel
theorem dX1_init_94 : decode cX1_init 94 = .ok (.iload 6, 2) := by decide +kernel
theorem dX1_init_96 : decode cX1_init 96 = .ok (.iload_n 2, 1) := by decide +kernel
theorem dX1_init_97 : decode cX1_init 97 = .ok (.if_icmp .ge 17, 3) := by decide +kernel
theorem dX1_init_100 : decode cX1_init 100 = .ok (.aload_n 0, 1) := by decide +kernel
theorem dX1_init_101 : decode cX1_init 101 = .ok (.getfield 55, 3) := by decide +kernel
theorem dX1_init_104 : decode cX1_init 104 = .ok (.iload 6, 2) := by decide +kernel
theorem dX1_init_106 : decode cX1_init 106 = .ok (.iconst (-1), 1) := by decide +kernel
theorem dX1_init_107 : decode cX1_init 107 = .ok (.iastore, 1) := by decide +kernel
theorem dX1_init_108 : decode cX1_init 108 = .ok (.iinc 6 1, 3) := by decide +kernel
theorem dX1_init_111 : decode cX1_init 111 = .ok (.goto (-17), 3) := by decide +kernel
theorem dX1_init_114 : decode cX1_init 114 = .ok (.return_, 1) := by decide +kernel
theorem dX1_hasVariable_0 : decode cX1_hasVariable 0 = .ok (.iload_n 1, 1) := by decide +kernel
theorem dX1_hasVariable_1 : decode cX1_hasVariable 1 = .ok (.ifCond .lt 15, 3) := by decide +kernel
theorem dX1_hasVariable_4 : decode cX1_hasVariable 4 = .ok (.iload_n 1, 1) := by decide +kernel
theorem dX1_hasVariable_5 : decode cX1_hasVariable 5 = .ok (.aload_n 0, 1) := by decide +kernel
theorem dX1_hasVariable_6 : decode cX1_hasVariable 6 = .ok (.getfield 15, 3) := by decide +kernel
theorem dX1_hasVariable_9 : decode cX1_hasVariable 9 = .ok (.if_icmp .ge 7, 3) := by decide +kernel
theorem dX1_hasVariable_12 : decode cX1_hasVariable 12 = .ok (.iconst 1, 1) := by decide +kernel
theorem dX1_hasVariable_13 : decode cX1_hasVariable 13 = .ok (.goto 4, 3) := by decide +kernel
theorem dX1_hasVariable_16 : decode cX1_hasVariable 16 = .ok (.iconst 0, 1) := by decide +kernel
theorem dX1_hasVariable_17 : decode cX1_hasVariable 17 = .ok (.ireturn, 1) := by decide +kernel
theorem dX1_hasNode_0 : decode cX1_hasNode 0 = .ok (.iload_n 1, 1) := by decide +kernel
theorem dX1_hasNode_1 : decode cX1_hasNode 1 = .ok (.ifCond .lt 15, 3) := by decide +kernel
theorem dX1_hasNode_4 : decode cX1_hasNode 4 = .ok (.iload_n 1, 1) := by decide +kernel
theorem dX1_hasNode_5 : decode cX1_hasNode 5 = .ok (.aload_n 0, 1) := by decide +kernel
theorem dX1_hasNode_6 : decode cX1_hasNode 6 = .ok (.getfield 58, 3) := by decide +kernel
theorem dX1_hasNode_9 : decode cX1_hasNode 9 = .ok (.if_icmp .ge 7, 3) := by decide +kernel
theorem dX1_hasNode_12 : decode cX1_hasNode 12 = .ok (.iconst 1, 1) := by decide +kernel
theorem dX1_hasNode_13 : decode cX1_hasNode 13 = .ok (.goto 4, 3) := by decide +kernel
theorem dX1_hasNode_16 : decode cX1_hasNode 16 = .ok (.iconst 0, 1) := by decide +kernel
theorem dX1_hasNode_17 : decode cX1_hasNode 17 = .ok (.ireturn, 1) := by decide +kernel
theorem dX1_isNarrow_0 : decode cX1_isNarrow 0 = .ok (.aload_n 0, 1) := by decide +kernel
theorem dX1_isNarrow_1 : decode cX1_isNarrow 1 = .ok (.getfield 18, 3) := by decide +kernel
theorem dX1_isNarrow_4 : decode cX1_isNarrow 4 = .ok (.iload_n 1, 1) := by decide +kernel
theorem dX1_isNarrow_5 : decode cX1_isNarrow 5 = .ok (.ishr, 1) := by decide +kernel
theorem dX1_isNarrow_6 : decode cX1_isNarrow 6 = .ok (.iconst 1, 1) := by decide +kernel
theorem dX1_isNarrow_7 : decode cX1_isNarrow 7 = .ok (.iand, 1) := by decide +kernel
theorem dX1_isNarrow_8 : decode cX1_isNarrow 8 = .ok (.iconst 1, 1) := by decide +kernel
theorem dX1_isNarrow_9 : decode cX1_isNarrow 9 = .ok (.if_icmp .ne 7, 3) := by decide +kernel
theorem dX1_isNarrow_12 : decode cX1_isNarrow 12 = .ok (.iconst 1, 1) := by decide +kernel
theorem dX1_isNarrow_13 : decode cX1_isNarrow 13 = .ok (.goto 4, 3) := by decide +kernel
theorem dX1_isNarrow_16 : decode cX1_isNarrow 16 = .ok (.iconst 0, 1) := by decide +kernel
theorem dX1_isNarrow_17 : decode cX1_isNarrow 17 = .ok (.ireturn, 1) := by decide +kernel
theorem dX1_isReady_0 : decode cX1_isReady 0 = .ok (.iconst 0, 1) := by decide +kernel
theorem dX1_isReady_1 : decode cX1_isReady 1 = .ok (.istore_n 1, 1) := by decide +kernel
theorem dX1_isReady_2 : decode cX1_isReady 2 = .ok (.iload_n 1, 1) := by decide +kernel
theorem dX1_isReady_3 : decode cX1_isReady 3 = .ok (.aload_n 0, 1) := by decide +kernel
theorem dX1_isReady_4 : decode cX1_isReady 4 = .ok (.getfield 15, 3) := by decide +kernel
theorem dX1_isReady_7 : decode cX1_isReady 7 = .ok (.if_icmp .ge 20, 3) := by decide +kernel
theorem dX1_isReady_10 : decode cX1_isReady 10 = .ok (.aload_n 0, 1) := by decide +kernel
theorem dX1_isReady_11 : decode cX1_isReady 11 = .ok (.getfield 55, 3) := by decide +kernel
theorem dX1_isReady_14 : decode cX1_isReady 14 = .ok (.iload_n 1, 1) := by decide +kernel
theorem dX1_isReady_15 : decode cX1_isReady 15 = .ok (.iaload, 1) := by decide +kernel
theorem dX1_isReady_16 : decode cX1_isReady 16 = .ok (.ifCond .ge 5, 3) := by decide +kernel
theorem dX1_isReady_19 : decode cX1_isReady 19 = .ok (.iconst 0, 1) := by decide +kernel
theorem dX1_isReady_20 : decode cX1_isReady 20 = .ok (.ireturn, 1) := by decide +kernel
theorem dX1_isReady_21 : decode cX1_isReady 21 = .ok (.iinc 1 1, 3) := by decide +kernel
theorem dX1_isReady_24 : decode cX1_isReady 24 = .ok (.goto (-22), 3) := by decide +kernel
theorem dX1_isReady_27 : decode cX1_isReady 27 = .ok (.iconst 1, 1) := by decide +kernel
theorem dX1_isReady_28 : decode cX1_isReady 28 = .ok (.ireturn, 1) := by decide +kernel
theorem dX1_add_0 : decode cX1_add 0 = .ok (.aload_n 0, 1) := by decide +kernel
theorem dX1_add_1 : decode cX1_add 1 = .ok (.getfield 58, 3) := by decide +kernel
theorem dX1_add_4 : decode cX1_add 4 = .ok (.bipush 48, 2) := by decide +kernel
theorem dX1_add_6 : decode cX1_add 6 = .ok (.if_icmp .lt 6, 3) := by decide +kernel
theorem dX1_add_9 : decode cX1_add 9 = .ok (.bipush (-3), 2) := by decide +kernel
theorem dX1_add_11 : decode cX1_add 11 = .ok (.ireturn, 1) := by decide +kernel
theorem dX1_add_12 : decode cX1_add 12 = .ok (.aload_n 0, 1) := by decide +kernel
theorem dX1_add_13 : decode cX1_add 13 = .ok (.getfield 29, 3) := by decide +kernel
theorem dX1_add_16 : decode cX1_add 16 = .ok (.aload_n 0, 1) := by decide +kernel
theorem dX1_add_17 : decode cX1_add 17 = .ok (.getfield 58, 3) := by decide +kernel
theorem dX1_add_20 : decode cX1_add 20 = .ok (.iload_n 1, 1) := by decide +kernel
theorem dX1_add_21 : decode cX1_add 21 = .ok (.iastore, 1) := by decide +kernel
theorem dX1_add_22 : decode cX1_add 22 = .ok (.aload_n 0, 1) := by decide +kernel
theorem dX1_add_23 : decode cX1_add 23 = .ok (.getfield 33, 3) := by decide +kernel
theorem dX1_add_26 : decode cX1_add 26 = .ok (.aload_n 0, 1) := by decide +kernel
theorem dX1_add_27 : decode cX1_add 27 = .ok (.getfield 58, 3) := by decide +kernel
theorem dX1_add_30 : decode cX1_add 30 = .ok (.iload_n 2, 1) := by decide +kernel
theorem dX1_add_31 : decode cX1_add 31 = .ok (.iastore, 1) := by decide +kernel
theorem dX1_add_32 : decode cX1_add 32 = .ok (.aload_n 0, 1) := by decide +kernel
theorem dX1_add_33 : decode cX1_add 33 = .ok (.getfield 36, 3) := by decide +kernel
theorem dX1_add_36 : decode cX1_add 36 = .ok (.aload_n 0, 1) := by decide +kernel
theorem dX1_add_37 : decode cX1_add 37 = .ok (.getfield 58, 3) := by decide +kernel
theorem dX1_add_40 : decode cX1_add 40 = .ok (.iload_n 3, 1) := by decide +kernel
theorem dX1_add_41 : decode cX1_add 41 = .ok (.iastore, 1) := by decide +kernel
theorem dX1_add_42 : decode cX1_add 42 = .ok (.aload_n 0, 1) := by decide +kernel
theorem dX1_add_43 : decode cX1_add 43 = .ok (.getfield 39, 3) := by decide +kernel
theorem dX1_add_46 : decode cX1_add 46 = .ok (.aload_n 0, 1) := by decide +kernel
theorem dX1_add_47 : decode cX1_add 47 = .ok (.getfield 58, 3) := by decide +kernel
theorem dX1_add_50 : decode cX1_add 50 = .ok (.iload 4, 2) := by decide +kernel
theorem dX1_add_52 : decode cX1_add 52 = .ok (.iastore, 1) := by decide +kernel
theorem dX1_add_53 : decode cX1_add 53 = .ok (.aload_n 0, 1) := by decide +kernel
theorem dX1_add_54 : decode cX1_add 54 = .ok (.getfield 42, 3) := by decide +kernel
theorem dX1_add_57 : decode cX1_add 57 = .ok (.aload_n 0, 1) := by decide +kernel
theorem dX1_add_58 : decode cX1_add 58 = .ok (.getfield 58, 3) := by decide +kernel
theorem dX1_add_61 : decode cX1_add 61 = .ok (.dload 5, 2) := by decide +kernel
theorem dX1_add_63 : decode cX1_add 63 = .ok (.dastore, 1) := by decide +kernel
theorem dX1_add_64 : decode cX1_add 64 = .ok (.aload_n 0, 1) := by decide +kernel
theorem dX1_add_65 : decode cX1_add 65 = .ok (.dup, 1) := by decide +kernel
theorem dX1_add_66 : decode cX1_add 66 = .ok (.getfield 58, 3) := by decide +kernel
theorem dX1_add_69 : decode cX1_add 69 = .ok (.iconst 1, 1) := by decide +kernel
theorem dX1_add_70 : decode cX1_add 70 = .ok (.iadd, 1) := by decide +kernel
theorem dX1_add_71 : decode cX1_add 71 = .ok (.putfield 58, 3) := by decide +kernel
theorem dX1_add_74 : decode cX1_add 74 = .ok (.aload_n 0, 1) := by decide +kernel
theorem dX1_add_75 : decode cX1_add 75 = .ok (.getfield 58, 3) := by decide +kernel
theorem dX1_add_78 : decode cX1_add 78 = .ok (.iconst 1, 1) := by decide +kernel
theorem dX1_add_79 : decode cX1_add 79 = .ok (.isub, 1) := by decide +kernel
theorem dX1_add_80 : decode cX1_add 80 = .ok (.ireturn, 1) := by decide +kernel
theorem dX1_putSide_0 : decode cX1_putSide 0 = .ok (.aload_n 0, 1) := by decide +kernel
theorem dX1_putSide_1 : decode cX1_putSide 1 = .ok (.getfield 55, 3) := by decide +kernel
theorem dX1_putSide_4 : decode cX1_putSide 4 = .ok (.iload_n 1, 1) := by decide +kernel
theorem dX1_putSide_5 : decode cX1_putSide 5 = .ok (.iload_n 2, 1) := by decide +kernel
theorem dX1_putSide_6 : decode cX1_putSide 6 = .ok (.iastore, 1) := by decide +kernel
theorem dX1_putSide_7 : decode cX1_putSide 7 = .ok (.aload_n 0, 1) := by decide +kernel
theorem dX1_putSide_8 : decode cX1_putSide 8 = .ok (.iconst 0, 1) := by decide +kernel
theorem dX1_putSide_9 : decode cX1_putSide 9 = .ok (.putfield 61, 3) := by decide +kernel
theorem dX1_putSide_12 : decode cX1_putSide 12 = .ok (.iconst 0, 1) := by decide +kernel
theorem dX1_putSide_13 : decode cX1_putSide 13 = .ok (.istore_n 3, 1) := by decide +kernel
theorem dX1_putSide_14 : decode cX1_putSide 14 = .ok (.iload_n 3, 1) := by decide +kernel
theorem dX1_putSide_15 : decode cX1_putSide 15 = .ok (.aload_n 0, 1) := by decide +kernel
theorem dX1_putSide_16 : decode cX1_putSide 16 = .ok (.getfield 15, 3) := by decide +kernel
theorem dX1_putSide_19 : decode cX1_putSide 19 = .ok (.if_icmp .ge 28, 3) := by decide +kernel
theorem dX1_putSide_22 : decode cX1_putSide 22 = .ok (.aload_n 0, 1) := by decide +kernel
theorem dX1_putSide_23 : decode cX1_putSide 23 = .ok (.aload_n 0, 1) := by decide +kernel
theorem dX1_putSide_24 : decode cX1_putSide 24 = .ok (.getfield 61, 3) := by decide +kernel
theorem dX1_putSide_27 : decode cX1_putSide 27 = .ok (.aload_n 0, 1) := by decide +kernel
theorem dX1_putSide_28 : decode cX1_putSide 28 = .ok (.getfield 55, 3) := by decide +kernel
theorem dX1_putSide_31 : decode cX1_putSide 31 = .ok (.iload_n 3, 1) := by decide +kernel
theorem dX1_putSide_32 : decode cX1_putSide 32 = .ok (.iaload, 1) := by decide +kernel
theorem dX1_putSide_33 : decode cX1_putSide 33 = .ok (.iconst 1, 1) := by decide +kernel
theorem dX1_putSide_34 : decode cX1_putSide 34 = .ok (.iadd, 1) := by decide +kernel
theorem dX1_putSide_35 : decode cX1_putSide 35 = .ok (.invokestatic 64, 3) := by decide +kernel
theorem dX1_putSide_38 : decode cX1_putSide 38 = .ok (.putfield 61, 3) := by decide +kernel
theorem dX1_putSide_41 : decode cX1_putSide 41 = .ok (.iinc 3 1, 3) := by decide +kernel
theorem dX1_putSide_44 : decode cX1_putSide 44 = .ok (.goto (-30), 3) := by decide +kernel
theorem dX1_putSide_47 : decode cX1_putSide 47 = .ok (.return_, 1) := by decide +kernel
theorem dX1_reckonNodes_0 : decode cX1_reckonNodes 0 = .ok (.iconst 0, 1) := by decide +kernel
theorem dX1_reckonNodes_1 : decode cX1_reckonNodes 1 = .ok (.istore 5, 2) := by decide +kernel
theorem dX1_reckonNodes_3 : decode cX1_reckonNodes 3 = .ok (.iload 5, 2) := by decide +kernel
theorem dX1_reckonNodes_5 : decode cX1_reckonNodes 5 = .ok (.iload 4, 2) := by decide +kernel
theorem dX1_reckonNodes_7 : decode cX1_reckonNodes 7 = .ok (.if_icmp .ge 45, 3) := by decide +kernel
theorem dX1_reckonNodes_10 : decode cX1_reckonNodes 10 = .ok (.aload_n 0, 1) := by decide +kernel
theorem dX1_reckonNodes_11 : decode cX1_reckonNodes 11 = .ok (.getfield 25, 3) := by decide +kernel
theorem dX1_reckonNodes_14 : decode cX1_reckonNodes 14 = .ok (.invokevirtual 70, 3) := by decide +kernel
theorem dX1_reckonNodes_17 : decode cX1_reckonNodes 17 = .ok (.aload_n 0, 1) := by decide +kernel
theorem dX1_reckonNodes_18 : decode cX1_reckonNodes 18 = .ok (.iload 5, 2) := by decide +kernel
theorem dX1_reckonNodes_20 : decode cX1_reckonNodes 20 = .ok (.dload_n 1, 1) := by decide +kernel
theorem dX1_reckonNodes_21 : decode cX1_reckonNodes 21 = .ok (.aload_n 3, 1) := by decide +kernel
theorem dX1_reckonNodes_22 : decode cX1_reckonNodes 22 = .ok (.invokevirtual 75, 3) := by decide +kernel
theorem dX1_reckonNodes_25 : decode cX1_reckonNodes 25 = .ok (.dstore 6, 2) := by decide +kernel
theorem dX1_reckonNodes_27 : decode cX1_reckonNodes 27 = .ok (.aload_n 0, 1) := by decide +kernel
theorem dX1_reckonNodes_28 : decode cX1_reckonNodes 28 = .ok (.getfield 51, 3) := by decide +kernel
theorem dX1_reckonNodes_31 : decode cX1_reckonNodes 31 = .ok (.iload 5, 2) := by decide +kernel
theorem dX1_reckonNodes_33 : decode cX1_reckonNodes 33 = .ok (.dload 6, 2) := by decide +kernel
theorem dX1_reckonNodes_35 : decode cX1_reckonNodes 35 = .ok (.aload_n 0, 1) := by decide +kernel
theorem dX1_reckonNodes_36 : decode cX1_reckonNodes 36 = .ok (.getfield 25, 3) := by decide +kernel
theorem dX1_reckonNodes_39 : decode cX1_reckonNodes 39 = .ok (.getfield 79, 3) := by decide +kernel
theorem dX1_reckonNodes_42 : decode cX1_reckonNodes 42 = .ok (.iconst 0, 1) := by decide +kernel
theorem dX1_reckonNodes_43 : decode cX1_reckonNodes 43 = .ok (.invokevirtual 83, 3) := by decide +kernel
theorem dX1_reckonNodes_46 : decode cX1_reckonNodes 46 = .ok (.iinc 5 1, 3) := by decide +kernel
theorem dX1_reckonNodes_49 : decode cX1_reckonNodes 49 = .ok (.goto (-46), 3) := by decide +kernel
theorem dX1_reckonNodes_52 : decode cX1_reckonNodes 52 = .ok (.return_, 1) := by decide +kernel
theorem dX1_readSides_0 : decode cX1_readSides 0 = .ok (.iconst 0, 1) := by decide +kernel
theorem dX1_readSides_1 : decode cX1_readSides 1 = .ok (.istore_n 2, 1) := by decide +kernel
theorem dX1_readSides_2 : decode cX1_readSides 2 = .ok (.iload_n 2, 1) := by decide +kernel
theorem dX1_readSides_3 : decode cX1_readSides 3 = .ok (.aload_n 0, 1) := by decide +kernel
theorem dX1_readSides_4 : decode cX1_readSides 4 = .ok (.getfield 15, 3) := by decide +kernel
theorem dX1_readSides_7 : decode cX1_readSides 7 = .ok (.if_icmp .ge 50, 3) := by decide +kernel
theorem dX1_readSides_10 : decode cX1_readSides 10 = .ok (.aload_n 0, 1) := by decide +kernel
theorem dX1_readSides_11 : decode cX1_readSides 11 = .ok (.getfield 55, 3) := by decide +kernel
theorem dX1_readSides_14 : decode cX1_readSides 14 = .ok (.iload_n 2, 1) := by decide +kernel
theorem dX1_readSides_15 : decode cX1_readSides 15 = .ok (.iaload, 1) := by decide +kernel
theorem dX1_readSides_16 : decode cX1_readSides 16 = .ok (.istore_n 3, 1) := by decide +kernel
theorem dX1_readSides_17 : decode cX1_readSides 17 = .ok (.iload_n 3, 1) := by decide +kernel
theorem dX1_readSides_18 : decode cX1_readSides 18 = .ok (.ifCond .lt 33, 3) := by decide +kernel
theorem dX1_readSides_21 : decode cX1_readSides 21 = .ok (.aload_n 1, 1) := by decide +kernel
theorem dX1_readSides_22 : decode cX1_readSides 22 = .ok (.getfield 87, 3) := by decide +kernel
theorem dX1_readSides_25 : decode cX1_readSides 25 = .ok (.iload_n 2, 1) := by decide +kernel
theorem dX1_readSides_26 : decode cX1_readSides 26 = .ok (.aload_n 0, 1) := by decide +kernel
theorem dX1_readSides_27 : decode cX1_readSides 27 = .ok (.getfield 51, 3) := by decide +kernel
theorem dX1_readSides_30 : decode cX1_readSides 30 = .ok (.getfield 87, 3) := by decide +kernel
theorem dX1_readSides_33 : decode cX1_readSides 33 = .ok (.iload_n 3, 1) := by decide +kernel
theorem dX1_readSides_34 : decode cX1_readSides 34 = .ok (.daload, 1) := by decide +kernel
theorem dX1_readSides_35 : decode cX1_readSides 35 = .ok (.dastore, 1) := by decide +kernel
theorem dX1_readSides_36 : decode cX1_readSides 36 = .ok (.aload_n 1, 1) := by decide +kernel
theorem dX1_readSides_37 : decode cX1_readSides 37 = .ok (.getfield 89, 3) := by decide +kernel
theorem dX1_readSides_40 : decode cX1_readSides 40 = .ok (.iload_n 2, 1) := by decide +kernel
theorem dX1_readSides_41 : decode cX1_readSides 41 = .ok (.aload_n 0, 1) := by decide +kernel
theorem dX1_readSides_42 : decode cX1_readSides 42 = .ok (.getfield 51, 3) := by decide +kernel
theorem dX1_readSides_45 : decode cX1_readSides 45 = .ok (.getfield 89, 3) := by decide +kernel
theorem dX1_readSides_48 : decode cX1_readSides 48 = .ok (.iload_n 3, 1) := by decide +kernel
theorem dX1_readSides_49 : decode cX1_readSides 49 = .ok (.baload, 1) := by decide +kernel
theorem dX1_readSides_50 : decode cX1_readSides 50 = .ok (.bastore, 1) := by decide +kernel
theorem dX1_readSides_51 : decode cX1_readSides 51 = .ok (.iinc 2 1, 3) := by decide +kernel
theorem dX1_readSides_54 : decode cX1_readSides 54 = .ok (.goto (-52), 3) := by decide +kernel
theorem dX1_readSides_57 : decode cX1_readSides 57 = .ok (.return_, 1) := by decide +kernel
theorem dX1_reckoned_0 : decode cX1_reckoned 0 = .ok (.aload_n 0, 1) := by decide +kernel
theorem dX1_reckoned_1 : decode cX1_reckoned 1 = .ok (.getfield 33, 3) := by decide +kernel
theorem dX1_reckoned_4 : decode cX1_reckoned 4 = .ok (.iload_n 1, 1) := by decide +kernel
theorem dX1_reckoned_5 : decode cX1_reckoned 5 = .ok (.iaload, 1) := by decide +kernel
theorem dX1_reckoned_6 : decode cX1_reckoned 6 = .ok (.istore 5, 2) := by decide +kernel
theorem dX1_reckoned_8 : decode cX1_reckoned 8 = .ok (.aload_n 0, 1) := by decide +kernel
theorem dX1_reckoned_9 : decode cX1_reckoned 9 = .ok (.getfield 36, 3) := by decide +kernel
theorem dX1_reckoned_12 : decode cX1_reckoned 12 = .ok (.iload_n 1, 1) := by decide +kernel
theorem dX1_reckoned_13 : decode cX1_reckoned 13 = .ok (.iaload, 1) := by decide +kernel
theorem dX1_reckoned_14 : decode cX1_reckoned 14 = .ok (.istore 6, 2) := by decide +kernel
theorem dX1_reckoned_16 : decode cX1_reckoned 16 = .ok (.aload_n 0, 1) := by decide +kernel
theorem dX1_reckoned_17 : decode cX1_reckoned 17 = .ok (.getfield 29, 3) := by decide +kernel
theorem dX1_reckoned_20 : decode cX1_reckoned 20 = .ok (.iload_n 1, 1) := by decide +kernel
theorem dX1_reckoned_21 : decode cX1_reckoned 21 = .ok (.iaload, 1) := by decide +kernel
theorem dX1_reckoned_22 : decode cX1_reckoned 22 = .ok (.tableswitch 426 0 12 #[66, 78, 80, 114, 148, 182, 216, 231, 248, 282, 316, 349, 381], 66) := by decide +kernel
theorem dX1_reckoned_88 : decode cX1_reckoned 88 = .ok (.aload_n 0, 1) := by decide +kernel
theorem dX1_reckoned_89 : decode cX1_reckoned 89 = .ok (.getfield 25, 3) := by decide +kernel
theorem dX1_reckoned_92 : decode cX1_reckoned 92 = .ok (.aload 4, 2) := by decide +kernel
theorem dX1_reckoned_94 : decode cX1_reckoned 94 = .ok (.iload 5, 2) := by decide +kernel
theorem dX1_reckoned_96 : decode cX1_reckoned 96 = .ok (.invokevirtual 92, 3) := by decide +kernel
theorem dX1_reckoned_99 : decode cX1_reckoned 99 = .ok (.dreturn, 1) := by decide +kernel
theorem dX1_reckoned_100 : decode cX1_reckoned 100 = .ok (.dload_n 2, 1) := by decide +kernel
theorem dX1_reckoned_101 : decode cX1_reckoned 101 = .ok (.dreturn, 1) := by decide +kernel
theorem dX1_reckoned_102 : decode cX1_reckoned 102 = .ok (.aload_n 0, 1) := by decide +kernel
theorem dX1_reckoned_103 : decode cX1_reckoned 103 = .ok (.getfield 25, 3) := by decide +kernel
theorem dX1_reckoned_106 : decode cX1_reckoned 106 = .ok (.aload_n 0, 1) := by decide +kernel
theorem dX1_reckoned_107 : decode cX1_reckoned 107 = .ok (.getfield 25, 3) := by decide +kernel
theorem dX1_reckoned_110 : decode cX1_reckoned 110 = .ok (.aload_n 0, 1) := by decide +kernel
theorem dX1_reckoned_111 : decode cX1_reckoned 111 = .ok (.getfield 51, 3) := by decide +kernel
theorem dX1_reckoned_114 : decode cX1_reckoned 114 = .ok (.iload 5, 2) := by decide +kernel
theorem dX1_reckoned_116 : decode cX1_reckoned 116 = .ok (.invokevirtual 92, 3) := by decide +kernel
theorem dX1_reckoned_119 : decode cX1_reckoned 119 = .ok (.aload_n 0, 1) := by decide +kernel
theorem dX1_reckoned_120 : decode cX1_reckoned 120 = .ok (.getfield 25, 3) := by decide +kernel
theorem dX1_reckoned_123 : decode cX1_reckoned 123 = .ok (.aload_n 0, 1) := by decide +kernel
theorem dX1_reckoned_124 : decode cX1_reckoned 124 = .ok (.getfield 51, 3) := by decide +kernel
theorem dX1_reckoned_127 : decode cX1_reckoned 127 = .ok (.iload 6, 2) := by decide +kernel
theorem dX1_reckoned_129 : decode cX1_reckoned 129 = .ok (.invokevirtual 92, 3) := by decide +kernel
theorem dX1_reckoned_132 : decode cX1_reckoned 132 = .ok (.invokevirtual 96, 3) := by decide +kernel
theorem dX1_reckoned_135 : decode cX1_reckoned 135 = .ok (.dreturn, 1) := by decide +kernel
theorem dX1_reckoned_136 : decode cX1_reckoned 136 = .ok (.aload_n 0, 1) := by decide +kernel
theorem dX1_reckoned_137 : decode cX1_reckoned 137 = .ok (.getfield 25, 3) := by decide +kernel
theorem dX1_reckoned_140 : decode cX1_reckoned 140 = .ok (.aload_n 0, 1) := by decide +kernel
theorem dX1_reckoned_141 : decode cX1_reckoned 141 = .ok (.getfield 25, 3) := by decide +kernel
theorem dX1_reckoned_144 : decode cX1_reckoned 144 = .ok (.aload_n 0, 1) := by decide +kernel
theorem dX1_reckoned_145 : decode cX1_reckoned 145 = .ok (.getfield 51, 3) := by decide +kernel
theorem dX1_reckoned_148 : decode cX1_reckoned 148 = .ok (.iload 5, 2) := by decide +kernel
theorem dX1_reckoned_150 : decode cX1_reckoned 150 = .ok (.invokevirtual 92, 3) := by decide +kernel
theorem dX1_reckoned_153 : decode cX1_reckoned 153 = .ok (.aload_n 0, 1) := by decide +kernel
theorem dX1_reckoned_154 : decode cX1_reckoned 154 = .ok (.getfield 25, 3) := by decide +kernel
theorem dX1_reckoned_157 : decode cX1_reckoned 157 = .ok (.aload_n 0, 1) := by decide +kernel
theorem dX1_reckoned_158 : decode cX1_reckoned 158 = .ok (.getfield 51, 3) := by decide +kernel
theorem dX1_reckoned_161 : decode cX1_reckoned 161 = .ok (.iload 6, 2) := by decide +kernel
theorem dX1_reckoned_163 : decode cX1_reckoned 163 = .ok (.invokevirtual 92, 3) := by decide +kernel
theorem dX1_reckoned_166 : decode cX1_reckoned 166 = .ok (.invokevirtual 100, 3) := by decide +kernel
theorem dX1_reckoned_169 : decode cX1_reckoned 169 = .ok (.dreturn, 1) := by decide +kernel
theorem dX1_reckoned_170 : decode cX1_reckoned 170 = .ok (.aload_n 0, 1) := by decide +kernel
theorem dX1_reckoned_171 : decode cX1_reckoned 171 = .ok (.getfield 25, 3) := by decide +kernel
theorem dX1_reckoned_174 : decode cX1_reckoned 174 = .ok (.aload_n 0, 1) := by decide +kernel
theorem dX1_reckoned_175 : decode cX1_reckoned 175 = .ok (.getfield 25, 3) := by decide +kernel
theorem dX1_reckoned_178 : decode cX1_reckoned 178 = .ok (.aload_n 0, 1) := by decide +kernel
theorem dX1_reckoned_179 : decode cX1_reckoned 179 = .ok (.getfield 51, 3) := by decide +kernel
theorem dX1_reckoned_182 : decode cX1_reckoned 182 = .ok (.iload 5, 2) := by decide +kernel
theorem dX1_reckoned_184 : decode cX1_reckoned 184 = .ok (.invokevirtual 92, 3) := by decide +kernel
theorem dX1_reckoned_187 : decode cX1_reckoned 187 = .ok (.aload_n 0, 1) := by decide +kernel
theorem dX1_reckoned_188 : decode cX1_reckoned 188 = .ok (.getfield 25, 3) := by decide +kernel
theorem dX1_reckoned_191 : decode cX1_reckoned 191 = .ok (.aload_n 0, 1) := by decide +kernel
theorem dX1_reckoned_192 : decode cX1_reckoned 192 = .ok (.getfield 51, 3) := by decide +kernel
theorem dX1_reckoned_195 : decode cX1_reckoned 195 = .ok (.iload 6, 2) := by decide +kernel
theorem dX1_reckoned_197 : decode cX1_reckoned 197 = .ok (.invokevirtual 92, 3) := by decide +kernel
theorem dX1_reckoned_200 : decode cX1_reckoned 200 = .ok (.invokevirtual 103, 3) := by decide +kernel
theorem dX1_reckoned_203 : decode cX1_reckoned 203 = .ok (.dreturn, 1) := by decide +kernel
theorem dX1_reckoned_204 : decode cX1_reckoned 204 = .ok (.aload_n 0, 1) := by decide +kernel
theorem dX1_reckoned_205 : decode cX1_reckoned 205 = .ok (.getfield 25, 3) := by decide +kernel
theorem dX1_reckoned_208 : decode cX1_reckoned 208 = .ok (.aload_n 0, 1) := by decide +kernel
theorem dX1_reckoned_209 : decode cX1_reckoned 209 = .ok (.getfield 25, 3) := by decide +kernel
theorem dX1_reckoned_212 : decode cX1_reckoned 212 = .ok (.aload_n 0, 1) := by decide +kernel
theorem dX1_reckoned_213 : decode cX1_reckoned 213 = .ok (.getfield 51, 3) := by decide +kernel
theorem dX1_reckoned_216 : decode cX1_reckoned 216 = .ok (.iload 5, 2) := by decide +kernel
theorem dX1_reckoned_218 : decode cX1_reckoned 218 = .ok (.invokevirtual 92, 3) := by decide +kernel
theorem dX1_reckoned_221 : decode cX1_reckoned 221 = .ok (.aload_n 0, 1) := by decide +kernel
theorem dX1_reckoned_222 : decode cX1_reckoned 222 = .ok (.getfield 25, 3) := by decide +kernel
theorem dX1_reckoned_225 : decode cX1_reckoned 225 = .ok (.aload_n 0, 1) := by decide +kernel
theorem dX1_reckoned_226 : decode cX1_reckoned 226 = .ok (.getfield 51, 3) := by decide +kernel
theorem dX1_reckoned_229 : decode cX1_reckoned 229 = .ok (.iload 6, 2) := by decide +kernel
theorem dX1_reckoned_231 : decode cX1_reckoned 231 = .ok (.invokevirtual 92, 3) := by decide +kernel
theorem dX1_reckoned_234 : decode cX1_reckoned 234 = .ok (.invokevirtual 106, 3) := by decide +kernel
theorem dX1_reckoned_237 : decode cX1_reckoned 237 = .ok (.dreturn, 1) := by decide +kernel
theorem dX1_reckoned_238 : decode cX1_reckoned 238 = .ok (.aload_n 0, 1) := by decide +kernel
theorem dX1_reckoned_239 : decode cX1_reckoned 239 = .ok (.getfield 25, 3) := by decide +kernel
theorem dX1_reckoned_242 : decode cX1_reckoned 242 = .ok (.aload_n 0, 1) := by decide +kernel
theorem dX1_reckoned_243 : decode cX1_reckoned 243 = .ok (.getfield 51, 3) := by decide +kernel
theorem dX1_reckoned_246 : decode cX1_reckoned 246 = .ok (.iload 5, 2) := by decide +kernel
theorem dX1_reckoned_248 : decode cX1_reckoned 248 = .ok (.invokevirtual 92, 3) := by decide +kernel
theorem dX1_reckoned_251 : decode cX1_reckoned 251 = .ok (.dneg, 1) := by decide +kernel
theorem dX1_reckoned_252 : decode cX1_reckoned 252 = .ok (.dreturn, 1) := by decide +kernel
theorem dX1_reckoned_253 : decode cX1_reckoned 253 = .ok (.aload_n 0, 1) := by decide +kernel
theorem dX1_reckoned_254 : decode cX1_reckoned 254 = .ok (.getfield 25, 3) := by decide +kernel
theorem dX1_reckoned_257 : decode cX1_reckoned 257 = .ok (.aload_n 0, 1) := by decide +kernel
theorem dX1_reckoned_258 : decode cX1_reckoned 258 = .ok (.getfield 51, 3) := by decide +kernel
theorem dX1_reckoned_261 : decode cX1_reckoned 261 = .ok (.iload 5, 2) := by decide +kernel
theorem dX1_reckoned_263 : decode cX1_reckoned 263 = .ok (.invokevirtual 92, 3) := by decide +kernel
theorem dX1_reckoned_266 : decode cX1_reckoned 266 = .ok (.invokestatic 109, 3) := by decide +kernel
theorem dX1_reckoned_269 : decode cX1_reckoned 269 = .ok (.dreturn, 1) := by decide +kernel
theorem dX1_reckoned_270 : decode cX1_reckoned 270 = .ok (.aload_n 0, 1) := by decide +kernel
theorem dX1_reckoned_271 : decode cX1_reckoned 271 = .ok (.getfield 25, 3) := by decide +kernel
theorem dX1_reckoned_274 : decode cX1_reckoned 274 = .ok (.aload_n 0, 1) := by decide +kernel
theorem dX1_reckoned_275 : decode cX1_reckoned 275 = .ok (.getfield 25, 3) := by decide +kernel
theorem dX1_reckoned_278 : decode cX1_reckoned 278 = .ok (.aload_n 0, 1) := by decide +kernel
theorem dX1_reckoned_279 : decode cX1_reckoned 279 = .ok (.getfield 51, 3) := by decide +kernel
theorem dX1_reckoned_282 : decode cX1_reckoned 282 = .ok (.iload 5, 2) := by decide +kernel
theorem dX1_reckoned_284 : decode cX1_reckoned 284 = .ok (.invokevirtual 92, 3) := by decide +kernel
theorem dX1_reckoned_287 : decode cX1_reckoned 287 = .ok (.aload_n 0, 1) := by decide +kernel
theorem dX1_reckoned_288 : decode cX1_reckoned 288 = .ok (.getfield 25, 3) := by decide +kernel
theorem dX1_reckoned_291 : decode cX1_reckoned 291 = .ok (.aload_n 0, 1) := by decide +kernel
theorem dX1_reckoned_292 : decode cX1_reckoned 292 = .ok (.getfield 51, 3) := by decide +kernel
theorem dX1_reckoned_295 : decode cX1_reckoned 295 = .ok (.iload 6, 2) := by decide +kernel
theorem dX1_reckoned_297 : decode cX1_reckoned 297 = .ok (.invokevirtual 92, 3) := by decide +kernel
theorem dX1_reckoned_300 : decode cX1_reckoned 300 = .ok (.invokevirtual 113, 3) := by decide +kernel
theorem dX1_reckoned_303 : decode cX1_reckoned 303 = .ok (.dreturn, 1) := by decide +kernel
theorem dX1_reckoned_304 : decode cX1_reckoned 304 = .ok (.aload_n 0, 1) := by decide +kernel
theorem dX1_reckoned_305 : decode cX1_reckoned 305 = .ok (.getfield 25, 3) := by decide +kernel
theorem dX1_reckoned_308 : decode cX1_reckoned 308 = .ok (.aload_n 0, 1) := by decide +kernel
theorem dX1_reckoned_309 : decode cX1_reckoned 309 = .ok (.getfield 25, 3) := by decide +kernel
theorem dX1_reckoned_312 : decode cX1_reckoned 312 = .ok (.aload_n 0, 1) := by decide +kernel
theorem dX1_reckoned_313 : decode cX1_reckoned 313 = .ok (.getfield 51, 3) := by decide +kernel
theorem dX1_reckoned_316 : decode cX1_reckoned 316 = .ok (.iload 5, 2) := by decide +kernel
theorem dX1_reckoned_318 : decode cX1_reckoned 318 = .ok (.invokevirtual 92, 3) := by decide +kernel
theorem dX1_reckoned_321 : decode cX1_reckoned 321 = .ok (.aload_n 0, 1) := by decide +kernel
theorem dX1_reckoned_322 : decode cX1_reckoned 322 = .ok (.getfield 25, 3) := by decide +kernel
theorem dX1_reckoned_325 : decode cX1_reckoned 325 = .ok (.aload_n 0, 1) := by decide +kernel
theorem dX1_reckoned_326 : decode cX1_reckoned 326 = .ok (.getfield 51, 3) := by decide +kernel
theorem dX1_reckoned_329 : decode cX1_reckoned 329 = .ok (.iload 6, 2) := by decide +kernel
theorem dX1_reckoned_331 : decode cX1_reckoned 331 = .ok (.invokevirtual 92, 3) := by decide +kernel
theorem dX1_reckoned_334 : decode cX1_reckoned 334 = .ok (.invokevirtual 116, 3) := by decide +kernel
theorem dX1_reckoned_337 : decode cX1_reckoned 337 = .ok (.dreturn, 1) := by decide +kernel
theorem dX1_reckoned_338 : decode cX1_reckoned 338 = .ok (.aload_n 0, 1) := by decide +kernel
theorem dX1_reckoned_339 : decode cX1_reckoned 339 = .ok (.getfield 25, 3) := by decide +kernel
theorem dX1_reckoned_342 : decode cX1_reckoned 342 = .ok (.aload_n 0, 1) := by decide +kernel
theorem dX1_reckoned_343 : decode cX1_reckoned 343 = .ok (.getfield 51, 3) := by decide +kernel
theorem dX1_reckoned_346 : decode cX1_reckoned 346 = .ok (.aload_n 0, 1) := by decide +kernel
theorem dX1_reckoned_347 : decode cX1_reckoned 347 = .ok (.iload 5, 2) := by decide +kernel
theorem dX1_reckoned_349 : decode cX1_reckoned 349 = .ok (.invokevirtual 119, 3) := by decide +kernel
theorem dX1_reckoned_352 : decode cX1_reckoned 352 = .ok (.iconst (-1), 1) := by decide +kernel
theorem dX1_reckoned_353 : decode cX1_reckoned 353 = .ok (.if_icmp .ne 8, 3) := by decide +kernel
theorem dX1_reckoned_356 : decode cX1_reckoned 356 = .ok (.iload 6, 2) := by decide +kernel
theorem dX1_reckoned_358 : decode cX1_reckoned 358 = .ok (.goto 9, 3) := by decide +kernel
theorem dX1_reckoned_361 : decode cX1_reckoned 361 = .ok (.aload_n 0, 1) := by decide +kernel
theorem dX1_reckoned_362 : decode cX1_reckoned 362 = .ok (.getfield 39, 3) := by decide +kernel
theorem dX1_reckoned_365 : decode cX1_reckoned 365 = .ok (.iload_n 1, 1) := by decide +kernel
theorem dX1_reckoned_366 : decode cX1_reckoned 366 = .ok (.iaload, 1) := by decide +kernel
theorem dX1_reckoned_367 : decode cX1_reckoned 367 = .ok (.invokevirtual 92, 3) := by decide +kernel
theorem dX1_reckoned_370 : decode cX1_reckoned 370 = .ok (.dreturn, 1) := by decide +kernel
theorem dX1_reckoned_371 : decode cX1_reckoned 371 = .ok (.iload 6, 2) := by decide +kernel
theorem dX1_reckoned_373 : decode cX1_reckoned 373 = .ok (.ifCond .ne 7, 3) := by decide +kernel
theorem dX1_reckoned_376 : decode cX1_reckoned 376 = .ok (.dconst 1, 1) := by decide +kernel
theorem dX1_reckoned_377 : decode cX1_reckoned 377 = .ok (.goto 25, 3) := by decide +kernel
theorem dX1_reckoned_380 : decode cX1_reckoned 380 = .ok (.aload_n 0, 1) := by decide +kernel
theorem dX1_reckoned_381 : decode cX1_reckoned 381 = .ok (.getfield 25, 3) := by decide +kernel
theorem dX1_reckoned_384 : decode cX1_reckoned 384 = .ok (.aload_n 0, 1) := by decide +kernel
theorem dX1_reckoned_385 : decode cX1_reckoned 385 = .ok (.getfield 25, 3) := by decide +kernel
theorem dX1_reckoned_388 : decode cX1_reckoned 388 = .ok (.aload_n 0, 1) := by decide +kernel
theorem dX1_reckoned_389 : decode cX1_reckoned 389 = .ok (.getfield 51, 3) := by decide +kernel
theorem dX1_reckoned_392 : decode cX1_reckoned 392 = .ok (.iload 5, 2) := by decide +kernel
theorem dX1_reckoned_394 : decode cX1_reckoned 394 = .ok (.invokevirtual 92, 3) := by decide +kernel
theorem dX1_reckoned_397 : decode cX1_reckoned 397 = .ok (.iload 6, 2) := by decide +kernel
theorem dX1_reckoned_399 : decode cX1_reckoned 399 = .ok (.invokevirtual 123, 3) := by decide +kernel
theorem dX1_reckoned_402 : decode cX1_reckoned 402 = .ok (.dreturn, 1) := by decide +kernel
theorem dX1_reckoned_403 : decode cX1_reckoned 403 = .ok (.aload_n 0, 1) := by decide +kernel
theorem dX1_reckoned_404 : decode cX1_reckoned 404 = .ok (.getfield 21, 3) := by decide +kernel
theorem dX1_reckoned_407 : decode cX1_reckoned 407 = .ok (.iload 6, 2) := by decide +kernel
theorem dX1_reckoned_409 : decode cX1_reckoned 409 = .ok (.aaload, 1) := by decide +kernel
theorem dX1_reckoned_410 : decode cX1_reckoned 410 = .ok (.astore 7, 2) := by decide +kernel
theorem dX1_reckoned_412 : decode cX1_reckoned 412 = .ok (.aload 7, 2) := by decide +kernel
theorem dX1_reckoned_414 : decode cX1_reckoned 414 = .ok (.ifnull 11, 3) := by decide +kernel
theorem dX1_reckoned_417 : decode cX1_reckoned 417 = .ok (.aload 7, 2) := by decide +kernel
theorem dX1_reckoned_419 : decode cX1_reckoned 419 = .ok (.getfield 127, 3) := by decide +kernel
theorem dX1_reckoned_422 : decode cX1_reckoned 422 = .ok (.ifCond .ne 7, 3) := by decide +kernel
theorem dX1_reckoned_425 : decode cX1_reckoned 425 = .ok (.dconst 0, 1) := by decide +kernel
theorem dX1_reckoned_426 : decode cX1_reckoned 426 = .ok (.goto 21, 3) := by decide +kernel
theorem dX1_reckoned_429 : decode cX1_reckoned 429 = .ok (.aload 7, 2) := by decide +kernel
theorem dX1_reckoned_431 : decode cX1_reckoned 431 = .ok (.aload_n 0, 1) := by decide +kernel
theorem dX1_reckoned_432 : decode cX1_reckoned 432 = .ok (.getfield 25, 3) := by decide +kernel
theorem dX1_reckoned_435 : decode cX1_reckoned 435 = .ok (.aload_n 0, 1) := by decide +kernel
theorem dX1_reckoned_436 : decode cX1_reckoned 436 = .ok (.getfield 51, 3) := by decide +kernel
theorem dX1_reckoned_439 : decode cX1_reckoned 439 = .ok (.iload 5, 2) := by decide +kernel
theorem dX1_reckoned_441 : decode cX1_reckoned 441 = .ok (.invokevirtual 92, 3) := by decide +kernel
theorem dX1_reckoned_444 : decode cX1_reckoned 444 = .ok (.invokevirtual 132, 3) := by decide +kernel
theorem dX1_reckoned_447 : decode cX1_reckoned 447 = .ok (.dreturn, 1) := by decide +kernel
theorem dX1_reckoned_448 : decode cX1_reckoned 448 = .ok (.aload_n 0, 1) := by decide +kernel
theorem dX1_reckoned_449 : decode cX1_reckoned 449 = .ok (.getfield 42, 3) := by decide +kernel
theorem dX1_reckoned_452 : decode cX1_reckoned 452 = .ok (.iload_n 1, 1) := by decide +kernel
theorem dX1_reckoned_453 : decode cX1_reckoned 453 = .ok (.daload, 1) := by decide +kernel
theorem dX1_reckoned_454 : decode cX1_reckoned 454 = .ok (.dreturn, 1) := by decide +kernel
theorem dX1_signOf_0 : decode cX1_signOf 0 = .ok (.aload_n 0, 1) := by decide +kernel
theorem dX1_signOf_1 : decode cX1_signOf 1 = .ok (.getfield 51, 3) := by decide +kernel
theorem dX1_signOf_4 : decode cX1_signOf 4 = .ok (.getfield 89, 3) := by decide +kernel
theorem dX1_signOf_7 : decode cX1_signOf 7 = .ok (.iload_n 1, 1) := by decide +kernel
theorem dX1_signOf_8 : decode cX1_signOf 8 = .ok (.baload, 1) := by decide +kernel
theorem dX1_signOf_9 : decode cX1_signOf 9 = .ok (.ifCond .eq 5, 3) := by decide +kernel
theorem dX1_signOf_12 : decode cX1_signOf 12 = .ok (.iconst 2, 1) := by decide +kernel
theorem dX1_signOf_13 : decode cX1_signOf 13 = .ok (.ireturn, 1) := by decide +kernel
theorem dX1_signOf_14 : decode cX1_signOf 14 = .ok (.aload_n 0, 1) := by decide +kernel
theorem dX1_signOf_15 : decode cX1_signOf 15 = .ok (.getfield 51, 3) := by decide +kernel
theorem dX1_signOf_18 : decode cX1_signOf 18 = .ok (.getfield 87, 3) := by decide +kernel
theorem dX1_signOf_21 : decode cX1_signOf 21 = .ok (.iload_n 1, 1) := by decide +kernel
theorem dX1_signOf_22 : decode cX1_signOf 22 = .ok (.daload, 1) := by decide +kernel
theorem dX1_signOf_23 : decode cX1_signOf 23 = .ok (.dstore_n 2, 1) := by decide +kernel
theorem dX1_signOf_24 : decode cX1_signOf 24 = .ok (.dload_n 2, 1) := by decide +kernel
theorem dX1_signOf_25 : decode cX1_signOf 25 = .ok (.dconst 0, 1) := by decide +kernel
theorem dX1_signOf_26 : decode cX1_signOf 26 = .ok (.dcmp .g, 1) := by decide +kernel
theorem dX1_signOf_27 : decode cX1_signOf 27 = .ok (.ifCond .ge 5, 3) := by decide +kernel
theorem dX1_signOf_30 : decode cX1_signOf 30 = .ok (.iconst (-1), 1) := by decide +kernel
theorem dX1_signOf_31 : decode cX1_signOf 31 = .ok (.ireturn, 1) := by decide +kernel
theorem dX1_signOf_32 : decode cX1_signOf 32 = .ok (.dload_n 2, 1) := by decide +kernel
theorem dX1_signOf_33 : decode cX1_signOf 33 = .ok (.dconst 0, 1) := by decide +kernel
theorem dX1_signOf_34 : decode cX1_signOf 34 = .ok (.dcmp .l, 1) := by decide +kernel
theorem dX1_signOf_35 : decode cX1_signOf 35 = .ok (.ifCond .le 7, 3) := by decide +kernel
theorem dX1_signOf_38 : decode cX1_signOf 38 = .ok (.iconst 1, 1) := by decide +kernel
theorem dX1_signOf_39 : decode cX1_signOf 39 = .ok (.goto 4, 3) := by decide +kernel
theorem dX1_signOf_42 : decode cX1_signOf 42 = .ok (.iconst 0, 1) := by decide +kernel
theorem dX1_signOf_43 : decode cX1_signOf 43 = .ok (.ireturn, 1) := by decide +kernel
theorem dX2_init_0 : decode cX2_init 0 = .ok (.aload_n 0, 1) := by decide +kernel
theorem dX2_init_1 : decode cX2_init 1 = .ok (.invokespecial 1, 3) := by decide +kernel
theorem dX2_init_4 : decode cX2_init 4 = .ok (.aload_n 0, 1) := by decide +kernel
theorem dX2_init_5 : decode cX2_init 5 = .ok (.ldc2_w 7, 3) := by decide +kernel
theorem dX2_init_8 : decode cX2_init 8 = .ok (.putfield 9, 3) := by decide +kernel
theorem dX2_init_11 : decode cX2_init 11 = .ok (.return_, 1) := by decide +kernel
theorem dX2_begin_0 : decode cX2_begin 0 = .ok (.aload_n 0, 1) := by decide +kernel
theorem dX2_begin_1 : decode cX2_begin 1 = .ok (.iconst 0, 1) := by decide +kernel
theorem dX2_begin_2 : decode cX2_begin 2 = .ok (.putfield 15, 3) := by decide +kernel
theorem dX2_begin_5 : decode cX2_begin 5 = .ok (.return_, 1) := by decide +kernel
theorem dX2_read_0 : decode cX2_read 0 = .ok (.aload_n 0, 1) := by decide +kernel
theorem dX2_read_1 : decode cX2_read 1 = .ok (.aload_n 0, 1) := by decide +kernel
theorem dX2_read_2 : decode cX2_read 2 = .ok (.getfield 15, 3) := by decide +kernel
theorem dX2_read_5 : decode cX2_read 5 = .ok (.ifCond .ne 12, 3) := by decide +kernel
theorem dX2_read_8 : decode cX2_read 8 = .ok (.aload_n 1, 1) := by decide +kernel
theorem dX2_read_9 : decode cX2_read 9 = .ok (.getfield 19, 3) := by decide +kernel
theorem dX2_read_12 : decode cX2_read 12 = .ok (.iload_n 2, 1) := by decide +kernel
theorem dX2_read_13 : decode cX2_read 13 = .ok (.baload, 1) := by decide +kernel
theorem dX2_read_14 : decode cX2_read 14 = .ok (.ifCond .eq 7, 3) := by decide +kernel
theorem dX2_read_17 : decode cX2_read 17 = .ok (.iconst 1, 1) := by decide +kernel
theorem dX2_read_18 : decode cX2_read 18 = .ok (.goto 4, 3) := by decide +kernel
theorem dX2_read_21 : decode cX2_read 21 = .ok (.iconst 0, 1) := by decide +kernel
theorem dX2_read_22 : decode cX2_read 22 = .ok (.putfield 15, 3) := by decide +kernel
theorem dX2_read_25 : decode cX2_read 25 = .ok (.aload_n 1, 1) := by decide +kernel
theorem dX2_read_26 : decode cX2_read 26 = .ok (.getfield 24, 3) := by decide +kernel
theorem dX2_read_29 : decode cX2_read 29 = .ok (.iload_n 2, 1) := by decide +kernel
theorem dX2_read_30 : decode cX2_read 30 = .ok (.daload, 1) := by decide +kernel
theorem dX2_read_31 : decode cX2_read 31 = .ok (.dreturn, 1) := by decide +kernel
theorem dX2_sum_0 : decode cX2_sum 0 = .ok (.dload_n 1, 1) := by decide +kernel
theorem dX2_sum_1 : decode cX2_sum 1 = .ok (.aload_n 0, 1) := by decide +kernel
theorem dX2_sum_2 : decode cX2_sum 2 = .ok (.getfield 9, 3) := by decide +kernel
theorem dX2_sum_5 : decode cX2_sum 5 = .ok (.dcmp .l, 1) := by decide +kernel
theorem dX2_sum_6 : decode cX2_sum 6 = .ok (.ifCond .le 13, 3) := by decide +kernel
theorem dX2_sum_9 : decode cX2_sum 9 = .ok (.dload_n 3, 1) := by decide +kernel
theorem dX2_sum_10 : decode cX2_sum 10 = .ok (.aload_n 0, 1) := by decide +kernel
theorem dX2_sum_11 : decode cX2_sum 11 = .ok (.getfield 9, 3) := by decide +kernel
theorem dX2_sum_14 : decode cX2_sum 14 = .ok (.dneg, 1) := by decide +kernel
theorem dX2_sum_15 : decode cX2_sum 15 = .ok (.dcmp .g, 1) := by decide +kernel
theorem dX2_sum_16 : decode cX2_sum 16 = .ok (.ifCond .lt 22, 3) := by decide +kernel
theorem dX2_sum_19 : decode cX2_sum 19 = .ok (.dload_n 1, 1) := by decide +kernel
theorem dX2_sum_20 : decode cX2_sum 20 = .ok (.aload_n 0, 1) := by decide +kernel
theorem dX2_sum_21 : decode cX2_sum 21 = .ok (.getfield 9, 3) := by decide +kernel
theorem dX2_sum_24 : decode cX2_sum 24 = .ok (.dneg, 1) := by decide +kernel
theorem dX2_sum_25 : decode cX2_sum 25 = .ok (.dcmp .g, 1) := by decide +kernel
theorem dX2_sum_26 : decode cX2_sum 26 = .ok (.ifCond .ge 19, 3) := by decide +kernel
theorem dX2_sum_29 : decode cX2_sum 29 = .ok (.dload_n 3, 1) := by decide +kernel
theorem dX2_sum_30 : decode cX2_sum 30 = .ok (.aload_n 0, 1) := by decide +kernel
theorem dX2_sum_31 : decode cX2_sum 31 = .ok (.getfield 9, 3) := by decide +kernel
theorem dX2_sum_34 : decode cX2_sum 34 = .ok (.dcmp .l, 1) := by decide +kernel
theorem dX2_sum_35 : decode cX2_sum 35 = .ok (.ifCond .le 10, 3) := by decide +kernel
theorem dX2_sum_38 : decode cX2_sum 38 = .ok (.aload_n 0, 1) := by decide +kernel
theorem dX2_sum_39 : decode cX2_sum 39 = .ok (.iconst 1, 1) := by decide +kernel
theorem dX2_sum_40 : decode cX2_sum 40 = .ok (.putfield 15, 3) := by decide +kernel
theorem dX2_sum_43 : decode cX2_sum 43 = .ok (.dconst 0, 1) := by decide +kernel
theorem dX2_sum_44 : decode cX2_sum 44 = .ok (.dreturn, 1) := by decide +kernel
theorem dX2_sum_45 : decode cX2_sum 45 = .ok (.dload_n 1, 1) := by decide +kernel
theorem dX2_sum_46 : decode cX2_sum 46 = .ok (.dload_n 3, 1) := by decide +kernel
theorem dX2_sum_47 : decode cX2_sum 47 = .ok (.dadd, 1) := by decide +kernel
theorem dX2_sum_48 : decode cX2_sum 48 = .ok (.dreturn, 1) := by decide +kernel
theorem dX2_difference_0 : decode cX2_difference 0 = .ok (.dload_n 1, 1) := by decide +kernel
theorem dX2_difference_1 : decode cX2_difference 1 = .ok (.aload_n 0, 1) := by decide +kernel
theorem dX2_difference_2 : decode cX2_difference 2 = .ok (.getfield 9, 3) := by decide +kernel
theorem dX2_difference_5 : decode cX2_difference 5 = .ok (.dcmp .l, 1) := by decide +kernel
theorem dX2_difference_6 : decode cX2_difference 6 = .ok (.ifCond .le 12, 3) := by decide +kernel
theorem dX2_difference_9 : decode cX2_difference 9 = .ok (.dload_n 3, 1) := by decide +kernel
theorem dX2_difference_10 : decode cX2_difference 10 = .ok (.aload_n 0, 1) := by decide +kernel
theorem dX2_difference_11 : decode cX2_difference 11 = .ok (.getfield 9, 3) := by decide +kernel
theorem dX2_difference_14 : decode cX2_difference 14 = .ok (.dcmp .l, 1) := by decide +kernel
theorem dX2_difference_15 : decode cX2_difference 15 = .ok (.ifCond .gt 23, 3) := by decide +kernel
theorem dX2_difference_18 : decode cX2_difference 18 = .ok (.dload_n 1, 1) := by decide +kernel
theorem dX2_difference_19 : decode cX2_difference 19 = .ok (.aload_n 0, 1) := by decide +kernel
theorem dX2_difference_20 : decode cX2_difference 20 = .ok (.getfield 9, 3) := by decide +kernel
theorem dX2_difference_23 : decode cX2_difference 23 = .ok (.dneg, 1) := by decide +kernel
theorem dX2_difference_24 : decode cX2_difference 24 = .ok (.dcmp .g, 1) := by decide +kernel
theorem dX2_difference_25 : decode cX2_difference 25 = .ok (.ifCond .ge 20, 3) := by decide +kernel
theorem dX2_difference_28 : decode cX2_difference 28 = .ok (.dload_n 3, 1) := by decide +kernel
theorem dX2_difference_29 : decode cX2_difference 29 = .ok (.aload_n 0, 1) := by decide +kernel
theorem dX2_difference_30 : decode cX2_difference 30 = .ok (.getfield 9, 3) := by decide +kernel
theorem dX2_difference_33 : decode cX2_difference 33 = .ok (.dneg, 1) := by decide +kernel
theorem dX2_difference_34 : decode cX2_difference 34 = .ok (.dcmp .g, 1) := by decide +kernel
theorem dX2_difference_35 : decode cX2_difference 35 = .ok (.ifCond .ge 10, 3) := by decide +kernel
theorem dX2_difference_38 : decode cX2_difference 38 = .ok (.aload_n 0, 1) := by decide +kernel
theorem dX2_difference_39 : decode cX2_difference 39 = .ok (.iconst 1, 1) := by decide +kernel
theorem dX2_difference_40 : decode cX2_difference 40 = .ok (.putfield 15, 3) := by decide +kernel
theorem dX2_difference_43 : decode cX2_difference 43 = .ok (.dconst 0, 1) := by decide +kernel
theorem dX2_difference_44 : decode cX2_difference 44 = .ok (.dreturn, 1) := by decide +kernel
theorem dX2_difference_45 : decode cX2_difference 45 = .ok (.dload_n 1, 1) := by decide +kernel
theorem dX2_difference_46 : decode cX2_difference 46 = .ok (.dload_n 3, 1) := by decide +kernel
theorem dX2_difference_47 : decode cX2_difference 47 = .ok (.dsub, 1) := by decide +kernel
theorem dX2_difference_48 : decode cX2_difference 48 = .ok (.dreturn, 1) := by decide +kernel
theorem dX2_product_0 : decode cX2_product 0 = .ok (.dload_n 1, 1) := by decide +kernel
theorem dX2_product_1 : decode cX2_product 1 = .ok (.dconst 0, 1) := by decide +kernel
theorem dX2_product_2 : decode cX2_product 2 = .ok (.dcmp .l, 1) := by decide +kernel
theorem dX2_product_3 : decode cX2_product 3 = .ok (.ifCond .ne 22, 3) := by decide +kernel
theorem dX2_product_6 : decode cX2_product 6 = .ok (.dload_n 3, 1) := by decide +kernel
theorem dX2_product_7 : decode cX2_product 7 = .ok (.aload_n 0, 1) := by decide +kernel
theorem dX2_product_8 : decode cX2_product 8 = .ok (.getfield 9, 3) := by decide +kernel
theorem dX2_product_11 : decode cX2_product 11 = .ok (.dcmp .l, 1) := by decide +kernel
theorem dX2_product_12 : decode cX2_product 12 = .ok (.ifCond .gt 38, 3) := by decide +kernel
theorem dX2_product_15 : decode cX2_product 15 = .ok (.dload_n 3, 1) := by decide +kernel
theorem dX2_product_16 : decode cX2_product 16 = .ok (.aload_n 0, 1) := by decide +kernel
theorem dX2_product_17 : decode cX2_product 17 = .ok (.getfield 9, 3) := by decide +kernel
theorem dX2_product_20 : decode cX2_product 20 = .ok (.dneg, 1) := by decide +kernel
theorem dX2_product_21 : decode cX2_product 21 = .ok (.dcmp .g, 1) := by decide +kernel
theorem dX2_product_22 : decode cX2_product 22 = .ok (.ifCond .lt 28, 3) := by decide +kernel
theorem dX2_product_25 : decode cX2_product 25 = .ok (.dload_n 3, 1) := by decide +kernel
theorem dX2_product_26 : decode cX2_product 26 = .ok (.dconst 0, 1) := by decide +kernel
theorem dX2_product_27 : decode cX2_product 27 = .ok (.dcmp .l, 1) := by decide +kernel
theorem dX2_product_28 : decode cX2_product 28 = .ok (.ifCond .ne 29, 3) := by decide +kernel
theorem dX2_product_31 : decode cX2_product 31 = .ok (.dload_n 1, 1) := by decide +kernel
theorem dX2_product_32 : decode cX2_product 32 = .ok (.aload_n 0, 1) := by decide +kernel
theorem dX2_product_33 : decode cX2_product 33 = .ok (.getfield 9, 3) := by decide +kernel
theorem dX2_product_36 : decode cX2_product 36 = .ok (.dcmp .l, 1) := by decide +kernel
theorem dX2_product_37 : decode cX2_product 37 = .ok (.ifCond .gt 13, 3) := by decide +kernel
theorem dX2_product_40 : decode cX2_product 40 = .ok (.dload_n 1, 1) := by decide +kernel
theorem dX2_product_41 : decode cX2_product 41 = .ok (.aload_n 0, 1) := by decide +kernel
theorem dX2_product_42 : decode cX2_product 42 = .ok (.getfield 9, 3) := by decide +kernel
theorem dX2_product_45 : decode cX2_product 45 = .ok (.dneg, 1) := by decide +kernel
theorem dX2_product_46 : decode cX2_product 46 = .ok (.dcmp .g, 1) := by decide +kernel
theorem dX2_product_47 : decode cX2_product 47 = .ok (.ifCond .ge 10, 3) := by decide +kernel
theorem dX2_product_50 : decode cX2_product 50 = .ok (.aload_n 0, 1) := by decide +kernel
theorem dX2_product_51 : decode cX2_product 51 = .ok (.iconst 1, 1) := by decide +kernel
theorem dX2_product_52 : decode cX2_product 52 = .ok (.putfield 15, 3) := by decide +kernel
theorem dX2_product_55 : decode cX2_product 55 = .ok (.dconst 0, 1) := by decide +kernel
theorem dX2_product_56 : decode cX2_product 56 = .ok (.dreturn, 1) := by decide +kernel
theorem dX2_product_57 : decode cX2_product 57 = .ok (.dload_n 1, 1) := by decide +kernel
theorem dX2_product_58 : decode cX2_product 58 = .ok (.dload_n 3, 1) := by decide +kernel
theorem dX2_product_59 : decode cX2_product 59 = .ok (.dmul, 1) := by decide +kernel
theorem dX2_product_60 : decode cX2_product 60 = .ok (.dreturn, 1) := by decide +kernel
theorem dX2_quotient_0 : decode cX2_quotient 0 = .ok (.dload_n 1, 1) := by decide +kernel
theorem dX2_quotient_1 : decode cX2_quotient 1 = .ok (.aload_n 0, 1) := by decide +kernel
theorem dX2_quotient_2 : decode cX2_quotient 2 = .ok (.getfield 9, 3) := by decide +kernel
theorem dX2_quotient_5 : decode cX2_quotient 5 = .ok (.dcmp .l, 1) := by decide +kernel
theorem dX2_quotient_6 : decode cX2_quotient 6 = .ok (.ifCond .gt 13, 3) := by decide +kernel
theorem dX2_quotient_9 : decode cX2_quotient 9 = .ok (.dload_n 1, 1) := by decide +kernel
theorem dX2_quotient_10 : decode cX2_quotient 10 = .ok (.aload_n 0, 1) := by decide +kernel
theorem dX2_quotient_11 : decode cX2_quotient 11 = .ok (.getfield 9, 3) := by decide +kernel
theorem dX2_quotient_14 : decode cX2_quotient 14 = .ok (.dneg, 1) := by decide +kernel
theorem dX2_quotient_15 : decode cX2_quotient 15 = .ok (.dcmp .g, 1) := by decide +kernel
theorem dX2_quotient_16 : decode cX2_quotient 16 = .ok (.ifCond .ge 26, 3) := by decide +kernel
theorem dX2_quotient_19 : decode cX2_quotient 19 = .ok (.dload_n 3, 1) := by decide +kernel
theorem dX2_quotient_20 : decode cX2_quotient 20 = .ok (.aload_n 0, 1) := by decide +kernel
theorem dX2_quotient_21 : decode cX2_quotient 21 = .ok (.getfield 9, 3) := by decide +kernel
theorem dX2_quotient_24 : decode cX2_quotient 24 = .ok (.dcmp .l, 1) := by decide +kernel
theorem dX2_quotient_25 : decode cX2_quotient 25 = .ok (.ifCond .gt 13, 3) := by decide +kernel
theorem dX2_quotient_28 : decode cX2_quotient 28 = .ok (.dload_n 3, 1) := by decide +kernel
theorem dX2_quotient_29 : decode cX2_quotient 29 = .ok (.aload_n 0, 1) := by decide +kernel
theorem dX2_quotient_30 : decode cX2_quotient 30 = .ok (.getfield 9, 3) := by decide +kernel
theorem dX2_quotient_33 : decode cX2_quotient 33 = .ok (.dneg, 1) := by decide +kernel
theorem dX2_quotient_34 : decode cX2_quotient 34 = .ok (.dcmp .g, 1) := by decide +kernel
theorem dX2_quotient_35 : decode cX2_quotient 35 = .ok (.ifCond .ge 7, 3) := by decide +kernel
theorem dX2_quotient_38 : decode cX2_quotient 38 = .ok (.iconst 1, 1) := by decide +kernel
theorem dX2_quotient_39 : decode cX2_quotient 39 = .ok (.goto 4, 3) := by decide +kernel
theorem dX2_quotient_42 : decode cX2_quotient 42 = .ok (.iconst 0, 1) := by decide +kernel
theorem dX2_quotient_43 : decode cX2_quotient 43 = .ok (.istore 5, 2) := by decide +kernel
theorem dX2_quotient_45 : decode cX2_quotient 45 = .ok (.iload 5, 2) := by decide +kernel
theorem dX2_quotient_47 : decode cX2_quotient 47 = .ok (.ifCond .ne 15, 3) := by decide +kernel
theorem dX2_quotient_50 : decode cX2_quotient 50 = .ok (.dload_n 1, 1) := by decide +kernel
theorem dX2_quotient_51 : decode cX2_quotient 51 = .ok (.dconst 0, 1) := by decide +kernel
theorem dX2_quotient_52 : decode cX2_quotient 52 = .ok (.dcmp .l, 1) := by decide +kernel
theorem dX2_quotient_53 : decode cX2_quotient 53 = .ok (.ifCond .ne 16, 3) := by decide +kernel
theorem dX2_quotient_56 : decode cX2_quotient 56 = .ok (.dload_n 3, 1) := by decide +kernel
theorem dX2_quotient_57 : decode cX2_quotient 57 = .ok (.dconst 0, 1) := by decide +kernel
theorem dX2_quotient_58 : decode cX2_quotient 58 = .ok (.dcmp .l, 1) := by decide +kernel
theorem dX2_quotient_59 : decode cX2_quotient 59 = .ok (.ifCond .ne 10, 3) := by decide +kernel
theorem dX2_quotient_62 : decode cX2_quotient 62 = .ok (.aload_n 0, 1) := by decide +kernel
theorem dX2_quotient_63 : decode cX2_quotient 63 = .ok (.iconst 1, 1) := by decide +kernel
theorem dX2_quotient_64 : decode cX2_quotient 64 = .ok (.putfield 15, 3) := by decide +kernel
theorem dX2_quotient_67 : decode cX2_quotient 67 = .ok (.dconst 0, 1) := by decide +kernel
theorem dX2_quotient_68 : decode cX2_quotient 68 = .ok (.dreturn, 1) := by decide +kernel
theorem dX2_quotient_69 : decode cX2_quotient 69 = .ok (.dload_n 1, 1) := by decide +kernel
theorem dX2_quotient_70 : decode cX2_quotient 70 = .ok (.dload_n 3, 1) := by decide +kernel
theorem dX2_quotient_71 : decode cX2_quotient 71 = .ok (.ddiv, 1) := by decide +kernel
theorem dX2_quotient_72 : decode cX2_quotient 72 = .ok (.dreturn, 1) := by decide +kernel
theorem dX2_lesser_0 : decode cX2_lesser 0 = .ok (.dload_n 1, 1) := by decide +kernel
theorem dX2_lesser_1 : decode cX2_lesser 1 = .ok (.dconst 0, 1) := by decide +kernel
theorem dX2_lesser_2 : decode cX2_lesser 2 = .ok (.dcmp .l, 1) := by decide +kernel
theorem dX2_lesser_3 : decode cX2_lesser 3 = .ok (.ifCond .ne 23, 3) := by decide +kernel
theorem dX2_lesser_6 : decode cX2_lesser 6 = .ok (.dload_n 3, 1) := by decide +kernel
theorem dX2_lesser_7 : decode cX2_lesser 7 = .ok (.dconst 0, 1) := by decide +kernel
theorem dX2_lesser_8 : decode cX2_lesser 8 = .ok (.dcmp .l, 1) := by decide +kernel
theorem dX2_lesser_9 : decode cX2_lesser 9 = .ok (.ifCond .ne 17, 3) := by decide +kernel
theorem dX2_lesser_12 : decode cX2_lesser 12 = .ok (.dconst 1, 1) := by decide +kernel
theorem dX2_lesser_13 : decode cX2_lesser 13 = .ok (.dload_n 1, 1) := by decide +kernel
theorem dX2_lesser_14 : decode cX2_lesser 14 = .ok (.ddiv, 1) := by decide +kernel
theorem dX2_lesser_15 : decode cX2_lesser 15 = .ok (.dconst 0, 1) := by decide +kernel
theorem dX2_lesser_16 : decode cX2_lesser 16 = .ok (.dcmp .g, 1) := by decide +kernel
theorem dX2_lesser_17 : decode cX2_lesser 17 = .ok (.ifCond .ge 7, 3) := by decide +kernel
theorem dX2_lesser_20 : decode cX2_lesser 20 = .ok (.dload_n 1, 1) := by decide +kernel
theorem dX2_lesser_21 : decode cX2_lesser 21 = .ok (.goto 4, 3) := by decide +kernel
theorem dX2_lesser_24 : decode cX2_lesser 24 = .ok (.dload_n 3, 1) := by decide +kernel
theorem dX2_lesser_25 : decode cX2_lesser 25 = .ok (.dreturn, 1) := by decide +kernel
theorem dX2_lesser_26 : decode cX2_lesser 26 = .ok (.dload_n 1, 1) := by decide +kernel
theorem dX2_lesser_27 : decode cX2_lesser 27 = .ok (.dload_n 3, 1) := by decide +kernel
theorem dX2_lesser_28 : decode cX2_lesser 28 = .ok (.dcmp .g, 1) := by decide +kernel
theorem dX2_lesser_29 : decode cX2_lesser 29 = .ok (.ifCond .gt 7, 3) := by decide +kernel
theorem dX2_lesser_32 : decode cX2_lesser 32 = .ok (.dload_n 1, 1) := by decide +kernel
theorem dX2_lesser_33 : decode cX2_lesser 33 = .ok (.goto 4, 3) := by decide +kernel
theorem dX2_lesser_36 : decode cX2_lesser 36 = .ok (.dload_n 3, 1) := by decide +kernel
theorem dX2_lesser_37 : decode cX2_lesser 37 = .ok (.dreturn, 1) := by decide +kernel
theorem dX2_greater_0 : decode cX2_greater 0 = .ok (.dload_n 1, 1) := by decide +kernel
theorem dX2_greater_1 : decode cX2_greater 1 = .ok (.dconst 0, 1) := by decide +kernel
theorem dX2_greater_2 : decode cX2_greater 2 = .ok (.dcmp .l, 1) := by decide +kernel
theorem dX2_greater_3 : decode cX2_greater 3 = .ok (.ifCond .ne 23, 3) := by decide +kernel
theorem dX2_greater_6 : decode cX2_greater 6 = .ok (.dload_n 3, 1) := by decide +kernel
theorem dX2_greater_7 : decode cX2_greater 7 = .ok (.dconst 0, 1) := by decide +kernel
theorem dX2_greater_8 : decode cX2_greater 8 = .ok (.dcmp .l, 1) := by decide +kernel
theorem dX2_greater_9 : decode cX2_greater 9 = .ok (.ifCond .ne 17, 3) := by decide +kernel
theorem dX2_greater_12 : decode cX2_greater 12 = .ok (.dconst 1, 1) := by decide +kernel
theorem dX2_greater_13 : decode cX2_greater 13 = .ok (.dload_n 1, 1) := by decide +kernel
theorem dX2_greater_14 : decode cX2_greater 14 = .ok (.ddiv, 1) := by decide +kernel
theorem dX2_greater_15 : decode cX2_greater 15 = .ok (.dconst 0, 1) := by decide +kernel
theorem dX2_greater_16 : decode cX2_greater 16 = .ok (.dcmp .g, 1) := by decide +kernel
theorem dX2_greater_17 : decode cX2_greater 17 = .ok (.ifCond .ge 7, 3) := by decide +kernel
theorem dX2_greater_20 : decode cX2_greater 20 = .ok (.dload_n 3, 1) := by decide +kernel
theorem dX2_greater_21 : decode cX2_greater 21 = .ok (.goto 4, 3) := by decide +kernel
theorem dX2_greater_24 : decode cX2_greater 24 = .ok (.dload_n 1, 1) := by decide +kernel
theorem dX2_greater_25 : decode cX2_greater 25 = .ok (.dreturn, 1) := by decide +kernel
theorem dX2_greater_26 : decode cX2_greater 26 = .ok (.dload_n 1, 1) := by decide +kernel
theorem dX2_greater_27 : decode cX2_greater 27 = .ok (.dload_n 3, 1) := by decide +kernel
theorem dX2_greater_28 : decode cX2_greater 28 = .ok (.dcmp .l, 1) := by decide +kernel
theorem dX2_greater_29 : decode cX2_greater 29 = .ok (.ifCond .lt 7, 3) := by decide +kernel
theorem dX2_greater_32 : decode cX2_greater 32 = .ok (.dload_n 1, 1) := by decide +kernel
theorem dX2_greater_33 : decode cX2_greater 33 = .ok (.goto 4, 3) := by decide +kernel
theorem dX2_greater_36 : decode cX2_greater 36 = .ok (.dload_n 3, 1) := by decide +kernel
theorem dX2_greater_37 : decode cX2_greater 37 = .ok (.dreturn, 1) := by decide +kernel
theorem dX2_power_0 : decode cX2_power 0 = .ok (.dconst 1, 1) := by decide +kernel
theorem dX2_power_1 : decode cX2_power 1 = .ok (.dstore 4, 2) := by decide +kernel
theorem dX2_power_3 : decode cX2_power 3 = .ok (.iconst 0, 1) := by decide +kernel
theorem dX2_power_4 : decode cX2_power 4 = .ok (.istore 6, 2) := by decide +kernel
theorem dX2_power_6 : decode cX2_power 6 = .ok (.iload 6, 2) := by decide +kernel
theorem dX2_power_8 : decode cX2_power 8 = .ok (.iload_n 3, 1) := by decide +kernel
theorem dX2_power_9 : decode cX2_power 9 = .ok (.if_icmp .ge 15, 3) := by decide +kernel
theorem dX2_power_12 : decode cX2_power 12 = .ok (.dload 4, 2) := by decide +kernel
theorem dX2_power_14 : decode cX2_power 14 = .ok (.dload_n 1, 1) := by decide +kernel
theorem dX2_power_15 : decode cX2_power 15 = .ok (.dmul, 1) := by decide +kernel
theorem dX2_power_16 : decode cX2_power 16 = .ok (.dstore 4, 2) := by decide +kernel
theorem dX2_power_18 : decode cX2_power 18 = .ok (.iinc 6 1, 3) := by decide +kernel
theorem dX2_power_21 : decode cX2_power 21 = .ok (.goto (-15), 3) := by decide +kernel
theorem dX2_power_24 : decode cX2_power 24 = .ok (.dload 4, 2) := by decide +kernel
theorem dX2_power_26 : decode cX2_power 26 = .ok (.dreturn, 1) := by decide +kernel
theorem dX3_init_0 : decode cX3_init 0 = .ok (.aload_n 0, 1) := by decide +kernel
theorem dX3_init_1 : decode cX3_init 1 = .ok (.invokespecial 1, 3) := by decide +kernel
theorem dX3_init_4 : decode cX3_init 4 = .ok (.aload_n 0, 1) := by decide +kernel
theorem dX3_init_5 : decode cX3_init 5 = .ok (.iload_n 1, 1) := by decide +kernel
theorem dX3_init_6 : decode cX3_init 6 = .ok (.newarray .double, 2) := by decide +kernel
theorem dX3_init_8 : decode cX3_init 8 = .ok (.putfield 7, 3) := by decide +kernel
theorem dX3_init_11 : decode cX3_init 11 = .ok (.aload_n 0, 1) := by decide +kernel
theorem dX3_init_12 : decode cX3_init 12 = .ok (.iload_n 1, 1) := by decide +kernel
theorem dX3_init_13 : decode cX3_init 13 = .ok (.newarray .boolean, 2) := by decide +kernel
theorem dX3_init_15 : decode cX3_init 15 = .ok (.putfield 13, 3) := by decide +kernel
theorem dX3_init_18 : decode cX3_init 18 = .ok (.return_, 1) := by decide +kernel
theorem dX3_copy_0 : decode cX3_copy 0 = .ok (.iconst 0, 1) := by decide +kernel
theorem dX3_copy_1 : decode cX3_copy 1 = .ok (.istore_n 2, 1) := by decide +kernel
theorem dX3_copy_2 : decode cX3_copy 2 = .ok (.iload_n 2, 1) := by decide +kernel
theorem dX3_copy_3 : decode cX3_copy 3 = .ok (.aload_n 0, 1) := by decide +kernel
theorem dX3_copy_4 : decode cX3_copy 4 = .ok (.getfield 7, 3) := by decide +kernel
theorem dX3_copy_7 : decode cX3_copy 7 = .ok (.arraylength, 1) := by decide +kernel
theorem dX3_copy_8 : decode cX3_copy 8 = .ok (.if_icmp .ge 33, 3) := by decide +kernel
theorem dX3_copy_11 : decode cX3_copy 11 = .ok (.aload_n 0, 1) := by decide +kernel
theorem dX3_copy_12 : decode cX3_copy 12 = .ok (.getfield 7, 3) := by decide +kernel
theorem dX3_copy_15 : decode cX3_copy 15 = .ok (.iload_n 2, 1) := by decide +kernel
theorem dX3_copy_16 : decode cX3_copy 16 = .ok (.aload_n 1, 1) := by decide +kernel
theorem dX3_copy_17 : decode cX3_copy 17 = .ok (.getfield 7, 3) := by decide +kernel
theorem dX3_copy_20 : decode cX3_copy 20 = .ok (.iload_n 2, 1) := by decide +kernel
theorem dX3_copy_21 : decode cX3_copy 21 = .ok (.daload, 1) := by decide +kernel
theorem dX3_copy_22 : decode cX3_copy 22 = .ok (.dastore, 1) := by decide +kernel
theorem dX3_copy_23 : decode cX3_copy 23 = .ok (.aload_n 0, 1) := by decide +kernel
theorem dX3_copy_24 : decode cX3_copy 24 = .ok (.getfield 13, 3) := by decide +kernel
theorem dX3_copy_27 : decode cX3_copy 27 = .ok (.iload_n 2, 1) := by decide +kernel
theorem dX3_copy_28 : decode cX3_copy 28 = .ok (.aload_n 1, 1) := by decide +kernel
theorem dX3_copy_29 : decode cX3_copy 29 = .ok (.getfield 13, 3) := by decide +kernel
theorem dX3_copy_32 : decode cX3_copy 32 = .ok (.iload_n 2, 1) := by decide +kernel
theorem dX3_copy_33 : decode cX3_copy 33 = .ok (.baload, 1) := by decide +kernel
theorem dX3_copy_34 : decode cX3_copy 34 = .ok (.bastore, 1) := by decide +kernel
theorem dX3_copy_35 : decode cX3_copy 35 = .ok (.iinc 2 1, 3) := by decide +kernel
theorem dX3_copy_38 : decode cX3_copy 38 = .ok (.goto (-36), 3) := by decide +kernel
theorem dX3_copy_41 : decode cX3_copy 41 = .ok (.return_, 1) := by decide +kernel
theorem dX3_copyOne_0 : decode cX3_copyOne 0 = .ok (.aload_n 0, 1) := by decide +kernel
theorem dX3_copyOne_1 : decode cX3_copyOne 1 = .ok (.getfield 7, 3) := by decide +kernel
theorem dX3_copyOne_4 : decode cX3_copyOne 4 = .ok (.iload_n 1, 1) := by decide +kernel
theorem dX3_copyOne_5 : decode cX3_copyOne 5 = .ok (.aload_n 2, 1) := by decide +kernel
theorem dX3_copyOne_6 : decode cX3_copyOne 6 = .ok (.getfield 7, 3) := by decide +kernel
theorem dX3_copyOne_9 : decode cX3_copyOne 9 = .ok (.iload_n 1, 1) := by decide +kernel
theorem dX3_copyOne_10 : decode cX3_copyOne 10 = .ok (.daload, 1) := by decide +kernel
theorem dX3_copyOne_11 : decode cX3_copyOne 11 = .ok (.dastore, 1) := by decide +kernel
theorem dX3_copyOne_12 : decode cX3_copyOne 12 = .ok (.aload_n 0, 1) := by decide +kernel
theorem dX3_copyOne_13 : decode cX3_copyOne 13 = .ok (.getfield 13, 3) := by decide +kernel
theorem dX3_copyOne_16 : decode cX3_copyOne 16 = .ok (.iload_n 1, 1) := by decide +kernel
theorem dX3_copyOne_17 : decode cX3_copyOne 17 = .ok (.aload_n 2, 1) := by decide +kernel
theorem dX3_copyOne_18 : decode cX3_copyOne 18 = .ok (.getfield 13, 3) := by decide +kernel
theorem dX3_copyOne_21 : decode cX3_copyOne 21 = .ok (.iload_n 1, 1) := by decide +kernel
theorem dX3_copyOne_22 : decode cX3_copyOne 22 = .ok (.baload, 1) := by decide +kernel
theorem dX3_copyOne_23 : decode cX3_copyOne 23 = .ok (.bastore, 1) := by decide +kernel
theorem dX3_copyOne_24 : decode cX3_copyOne 24 = .ok (.return_, 1) := by decide +kernel
theorem dX3_put_0 : decode cX3_put 0 = .ok (.aload_n 0, 1) := by decide +kernel
theorem dX3_put_1 : decode cX3_put 1 = .ok (.getfield 13, 3) := by decide +kernel
theorem dX3_put_4 : decode cX3_put 4 = .ok (.iload_n 1, 1) := by decide +kernel
theorem dX3_put_5 : decode cX3_put 5 = .ok (.iload 4, 2) := by decide +kernel
theorem dX3_put_7 : decode cX3_put 7 = .ok (.bastore, 1) := by decide +kernel
theorem dX3_put_8 : decode cX3_put 8 = .ok (.iload 4, 2) := by decide +kernel
theorem dX3_put_10 : decode cX3_put 10 = .ok (.ifCond .eq 13, 3) := by decide +kernel
theorem dX3_put_13 : decode cX3_put 13 = .ok (.aload_n 0, 1) := by decide +kernel
theorem dX3_put_14 : decode cX3_put 14 = .ok (.getfield 7, 3) := by decide +kernel
theorem dX3_put_17 : decode cX3_put 17 = .ok (.iload_n 1, 1) := by decide +kernel
theorem dX3_put_18 : decode cX3_put 18 = .ok (.dconst 0, 1) := by decide +kernel
theorem dX3_put_19 : decode cX3_put 19 = .ok (.dastore, 1) := by decide +kernel
theorem dX3_put_20 : decode cX3_put 20 = .ok (.goto 21, 3) := by decide +kernel
theorem dX3_put_23 : decode cX3_put 23 = .ok (.aload_n 0, 1) := by decide +kernel
theorem dX3_put_24 : decode cX3_put 24 = .ok (.getfield 7, 3) := by decide +kernel
theorem dX3_put_27 : decode cX3_put 27 = .ok (.iload_n 1, 1) := by decide +kernel
theorem dX3_put_28 : decode cX3_put 28 = .ok (.iload 5, 2) := by decide +kernel
theorem dX3_put_30 : decode cX3_put 30 = .ok (.ifCond .eq 9, 3) := by decide +kernel
theorem dX3_put_33 : decode cX3_put 33 = .ok (.dload_n 2, 1) := by decide +kernel
theorem dX3_put_34 : decode cX3_put 34 = .ok (.d2f, 1) := by decide +kernel
theorem dX3_put_35 : decode cX3_put 35 = .ok (.f2d, 1) := by decide +kernel
theorem dX3_put_36 : decode cX3_put 36 = .ok (.goto 4, 3) := by decide +kernel
theorem dX3_put_39 : decode cX3_put 39 = .ok (.dload_n 2, 1) := by decide +kernel
theorem dX3_put_40 : decode cX3_put 40 = .ok (.dastore, 1) := by decide +kernel
theorem dX3_put_41 : decode cX3_put 41 = .ok (.return_, 1) := by decide +kernel
theorem dX3_isFinite_0 : decode cX3_isFinite 0 = .ok (.iconst 0, 1) := by decide +kernel
theorem dX3_isFinite_1 : decode cX3_isFinite 1 = .ok (.istore_n 2, 1) := by decide +kernel
theorem dX3_isFinite_2 : decode cX3_isFinite 2 = .ok (.iload_n 2, 1) := by decide +kernel
theorem dX3_isFinite_3 : decode cX3_isFinite 3 = .ok (.iload_n 1, 1) := by decide +kernel
theorem dX3_isFinite_4 : decode cX3_isFinite 4 = .ok (.if_icmp .ge 46, 3) := by decide +kernel
theorem dX3_isFinite_7 : decode cX3_isFinite 7 = .ok (.aload_n 0, 1) := by decide +kernel
theorem dX3_isFinite_8 : decode cX3_isFinite 8 = .ok (.getfield 13, 3) := by decide +kernel
theorem dX3_isFinite_11 : decode cX3_isFinite 11 = .ok (.iload_n 2, 1) := by decide +kernel
theorem dX3_isFinite_12 : decode cX3_isFinite 12 = .ok (.baload, 1) := by decide +kernel
theorem dX3_isFinite_13 : decode cX3_isFinite 13 = .ok (.ifCond .ne 29, 3) := by decide +kernel
theorem dX3_isFinite_16 : decode cX3_isFinite 16 = .ok (.aload_n 0, 1) := by decide +kernel
theorem dX3_isFinite_17 : decode cX3_isFinite 17 = .ok (.getfield 7, 3) := by decide +kernel
theorem dX3_isFinite_20 : decode cX3_isFinite 20 = .ok (.iload_n 2, 1) := by decide +kernel
theorem dX3_isFinite_21 : decode cX3_isFinite 21 = .ok (.daload, 1) := by decide +kernel
theorem dX3_isFinite_22 : decode cX3_isFinite 22 = .ok (.ldc2_w 17, 3) := by decide +kernel
theorem dX3_isFinite_25 : decode cX3_isFinite 25 = .ok (.dcmp .l, 1) := by decide +kernel
theorem dX3_isFinite_26 : decode cX3_isFinite 26 = .ok (.ifCond .gt 16, 3) := by decide +kernel
theorem dX3_isFinite_29 : decode cX3_isFinite 29 = .ok (.aload_n 0, 1) := by decide +kernel
theorem dX3_isFinite_30 : decode cX3_isFinite 30 = .ok (.getfield 7, 3) := by decide +kernel
theorem dX3_isFinite_33 : decode cX3_isFinite 33 = .ok (.iload_n 2, 1) := by decide +kernel
theorem dX3_isFinite_34 : decode cX3_isFinite 34 = .ok (.daload, 1) := by decide +kernel
theorem dX3_isFinite_35 : decode cX3_isFinite 35 = .ok (.ldc2_w 19, 3) := by decide +kernel
theorem dX3_isFinite_38 : decode cX3_isFinite 38 = .ok (.dcmp .g, 1) := by decide +kernel
theorem dX3_isFinite_39 : decode cX3_isFinite 39 = .ok (.ifCond .ge 5, 3) := by decide +kernel
theorem dX3_isFinite_42 : decode cX3_isFinite 42 = .ok (.iconst 0, 1) := by decide +kernel
theorem dX3_isFinite_43 : decode cX3_isFinite 43 = .ok (.ireturn, 1) := by decide +kernel
theorem dX3_isFinite_44 : decode cX3_isFinite 44 = .ok (.iinc 2 1, 3) := by decide +kernel
theorem dX3_isFinite_47 : decode cX3_isFinite 47 = .ok (.goto (-45), 3) := by decide +kernel
theorem dX3_isFinite_50 : decode cX3_isFinite 50 = .ok (.iconst 1, 1) := by decide +kernel
theorem dX3_isFinite_51 : decode cX3_isFinite 51 = .ok (.ireturn, 1) := by decide +kernel
theorem dX4_init_0 : decode cX4_init 0 = .ok (.aload_n 0, 1) := by decide +kernel
theorem dX4_init_1 : decode cX4_init 1 = .ok (.invokespecial 3, 3) := by decide +kernel
theorem dX4_init_4 : decode cX4_init 4 = .ok (.aload_n 0, 1) := by decide +kernel
theorem dX4_init_5 : decode cX4_init 5 = .ok (.aload_n 1, 1) := by decide +kernel
theorem dX4_init_6 : decode cX4_init 6 = .ok (.putfield 9, 3) := by decide +kernel
theorem dX4_init_9 : decode cX4_init 9 = .ok (.aload_n 0, 1) := by decide +kernel
theorem dX4_init_10 : decode cX4_init 10 = .ok (.dload_n 2, 1) := by decide +kernel
theorem dX4_init_11 : decode cX4_init 11 = .ok (.putfield 15, 3) := by decide +kernel
theorem dX4_init_14 : decode cX4_init 14 = .ok (.aload_n 0, 1) := by decide +kernel
theorem dX4_init_15 : decode cX4_init 15 = .ok (.new 19, 3) := by decide +kernel
theorem dX4_init_18 : decode cX4_init 18 = .ok (.dup, 1) := by decide +kernel
theorem dX4_init_19 : decode cX4_init 19 = .ok (.bipush 6, 2) := by decide +kernel
theorem dX4_init_21 : decode cX4_init 21 = .ok (.invokespecial 21, 3) := by decide +kernel
theorem dX4_init_24 : decode cX4_init 24 = .ok (.putfield 24, 3) := by decide +kernel
theorem dX4_init_27 : decode cX4_init 27 = .ok (.aload_n 0, 1) := by decide +kernel
theorem dX4_init_28 : decode cX4_init 28 = .ok (.iconst 0, 1) := by decide +kernel
theorem dX4_init_29 : decode cX4_init 29 = .ok (.putfield 28, 3) := by decide +kernel
theorem dX4_init_32 : decode cX4_init 32 = .ok (.aload_n 0, 1) := by decide +kernel
theorem dX4_init_33 : decode cX4_init 33 = .ok (.ldc2_w 32, 3) := by decide +kernel
theorem dX4_init_36 : decode cX4_init 36 = .ok (.putfield 34, 3) := by decide +kernel
theorem dX4_init_39 : decode cX4_init 39 = .ok (.aload_n 0, 1) := by decide +kernel
theorem dX4_init_40 : decode cX4_init 40 = .ok (.ldc2_w 37, 3) := by decide +kernel
theorem dX4_init_43 : decode cX4_init 43 = .ok (.putfield 39, 3) := by decide +kernel
theorem dX4_init_46 : decode cX4_init 46 = .ok (.aload_n 0, 1) := by decide +kernel
theorem dX4_init_47 : decode cX4_init 47 = .ok (.dconst 0, 1) := by decide +kernel
theorem dX4_init_48 : decode cX4_init 48 = .ok (.putfield 42, 3) := by decide +kernel
theorem dX4_init_51 : decode cX4_init 51 = .ok (.aload_n 0, 1) := by decide +kernel
theorem dX4_init_52 : decode cX4_init 52 = .ok (.new 45, 3) := by decide +kernel
theorem dX4_init_55 : decode cX4_init 55 = .ok (.dup, 1) := by decide +kernel
theorem dX4_init_56 : decode cX4_init 56 = .ok (.invokespecial 47, 3) := by decide +kernel
theorem dX4_init_59 : decode cX4_init 59 = .ok (.putfield 48, 3) := by decide +kernel
theorem dX4_init_62 : decode cX4_init 62 = .ok (.aload_n 0, 1) := by decide +kernel
theorem dX4_init_63 : decode cX4_init 63 = .ok (.new 52, 3) := by decide +kernel
theorem dX4_init_66 : decode cX4_init 66 = .ok (.dup, 1) := by decide +kernel
theorem dX4_init_67 : decode cX4_init 67 = .ok (.aload 4, 2) := by decide +kernel
theorem dX4_init_69 : decode cX4_init 69 = .ok (.invokespecial 54, 3) := by decide +kernel
theorem dX4_init_72 : decode cX4_init 72 = .ok (.putfield 57, 3) := by decide +kernel
theorem dX4_init_75 : decode cX4_init 75 = .ok (.return_, 1) := by decide +kernel
theorem dX4_copy_0 : decode cX4_copy 0 = .ok (.aload_n 0, 1) := by decide +kernel
theorem dX4_copy_1 : decode cX4_copy 1 = .ok (.aload_n 1, 1) := by decide +kernel
theorem dX4_copy_2 : decode cX4_copy 2 = .ok (.getfield 9, 3) := by decide +kernel
theorem dX4_copy_5 : decode cX4_copy 5 = .ok (.putfield 9, 3) := by decide +kernel
theorem dX4_copy_8 : decode cX4_copy 8 = .ok (.aload_n 0, 1) := by decide +kernel
theorem dX4_copy_9 : decode cX4_copy 9 = .ok (.aload_n 1, 1) := by decide +kernel
theorem dX4_copy_10 : decode cX4_copy 10 = .ok (.getfield 15, 3) := by decide +kernel
theorem dX4_copy_13 : decode cX4_copy 13 = .ok (.putfield 15, 3) := by decide +kernel
theorem dX4_copy_16 : decode cX4_copy 16 = .ok (.aload_n 0, 1) := by decide +kernel
theorem dX4_copy_17 : decode cX4_copy 17 = .ok (.getfield 24, 3) := by decide +kernel
theorem dX4_copy_20 : decode cX4_copy 20 = .ok (.aload_n 1, 1) := by decide +kernel
theorem dX4_copy_21 : decode cX4_copy 21 = .ok (.getfield 24, 3) := by decide +kernel
theorem dX4_copy_24 : decode cX4_copy 24 = .ok (.invokevirtual 61, 3) := by decide +kernel
theorem dX4_copy_27 : decode cX4_copy 27 = .ok (.aload_n 0, 1) := by decide +kernel
theorem dX4_copy_28 : decode cX4_copy 28 = .ok (.aload_n 1, 1) := by decide +kernel
theorem dX4_copy_29 : decode cX4_copy 29 = .ok (.getfield 28, 3) := by decide +kernel
theorem dX4_copy_32 : decode cX4_copy 32 = .ok (.putfield 28, 3) := by decide +kernel
theorem dX4_copy_35 : decode cX4_copy 35 = .ok (.aload_n 0, 1) := by decide +kernel
theorem dX4_copy_36 : decode cX4_copy 36 = .ok (.aload_n 1, 1) := by decide +kernel
theorem dX4_copy_37 : decode cX4_copy 37 = .ok (.getfield 34, 3) := by decide +kernel
theorem dX4_copy_40 : decode cX4_copy 40 = .ok (.putfield 34, 3) := by decide +kernel
theorem dX4_copy_43 : decode cX4_copy 43 = .ok (.aload_n 0, 1) := by decide +kernel
theorem dX4_copy_44 : decode cX4_copy 44 = .ok (.aload_n 1, 1) := by decide +kernel
theorem dX4_copy_45 : decode cX4_copy 45 = .ok (.getfield 39, 3) := by decide +kernel
theorem dX4_copy_48 : decode cX4_copy 48 = .ok (.putfield 39, 3) := by decide +kernel
theorem dX4_copy_51 : decode cX4_copy 51 = .ok (.aload_n 0, 1) := by decide +kernel
theorem dX4_copy_52 : decode cX4_copy 52 = .ok (.aload_n 1, 1) := by decide +kernel
theorem dX4_copy_53 : decode cX4_copy 53 = .ok (.getfield 42, 3) := by decide +kernel
theorem dX4_copy_56 : decode cX4_copy 56 = .ok (.putfield 42, 3) := by decide +kernel
theorem dX4_copy_59 : decode cX4_copy 59 = .ok (.aload_n 0, 1) := by decide +kernel
theorem dX4_copy_60 : decode cX4_copy 60 = .ok (.aload_n 1, 1) := by decide +kernel
theorem dX4_copy_61 : decode cX4_copy 61 = .ok (.getfield 65, 3) := by decide +kernel
theorem dX4_copy_64 : decode cX4_copy 64 = .ok (.putfield 65, 3) := by decide +kernel
theorem dX4_copy_67 : decode cX4_copy 67 = .ok (.aload_n 0, 1) := by decide +kernel
theorem dX4_copy_68 : decode cX4_copy 68 = .ok (.aload_n 1, 1) := by decide +kernel
theorem dX4_copy_69 : decode cX4_copy 69 = .ok (.getfield 69, 3) := by decide +kernel
theorem dX4_copy_72 : decode cX4_copy 72 = .ok (.putfield 69, 3) := by decide +kernel
theorem dX4_copy_75 : decode cX4_copy 75 = .ok (.aload_n 0, 1) := by decide +kernel
theorem dX4_copy_76 : decode cX4_copy 76 = .ok (.aload_n 1, 1) := by decide +kernel
theorem dX4_copy_77 : decode cX4_copy 77 = .ok (.getfield 72, 3) := by decide +kernel
theorem dX4_copy_80 : decode cX4_copy 80 = .ok (.putfield 72, 3) := by decide +kernel
theorem dX4_copy_83 : decode cX4_copy 83 = .ok (.aload_n 0, 1) := by decide +kernel
theorem dX4_copy_84 : decode cX4_copy 84 = .ok (.getfield 48, 3) := by decide +kernel
theorem dX4_copy_87 : decode cX4_copy 87 = .ok (.aload_n 1, 1) := by decide +kernel
theorem dX4_copy_88 : decode cX4_copy 88 = .ok (.getfield 48, 3) := by decide +kernel
theorem dX4_copy_91 : decode cX4_copy 91 = .ok (.invokevirtual 75, 3) := by decide +kernel
theorem dX4_copy_94 : decode cX4_copy 94 = .ok (.aload_n 0, 1) := by decide +kernel
theorem dX4_copy_95 : decode cX4_copy 95 = .ok (.getfield 57, 3) := by decide +kernel
theorem dX4_copy_98 : decode cX4_copy 98 = .ok (.aload_n 1, 1) := by decide +kernel
theorem dX4_copy_99 : decode cX4_copy 99 = .ok (.getfield 57, 3) := by decide +kernel
theorem dX4_copy_102 : decode cX4_copy 102 = .ok (.invokevirtual 78, 3) := by decide +kernel
theorem dX4_copy_105 : decode cX4_copy 105 = .ok (.return_, 1) := by decide +kernel
theorem dX4_take_0 : decode cX4_take 0 = .ok (.aload_n 0, 1) := by decide +kernel
theorem dX4_take_1 : decode cX4_take 1 = .ok (.getfield 57, 3) := by decide +kernel
theorem dX4_take_4 : decode cX4_take 4 = .ok (.aload_n 1, 1) := by decide +kernel
theorem dX4_take_5 : decode cX4_take 5 = .ok (.invokevirtual 78, 3) := by decide +kernel
theorem dX4_take_8 : decode cX4_take 8 = .ok (.aload_n 0, 1) := by decide +kernel
theorem dX4_take_9 : decode cX4_take 9 = .ok (.getfield 57, 3) := by decide +kernel
theorem dX4_take_12 : decode cX4_take 12 = .ok (.invokevirtual 81, 3) := by decide +kernel
theorem dX4_take_15 : decode cX4_take 15 = .ok (.aload_n 0, 1) := by decide +kernel
theorem dX4_take_16 : decode cX4_take 16 = .ok (.getfield 24, 3) := by decide +kernel
theorem dX4_take_19 : decode cX4_take 19 = .ok (.aload_n 0, 1) := by decide +kernel
theorem dX4_take_20 : decode cX4_take 20 = .ok (.getfield 57, 3) := by decide +kernel
theorem dX4_take_23 : decode cX4_take 23 = .ok (.getfield 84, 3) := by decide +kernel
theorem dX4_take_26 : decode cX4_take 26 = .ok (.invokevirtual 61, 3) := by decide +kernel
theorem dX4_take_29 : decode cX4_take 29 = .ok (.aload_n 0, 1) := by decide +kernel
theorem dX4_take_30 : decode cX4_take 30 = .ok (.aload_n 0, 1) := by decide +kernel
theorem dX4_take_31 : decode cX4_take 31 = .ok (.getfield 57, 3) := by decide +kernel
theorem dX4_take_34 : decode cX4_take 34 = .ok (.getfield 87, 3) := by decide +kernel
theorem dX4_take_37 : decode cX4_take 37 = .ok (.putfield 15, 3) := by decide +kernel
theorem dX4_take_40 : decode cX4_take 40 = .ok (.aload_n 0, 1) := by decide +kernel
theorem dX4_take_41 : decode cX4_take 41 = .ok (.dup, 1) := by decide +kernel
theorem dX4_take_42 : decode cX4_take 42 = .ok (.getfield 69, 3) := by decide +kernel
theorem dX4_take_45 : decode cX4_take 45 = .ok (.iconst 1, 1) := by decide +kernel
theorem dX4_take_46 : decode cX4_take 46 = .ok (.iadd, 1) := by decide +kernel
theorem dX4_take_47 : decode cX4_take 47 = .ok (.putfield 69, 3) := by decide +kernel
theorem dX4_take_50 : decode cX4_take 50 = .ok (.aload_n 0, 1) := by decide +kernel
theorem dX4_take_51 : decode cX4_take 51 = .ok (.dup, 1) := by decide +kernel
theorem dX4_take_52 : decode cX4_take 52 = .ok (.getfield 72, 3) := by decide +kernel
theorem dX4_take_55 : decode cX4_take 55 = .ok (.iload_n 2, 1) := by decide +kernel
theorem dX4_take_56 : decode cX4_take 56 = .ok (.iadd, 1) := by decide +kernel
theorem dX4_take_57 : decode cX4_take 57 = .ok (.putfield 72, 3) := by decide +kernel
theorem dX4_take_60 : decode cX4_take 60 = .ok (.return_, 1) := by decide +kernel
theorem dX4_lookAtEvents_0 : decode cX4_lookAtEvents 0 = .ok (.iconst 0, 1) := by decide +kernel
theorem dX4_lookAtEvents_1 : decode cX4_lookAtEvents 1 = .ok (.istore_n 1, 1) := by decide +kernel
theorem dX4_lookAtEvents_2 : decode cX4_lookAtEvents 2 = .ok (.iload_n 1, 1) := by decide +kernel
theorem dX4_lookAtEvents_3 : decode cX4_lookAtEvents 3 = .ok (.aload_n 0, 1) := by decide +kernel
theorem dX4_lookAtEvents_4 : decode cX4_lookAtEvents 4 = .ok (.getfield 48, 3) := by decide +kernel
theorem dX4_lookAtEvents_7 : decode cX4_lookAtEvents 7 = .ok (.getfield 90, 3) := by decide +kernel
theorem dX4_lookAtEvents_10 : decode cX4_lookAtEvents 10 = .ok (.if_icmp .ge 23, 3) := by decide +kernel
theorem dX4_lookAtEvents_13 : decode cX4_lookAtEvents 13 = .ok (.aload_n 0, 1) := by decide +kernel
theorem dX4_lookAtEvents_14 : decode cX4_lookAtEvents 14 = .ok (.getfield 48, 3) := by decide +kernel
theorem dX4_lookAtEvents_17 : decode cX4_lookAtEvents 17 = .ok (.getfield 93, 3) := by decide +kernel
theorem dX4_lookAtEvents_20 : decode cX4_lookAtEvents 20 = .ok (.iload_n 1, 1) := by decide +kernel
theorem dX4_lookAtEvents_21 : decode cX4_lookAtEvents 21 = .ok (.aload_n 0, 1) := by decide +kernel
theorem dX4_lookAtEvents_22 : decode cX4_lookAtEvents 22 = .ok (.iload_n 1, 1) := by decide +kernel
theorem dX4_lookAtEvents_23 : decode cX4_lookAtEvents 23 = .ok (.invokevirtual 97, 3) := by decide +kernel
theorem dX4_lookAtEvents_26 : decode cX4_lookAtEvents 26 = .ok (.dastore, 1) := by decide +kernel
theorem dX4_lookAtEvents_27 : decode cX4_lookAtEvents 27 = .ok (.iinc 1 1, 3) := by decide +kernel
theorem dX4_lookAtEvents_30 : decode cX4_lookAtEvents 30 = .ok (.goto (-28), 3) := by decide +kernel
theorem dX4_lookAtEvents_33 : decode cX4_lookAtEvents 33 = .ok (.iconst 0, 1) := by decide +kernel
theorem dX4_lookAtEvents_34 : decode cX4_lookAtEvents 34 = .ok (.istore_n 1, 1) := by decide +kernel
theorem dX4_lookAtEvents_35 : decode cX4_lookAtEvents 35 = .ok (.iload_n 1, 1) := by decide +kernel
theorem dX4_lookAtEvents_36 : decode cX4_lookAtEvents 36 = .ok (.aload_n 0, 1) := by decide +kernel
theorem dX4_lookAtEvents_37 : decode cX4_lookAtEvents 37 = .ok (.getfield 48, 3) := by decide +kernel
theorem dX4_lookAtEvents_40 : decode cX4_lookAtEvents 40 = .ok (.getfield 90, 3) := by decide +kernel
theorem dX4_lookAtEvents_43 : decode cX4_lookAtEvents 43 = .ok (.if_icmp .ge 67, 3) := by decide +kernel
theorem dX4_lookAtEvents_46 : decode cX4_lookAtEvents 46 = .ok (.aload_n 0, 1) := by decide +kernel
theorem dX4_lookAtEvents_47 : decode cX4_lookAtEvents 47 = .ok (.getfield 48, 3) := by decide +kernel
theorem dX4_lookAtEvents_50 : decode cX4_lookAtEvents 50 = .ok (.invokevirtual 101, 3) := by decide +kernel
theorem dX4_lookAtEvents_53 : decode cX4_lookAtEvents 53 = .ok (.istore_n 2, 1) := by decide +kernel
theorem dX4_lookAtEvents_54 : decode cX4_lookAtEvents 54 = .ok (.iload_n 2, 1) := by decide +kernel
theorem dX4_lookAtEvents_55 : decode cX4_lookAtEvents 55 = .ok (.ifCond .ge 4, 3) := by decide +kernel
theorem dX4_lookAtEvents_58 : decode cX4_lookAtEvents 58 = .ok (.return_, 1) := by decide +kernel
theorem dX4_lookAtEvents_59 : decode cX4_lookAtEvents 59 = .ok (.aload_n 0, 1) := by decide +kernel
theorem dX4_lookAtEvents_60 : decode cX4_lookAtEvents 60 = .ok (.getfield 48, 3) := by decide +kernel
theorem dX4_lookAtEvents_63 : decode cX4_lookAtEvents 63 = .ok (.getfield 93, 3) := by decide +kernel
theorem dX4_lookAtEvents_66 : decode cX4_lookAtEvents 66 = .ok (.iload_n 2, 1) := by decide +kernel
theorem dX4_lookAtEvents_67 : decode cX4_lookAtEvents 67 = .ok (.daload, 1) := by decide +kernel
theorem dX4_lookAtEvents_68 : decode cX4_lookAtEvents 68 = .ok (.dstore_n 3, 1) := by decide +kernel
theorem dX4_lookAtEvents_69 : decode cX4_lookAtEvents 69 = .ok (.aload_n 0, 1) := by decide +kernel
theorem dX4_lookAtEvents_70 : decode cX4_lookAtEvents 70 = .ok (.getfield 48, 3) := by decide +kernel
theorem dX4_lookAtEvents_73 : decode cX4_lookAtEvents 73 = .ok (.iload_n 2, 1) := by decide +kernel
theorem dX4_lookAtEvents_74 : decode cX4_lookAtEvents 74 = .ok (.aload_n 0, 1) := by decide +kernel
theorem dX4_lookAtEvents_75 : decode cX4_lookAtEvents 75 = .ok (.getfield 57, 3) := by decide +kernel
theorem dX4_lookAtEvents_78 : decode cX4_lookAtEvents 78 = .ok (.dload_n 3, 1) := by decide +kernel
theorem dX4_lookAtEvents_79 : decode cX4_lookAtEvents 79 = .ok (.invokevirtual 105, 3) := by decide +kernel
theorem dX4_lookAtEvents_82 : decode cX4_lookAtEvents 82 = .ok (.invokevirtual 109, 3) := by decide +kernel
theorem dX4_lookAtEvents_85 : decode cX4_lookAtEvents 85 = .ok (.aload_n 0, 1) := by decide +kernel
theorem dX4_lookAtEvents_86 : decode cX4_lookAtEvents 86 = .ok (.getfield 48, 3) := by decide +kernel
theorem dX4_lookAtEvents_89 : decode cX4_lookAtEvents 89 = .ok (.getfield 113, 3) := by decide +kernel
theorem dX4_lookAtEvents_92 : decode cX4_lookAtEvents 92 = .ok (.iload_n 2, 1) := by decide +kernel
theorem dX4_lookAtEvents_93 : decode cX4_lookAtEvents 93 = .ok (.iaload, 1) := by decide +kernel
theorem dX4_lookAtEvents_94 : decode cX4_lookAtEvents 94 = .ok (.ifCond .eq 10, 3) := by decide +kernel
theorem dX4_lookAtEvents_97 : decode cX4_lookAtEvents 97 = .ok (.aload_n 0, 1) := by decide +kernel
theorem dX4_lookAtEvents_98 : decode cX4_lookAtEvents 98 = .ok (.iload_n 2, 1) := by decide +kernel
theorem dX4_lookAtEvents_99 : decode cX4_lookAtEvents 99 = .ok (.dload_n 3, 1) := by decide +kernel
theorem dX4_lookAtEvents_100 : decode cX4_lookAtEvents 100 = .ok (.invokevirtual 117, 3) := by decide +kernel
theorem dX4_lookAtEvents_103 : decode cX4_lookAtEvents 103 = .ok (.return_, 1) := by decide +kernel
theorem dX4_lookAtEvents_104 : decode cX4_lookAtEvents 104 = .ok (.iinc 1 1, 3) := by decide +kernel
theorem dX4_lookAtEvents_107 : decode cX4_lookAtEvents 107 = .ok (.goto (-72), 3) := by decide +kernel
theorem dX4_lookAtEvents_110 : decode cX4_lookAtEvents 110 = .ok (.return_, 1) := by decide +kernel
theorem dX4_highOf_0 : decode cX4_highOf 0 = .ok (.aload_n 0, 1) := by decide +kernel
theorem dX4_highOf_1 : decode cX4_highOf 1 = .ok (.getfield 48, 3) := by decide +kernel
theorem dX4_highOf_4 : decode cX4_highOf 4 = .ok (.getfield 120, 3) := by decide +kernel
theorem dX4_highOf_7 : decode cX4_highOf 7 = .ok (.iload_n 1, 1) := by decide +kernel
theorem dX4_highOf_8 : decode cX4_highOf 8 = .ok (.iaload, 1) := by decide +kernel
theorem dX4_highOf_9 : decode cX4_highOf 9 = .ok (.istore_n 2, 1) := by decide +kernel
theorem dX4_highOf_10 : decode cX4_highOf 10 = .ok (.aload_n 0, 1) := by decide +kernel
theorem dX4_highOf_11 : decode cX4_highOf 11 = .ok (.getfield 9, 3) := by decide +kernel
theorem dX4_highOf_14 : decode cX4_highOf 14 = .ok (.aload_n 0, 1) := by decide +kernel
theorem dX4_highOf_15 : decode cX4_highOf 15 = .ok (.getfield 57, 3) := by decide +kernel
theorem dX4_highOf_18 : decode cX4_highOf 18 = .ok (.getfield 123, 3) := by decide +kernel
theorem dX4_highOf_21 : decode cX4_highOf 21 = .ok (.aload_n 0, 1) := by decide +kernel
theorem dX4_highOf_22 : decode cX4_highOf 22 = .ok (.getfield 57, 3) := by decide +kernel
theorem dX4_highOf_25 : decode cX4_highOf 25 = .ok (.getfield 126, 3) := by decide +kernel
theorem dX4_highOf_28 : decode cX4_highOf 28 = .ok (.iload_n 2, 1) := by decide +kernel
theorem dX4_highOf_29 : decode cX4_highOf 29 = .ok (.iconst 1, 1) := by decide +kernel
theorem dX4_highOf_30 : decode cX4_highOf 30 = .ok (.iadd, 1) := by decide +kernel
theorem dX4_highOf_31 : decode cX4_highOf 31 = .ok (.invokevirtual 129, 3) := by decide +kernel
theorem dX4_highOf_34 : decode cX4_highOf 34 = .ok (.aload_n 0, 1) := by decide +kernel
theorem dX4_highOf_35 : decode cX4_highOf 35 = .ok (.getfield 9, 3) := by decide +kernel
theorem dX4_highOf_38 : decode cX4_highOf 38 = .ok (.iload_n 2, 1) := by decide +kernel
theorem dX4_highOf_39 : decode cX4_highOf 39 = .ok (.invokevirtual 135, 3) := by decide +kernel
theorem dX4_highOf_42 : decode cX4_highOf 42 = .ok (.istore_n 3, 1) := by decide +kernel
theorem dX4_highOf_43 : decode cX4_highOf 43 = .ok (.aload_n 0, 1) := by decide +kernel
theorem dX4_highOf_44 : decode cX4_highOf 44 = .ok (.getfield 9, 3) := by decide +kernel
theorem dX4_highOf_47 : decode cX4_highOf 47 = .ok (.aload_n 0, 1) := by decide +kernel
theorem dX4_highOf_48 : decode cX4_highOf 48 = .ok (.getfield 57, 3) := by decide +kernel
theorem dX4_highOf_51 : decode cX4_highOf 51 = .ok (.getfield 87, 3) := by decide +kernel
theorem dX4_highOf_54 : decode cX4_highOf 54 = .ok (.aload_n 0, 1) := by decide +kernel
theorem dX4_highOf_55 : decode cX4_highOf 55 = .ok (.getfield 57, 3) := by decide +kernel
theorem dX4_highOf_58 : decode cX4_highOf 58 = .ok (.getfield 84, 3) := by decide +kernel
theorem dX4_highOf_61 : decode cX4_highOf 61 = .ok (.iload_n 2, 1) := by decide +kernel
theorem dX4_highOf_62 : decode cX4_highOf 62 = .ok (.iconst 1, 1) := by decide +kernel
theorem dX4_highOf_63 : decode cX4_highOf 63 = .ok (.iadd, 1) := by decide +kernel
theorem dX4_highOf_64 : decode cX4_highOf 64 = .ok (.invokevirtual 129, 3) := by decide +kernel
theorem dX4_highOf_67 : decode cX4_highOf 67 = .ok (.aload_n 0, 1) := by decide +kernel
theorem dX4_highOf_68 : decode cX4_highOf 68 = .ok (.getfield 48, 3) := by decide +kernel
theorem dX4_highOf_71 : decode cX4_highOf 71 = .ok (.iload_n 1, 1) := by decide +kernel
theorem dX4_highOf_72 : decode cX4_highOf 72 = .ok (.iload_n 3, 1) := by decide +kernel
theorem dX4_highOf_73 : decode cX4_highOf 73 = .ok (.aload_n 0, 1) := by decide +kernel
theorem dX4_highOf_74 : decode cX4_highOf 74 = .ok (.getfield 9, 3) := by decide +kernel
theorem dX4_highOf_77 : decode cX4_highOf 77 = .ok (.iload_n 2, 1) := by decide +kernel
theorem dX4_highOf_78 : decode cX4_highOf 78 = .ok (.invokevirtual 135, 3) := by decide +kernel
theorem dX4_highOf_81 : decode cX4_highOf 81 = .ok (.invokevirtual 139, 3) := by decide +kernel
theorem dX4_highOf_84 : decode cX4_highOf 84 = .ok (.istore 4, 2) := by decide +kernel
theorem dX4_highOf_86 : decode cX4_highOf 86 = .ok (.iload 4, 2) := by decide +kernel
theorem dX4_highOf_88 : decode cX4_highOf 88 = .ok (.ifCond .ne 9, 3) := by decide +kernel
theorem dX4_highOf_91 : decode cX4_highOf 91 = .ok (.ldc2_w 143, 3) := by decide +kernel
theorem dX4_highOf_94 : decode cX4_highOf 94 = .ok (.goto 10, 3) := by decide +kernel
theorem dX4_highOf_97 : decode cX4_highOf 97 = .ok (.aload_n 0, 1) := by decide +kernel
theorem dX4_highOf_98 : decode cX4_highOf 98 = .ok (.iload_n 2, 1) := by decide +kernel
theorem dX4_highOf_99 : decode cX4_highOf 99 = .ok (.iload 4, 2) := by decide +kernel
theorem dX4_highOf_101 : decode cX4_highOf 101 = .ok (.invokevirtual 145, 3) := by decide +kernel
theorem dX4_highOf_104 : decode cX4_highOf 104 = .ok (.dreturn, 1) := by decide +kernel
theorem dX4_search_0 : decode cX4_search 0 = .ok (.dconst 0, 1) := by decide +kernel
theorem dX4_search_1 : decode cX4_search 1 = .ok (.dstore_n 3, 1) := by decide +kernel
theorem dX4_search_2 : decode cX4_search 2 = .ok (.dconst 1, 1) := by decide +kernel
theorem dX4_search_3 : decode cX4_search 3 = .ok (.dstore 5, 2) := by decide +kernel
theorem dX4_search_5 : decode cX4_search 5 = .ok (.iconst 0, 1) := by decide +kernel
theorem dX4_search_6 : decode cX4_search 6 = .ok (.istore 7, 2) := by decide +kernel
theorem dX4_search_8 : decode cX4_search 8 = .ok (.iload 7, 2) := by decide +kernel
theorem dX4_search_10 : decode cX4_search 10 = .ok (.bipush 30, 2) := by decide +kernel
theorem dX4_search_12 : decode cX4_search 12 = .ok (.if_icmp .ge 85, 3) := by decide +kernel
theorem dX4_search_15 : decode cX4_search 15 = .ok (.dload_n 3, 1) := by decide +kernel
theorem dX4_search_16 : decode cX4_search 16 = .ok (.dload 5, 2) := by decide +kernel
theorem dX4_search_18 : decode cX4_search 18 = .ok (.dadd, 1) := by decide +kernel
theorem dX4_search_19 : decode cX4_search 19 = .ok (.ldc2_w 143, 3) := by decide +kernel
theorem dX4_search_22 : decode cX4_search 22 = .ok (.ddiv, 1) := by decide +kernel
theorem dX4_search_23 : decode cX4_search 23 = .ok (.dstore 8, 2) := by decide +kernel
theorem dX4_search_25 : decode cX4_search 25 = .ok (.aload_n 0, 1) := by decide +kernel
theorem dX4_search_26 : decode cX4_search 26 = .ok (.getfield 57, 3) := by decide +kernel
theorem dX4_search_29 : decode cX4_search 29 = .ok (.dload 8, 2) := by decide +kernel
theorem dX4_search_31 : decode cX4_search 31 = .ok (.invokevirtual 149, 3) := by decide +kernel
theorem dX4_search_34 : decode cX4_search 34 = .ok (.aload_n 0, 1) := by decide +kernel
theorem dX4_search_35 : decode cX4_search 35 = .ok (.getfield 9, 3) := by decide +kernel
theorem dX4_search_38 : decode cX4_search 38 = .ok (.aload_n 0, 1) := by decide +kernel
theorem dX4_search_39 : decode cX4_search 39 = .ok (.getfield 57, 3) := by decide +kernel
theorem dX4_search_42 : decode cX4_search 42 = .ok (.dload 8, 2) := by decide +kernel
theorem dX4_search_44 : decode cX4_search 44 = .ok (.invokevirtual 105, 3) := by decide +kernel
theorem dX4_search_47 : decode cX4_search 47 = .ok (.aload_n 0, 1) := by decide +kernel
theorem dX4_search_48 : decode cX4_search 48 = .ok (.getfield 57, 3) := by decide +kernel
theorem dX4_search_51 : decode cX4_search 51 = .ok (.getfield 153, 3) := by decide +kernel
theorem dX4_search_54 : decode cX4_search 54 = .ok (.iload_n 1, 1) := by decide +kernel
theorem dX4_search_55 : decode cX4_search 55 = .ok (.iconst 1, 1) := by decide +kernel
theorem dX4_search_56 : decode cX4_search 56 = .ok (.iadd, 1) := by decide +kernel
theorem dX4_search_57 : decode cX4_search 57 = .ok (.invokevirtual 129, 3) := by decide +kernel
theorem dX4_search_60 : decode cX4_search 60 = .ok (.aload_n 0, 1) := by decide +kernel
theorem dX4_search_61 : decode cX4_search 61 = .ok (.getfield 9, 3) := by decide +kernel
theorem dX4_search_64 : decode cX4_search 64 = .ok (.iload_n 1, 1) := by decide +kernel
theorem dX4_search_65 : decode cX4_search 65 = .ok (.invokevirtual 135, 3) := by decide +kernel
theorem dX4_search_68 : decode cX4_search 68 = .ok (.istore 10, 2) := by decide +kernel
theorem dX4_search_70 : decode cX4_search 70 = .ok (.iload 10, 2) := by decide +kernel
theorem dX4_search_72 : decode cX4_search 72 = .ok (.ifCond .eq 9, 3) := by decide +kernel
theorem dX4_search_75 : decode cX4_search 75 = .ok (.iload 10, 2) := by decide +kernel
theorem dX4_search_77 : decode cX4_search 77 = .ok (.iload_n 2, 1) := by decide +kernel
theorem dX4_search_78 : decode cX4_search 78 = .ok (.if_icmp .ne 10, 3) := by decide +kernel
theorem dX4_search_81 : decode cX4_search 81 = .ok (.dload 8, 2) := by decide +kernel
theorem dX4_search_83 : decode cX4_search 83 = .ok (.dstore 5, 2) := by decide +kernel
theorem dX4_search_85 : decode cX4_search 85 = .ok (.goto 6, 3) := by decide +kernel
theorem dX4_search_88 : decode cX4_search 88 = .ok (.dload 8, 2) := by decide +kernel
theorem dX4_search_90 : decode cX4_search 90 = .ok (.dstore_n 3, 1) := by decide +kernel
theorem dX4_search_91 : decode cX4_search 91 = .ok (.iinc 7 1, 3) := by decide +kernel
theorem dX4_search_94 : decode cX4_search 94 = .ok (.goto (-86), 3) := by decide +kernel
theorem dX4_search_97 : decode cX4_search 97 = .ok (.dload 5, 2) := by decide +kernel
theorem dX4_search_99 : decode cX4_search 99 = .ok (.dreturn, 1) := by decide +kernel
theorem dX4_act_0 : decode cX4_act 0 = .ok (.dload_n 2, 1) := by decide +kernel
theorem dX4_act_1 : decode cX4_act 1 = .ok (.dconst 1, 1) := by decide +kernel
theorem dX4_act_2 : decode cX4_act 2 = .ok (.dcmp .l, 1) := by decide +kernel
theorem dX4_act_3 : decode cX4_act 3 = .ok (.ifCond .eq 37, 3) := by decide +kernel
theorem dX4_act_6 : decode cX4_act 6 = .ok (.aload_n 0, 1) := by decide +kernel
theorem dX4_act_7 : decode cX4_act 7 = .ok (.getfield 57, 3) := by decide +kernel
theorem dX4_act_10 : decode cX4_act 10 = .ok (.dload_n 2, 1) := by decide +kernel
theorem dX4_act_11 : decode cX4_act 11 = .ok (.invokevirtual 149, 3) := by decide +kernel
theorem dX4_act_14 : decode cX4_act 14 = .ok (.aload_n 0, 1) := by decide +kernel
theorem dX4_act_15 : decode cX4_act 15 = .ok (.getfield 24, 3) := by decide +kernel
theorem dX4_act_18 : decode cX4_act 18 = .ok (.aload_n 0, 1) := by decide +kernel
theorem dX4_act_19 : decode cX4_act 19 = .ok (.getfield 57, 3) := by decide +kernel
theorem dX4_act_22 : decode cX4_act 22 = .ok (.getfield 153, 3) := by decide +kernel
theorem dX4_act_25 : decode cX4_act 25 = .ok (.invokevirtual 61, 3) := by decide +kernel
theorem dX4_act_28 : decode cX4_act 28 = .ok (.aload_n 0, 1) := by decide +kernel
theorem dX4_act_29 : decode cX4_act 29 = .ok (.aload_n 0, 1) := by decide +kernel
theorem dX4_act_30 : decode cX4_act 30 = .ok (.getfield 57, 3) := by decide +kernel
theorem dX4_act_33 : decode cX4_act 33 = .ok (.dload_n 2, 1) := by decide +kernel
theorem dX4_act_34 : decode cX4_act 34 = .ok (.invokevirtual 105, 3) := by decide +kernel
theorem dX4_act_37 : decode cX4_act 37 = .ok (.putfield 15, 3) := by decide +kernel
theorem dX4_act_40 : decode cX4_act 40 = .ok (.aload_n 0, 1) := by decide +kernel
theorem dX4_act_41 : decode cX4_act 41 = .ok (.getfield 48, 3) := by decide +kernel
theorem dX4_act_44 : decode cX4_act 44 = .ok (.getfield 113, 3) := by decide +kernel
theorem dX4_act_47 : decode cX4_act 47 = .ok (.iload_n 1, 1) := by decide +kernel
theorem dX4_act_48 : decode cX4_act 48 = .ok (.iaload, 1) := by decide +kernel
theorem dX4_act_49 : decode cX4_act 49 = .ok (.iconst 1, 1) := by decide +kernel
theorem dX4_act_50 : decode cX4_act 50 = .ok (.if_icmp .ne 11, 3) := by decide +kernel
theorem dX4_act_53 : decode cX4_act 53 = .ok (.aload_n 0, 1) := by decide +kernel
theorem dX4_act_54 : decode cX4_act 54 = .ok (.iconst 1, 1) := by decide +kernel
theorem dX4_act_55 : decode cX4_act 55 = .ok (.putfield 65, 3) := by decide +kernel
theorem dX4_act_58 : decode cX4_act 58 = .ok (.goto 71, 3) := by decide +kernel
theorem dX4_act_61 : decode cX4_act 61 = .ok (.aload_n 0, 1) := by decide +kernel
theorem dX4_act_62 : decode cX4_act 62 = .ok (.getfield 48, 3) := by decide +kernel
theorem dX4_act_65 : decode cX4_act 65 = .ok (.getfield 113, 3) := by decide +kernel
theorem dX4_act_68 : decode cX4_act 68 = .ok (.iload_n 1, 1) := by decide +kernel
theorem dX4_act_69 : decode cX4_act 69 = .ok (.iaload, 1) := by decide +kernel
theorem dX4_act_70 : decode cX4_act 70 = .ok (.iconst 2, 1) := by decide +kernel
theorem dX4_act_71 : decode cX4_act 71 = .ok (.if_icmp .ne 58, 3) := by decide +kernel
theorem dX4_act_74 : decode cX4_act 74 = .ok (.aload_n 0, 1) := by decide +kernel
theorem dX4_act_75 : decode cX4_act 75 = .ok (.getfield 9, 3) := by decide +kernel
theorem dX4_act_78 : decode cX4_act 78 = .ok (.aload_n 0, 1) := by decide +kernel
theorem dX4_act_79 : decode cX4_act 79 = .ok (.getfield 48, 3) := by decide +kernel
theorem dX4_act_82 : decode cX4_act 82 = .ok (.getfield 156, 3) := by decide +kernel
theorem dX4_act_85 : decode cX4_act 85 = .ok (.iload_n 1, 1) := by decide +kernel
theorem dX4_act_86 : decode cX4_act 86 = .ok (.iaload, 1) := by decide +kernel
theorem dX4_act_87 : decode cX4_act 87 = .ok (.invokevirtual 159, 3) := by decide +kernel
theorem dX4_act_90 : decode cX4_act 90 = .ok (.ifCond .eq 15, 3) := by decide +kernel
theorem dX4_act_93 : decode cX4_act 93 = .ok (.aload_n 0, 1) := by decide +kernel
theorem dX4_act_94 : decode cX4_act 94 = .ok (.getfield 48, 3) := by decide +kernel
theorem dX4_act_97 : decode cX4_act 97 = .ok (.getfield 156, 3) := by decide +kernel
theorem dX4_act_100 : decode cX4_act 100 = .ok (.iload_n 1, 1) := by decide +kernel
theorem dX4_act_101 : decode cX4_act 101 = .ok (.iaload, 1) := by decide +kernel
theorem dX4_act_102 : decode cX4_act 102 = .ok (.goto 4, 3) := by decide +kernel
theorem dX4_act_105 : decode cX4_act 105 = .ok (.iconst 0, 1) := by decide +kernel
theorem dX4_act_106 : decode cX4_act 106 = .ok (.istore 4, 2) := by decide +kernel
theorem dX4_act_108 : decode cX4_act 108 = .ok (.aload_n 0, 1) := by decide +kernel
theorem dX4_act_109 : decode cX4_act 109 = .ok (.getfield 24, 3) := by decide +kernel
theorem dX4_act_112 : decode cX4_act 112 = .ok (.getfield 163, 3) := by decide +kernel
theorem dX4_act_115 : decode cX4_act 115 = .ok (.iload 4, 2) := by decide +kernel
theorem dX4_act_117 : decode cX4_act 117 = .ok (.aload_n 0, 1) := by decide +kernel
theorem dX4_act_118 : decode cX4_act 118 = .ok (.getfield 24, 3) := by decide +kernel
theorem dX4_act_121 : decode cX4_act 121 = .ok (.getfield 163, 3) := by decide +kernel
theorem dX4_act_124 : decode cX4_act 124 = .ok (.iload 4, 2) := by decide +kernel
theorem dX4_act_126 : decode cX4_act 126 = .ok (.daload, 1) := by decide +kernel
theorem dX4_act_127 : decode cX4_act 127 = .ok (.dneg, 1) := by decide +kernel
theorem dX4_act_128 : decode cX4_act 128 = .ok (.dastore, 1) := by decide +kernel
theorem dX4_act_129 : decode cX4_act 129 = .ok (.return_, 1) := by decide +kernel
theorem dX5_init_0 : decode cX5_init 0 = .ok (.aload_n 0, 1) := by decide +kernel
theorem dX5_init_1 : decode cX5_init 1 = .ok (.invokespecial 3, 3) := by decide +kernel
theorem dX5_init_4 : decode cX5_init 4 = .ok (.aload_n 0, 1) := by decide +kernel
theorem dX5_init_5 : decode cX5_init 5 = .ok (.iload_n 1, 1) := by decide +kernel
theorem dX5_init_6 : decode cX5_init 6 = .ok (.putfield 9, 3) := by decide +kernel
theorem dX5_init_9 : decode cX5_init 9 = .ok (.aload_n 0, 1) := by decide +kernel
theorem dX5_init_10 : decode cX5_init 10 = .ok (.bipush 16, 2) := by decide +kernel
theorem dX5_init_12 : decode cX5_init 12 = .ok (.newarray .double, 2) := by decide +kernel
theorem dX5_init_14 : decode cX5_init 14 = .ok (.putfield 15, 3) := by decide +kernel
theorem dX5_init_17 : decode cX5_init 17 = .ok (.aload_n 0, 1) := by decide +kernel
theorem dX5_init_18 : decode cX5_init 18 = .ok (.bipush 16, 2) := by decide +kernel
theorem dX5_init_20 : decode cX5_init 20 = .ok (.newarray .double, 2) := by decide +kernel
theorem dX5_init_22 : decode cX5_init 22 = .ok (.putfield 19, 3) := by decide +kernel
theorem dX5_init_25 : decode cX5_init 25 = .ok (.return_, 1) := by decide +kernel
theorem dX5_add_0 : decode cX5_add 0 = .ok (.aload_n 0, 1) := by decide +kernel
theorem dX5_add_1 : decode cX5_add 1 = .ok (.getfield 22, 3) := by decide +kernel
theorem dX5_add_4 : decode cX5_add 4 = .ok (.ifCond .le 22, 3) := by decide +kernel
theorem dX5_add_7 : decode cX5_add 7 = .ok (.dload_n 1, 1) := by decide +kernel
theorem dX5_add_8 : decode cX5_add 8 = .ok (.aload_n 0, 1) := by decide +kernel
theorem dX5_add_9 : decode cX5_add 9 = .ok (.getfield 15, 3) := by decide +kernel
theorem dX5_add_12 : decode cX5_add 12 = .ok (.aload_n 0, 1) := by decide +kernel
theorem dX5_add_13 : decode cX5_add 13 = .ok (.getfield 22, 3) := by decide +kernel
theorem dX5_add_16 : decode cX5_add 16 = .ok (.iconst 1, 1) := by decide +kernel
theorem dX5_add_17 : decode cX5_add 17 = .ok (.isub, 1) := by decide +kernel
theorem dX5_add_18 : decode cX5_add 18 = .ok (.daload, 1) := by decide +kernel
theorem dX5_add_19 : decode cX5_add 19 = .ok (.dcmp .g, 1) := by decide +kernel
theorem dX5_add_20 : decode cX5_add 20 = .ok (.ifCond .gt 6, 3) := by decide +kernel
theorem dX5_add_23 : decode cX5_add 23 = .ok (.bipush (-2), 2) := by decide +kernel
theorem dX5_add_25 : decode cX5_add 25 = .ok (.ireturn, 1) := by decide +kernel
theorem dX5_add_26 : decode cX5_add 26 = .ok (.aload_n 0, 1) := by decide +kernel
theorem dX5_add_27 : decode cX5_add 27 = .ok (.getfield 22, 3) := by decide +kernel
theorem dX5_add_30 : decode cX5_add 30 = .ok (.bipush 16, 2) := by decide +kernel
theorem dX5_add_32 : decode cX5_add 32 = .ok (.if_icmp .lt 6, 3) := by decide +kernel
theorem dX5_add_35 : decode cX5_add 35 = .ok (.bipush (-3), 2) := by decide +kernel
theorem dX5_add_37 : decode cX5_add 37 = .ok (.ireturn, 1) := by decide +kernel
theorem dX5_add_38 : decode cX5_add 38 = .ok (.aload_n 0, 1) := by decide +kernel
theorem dX5_add_39 : decode cX5_add 39 = .ok (.getfield 15, 3) := by decide +kernel
theorem dX5_add_42 : decode cX5_add 42 = .ok (.aload_n 0, 1) := by decide +kernel
theorem dX5_add_43 : decode cX5_add 43 = .ok (.getfield 22, 3) := by decide +kernel
theorem dX5_add_46 : decode cX5_add 46 = .ok (.dload_n 1, 1) := by decide +kernel
theorem dX5_add_47 : decode cX5_add 47 = .ok (.dastore, 1) := by decide +kernel
theorem dX5_add_48 : decode cX5_add 48 = .ok (.aload_n 0, 1) := by decide +kernel
theorem dX5_add_49 : decode cX5_add 49 = .ok (.getfield 19, 3) := by decide +kernel
theorem dX5_add_52 : decode cX5_add 52 = .ok (.aload_n 0, 1) := by decide +kernel
theorem dX5_add_53 : decode cX5_add 53 = .ok (.getfield 22, 3) := by decide +kernel
theorem dX5_add_56 : decode cX5_add 56 = .ok (.dload_n 3, 1) := by decide +kernel
theorem dX5_add_57 : decode cX5_add 57 = .ok (.dastore, 1) := by decide +kernel
theorem dX5_add_58 : decode cX5_add 58 = .ok (.aload_n 0, 1) := by decide +kernel
theorem dX5_add_59 : decode cX5_add 59 = .ok (.dup, 1) := by decide +kernel
theorem dX5_add_60 : decode cX5_add 60 = .ok (.getfield 22, 3) := by decide +kernel
theorem dX5_add_63 : decode cX5_add 63 = .ok (.iconst 1, 1) := by decide +kernel
theorem dX5_add_64 : decode cX5_add 64 = .ok (.iadd, 1) := by decide +kernel
theorem dX5_add_65 : decode cX5_add 65 = .ok (.putfield 22, 3) := by decide +kernel
theorem dX5_add_68 : decode cX5_add 68 = .ok (.aload_n 0, 1) := by decide +kernel
theorem dX5_add_69 : decode cX5_add 69 = .ok (.getfield 22, 3) := by decide +kernel
theorem dX5_add_72 : decode cX5_add 72 = .ok (.iconst 1, 1) := by decide +kernel
theorem dX5_add_73 : decode cX5_add 73 = .ok (.isub, 1) := by decide +kernel
theorem dX5_add_74 : decode cX5_add 74 = .ok (.ireturn, 1) := by decide +kernel
theorem dX5_heightAt_0 : decode cX5_heightAt 0 = .ok (.aload_n 0, 1) := by decide +kernel
theorem dX5_heightAt_1 : decode cX5_heightAt 1 = .ok (.getfield 22, 3) := by decide +kernel
theorem dX5_heightAt_4 : decode cX5_heightAt 4 = .ok (.ifCond .ne 5, 3) := by decide +kernel
theorem dX5_heightAt_7 : decode cX5_heightAt 7 = .ok (.dconst 0, 1) := by decide +kernel
theorem dX5_heightAt_8 : decode cX5_heightAt 8 = .ok (.dreturn, 1) := by decide +kernel
theorem dX5_heightAt_9 : decode cX5_heightAt 9 = .ok (.iconst 0, 1) := by decide +kernel
theorem dX5_heightAt_10 : decode cX5_heightAt 10 = .ok (.istore_n 3, 1) := by decide +kernel
theorem dX5_heightAt_11 : decode cX5_heightAt 11 = .ok (.iconst 1, 1) := by decide +kernel
theorem dX5_heightAt_12 : decode cX5_heightAt 12 = .ok (.istore 4, 2) := by decide +kernel
theorem dX5_heightAt_14 : decode cX5_heightAt 14 = .ok (.iload 4, 2) := by decide +kernel
theorem dX5_heightAt_16 : decode cX5_heightAt 16 = .ok (.aload_n 0, 1) := by decide +kernel
theorem dX5_heightAt_17 : decode cX5_heightAt 17 = .ok (.getfield 22, 3) := by decide +kernel
theorem dX5_heightAt_20 : decode cX5_heightAt 20 = .ok (.if_icmp .ge 24, 3) := by decide +kernel
theorem dX5_heightAt_23 : decode cX5_heightAt 23 = .ok (.aload_n 0, 1) := by decide +kernel
theorem dX5_heightAt_24 : decode cX5_heightAt 24 = .ok (.getfield 15, 3) := by decide +kernel
theorem dX5_heightAt_27 : decode cX5_heightAt 27 = .ok (.iload 4, 2) := by decide +kernel
theorem dX5_heightAt_29 : decode cX5_heightAt 29 = .ok (.daload, 1) := by decide +kernel
theorem dX5_heightAt_30 : decode cX5_heightAt 30 = .ok (.dload_n 1, 1) := by decide +kernel
theorem dX5_heightAt_31 : decode cX5_heightAt 31 = .ok (.dcmp .g, 1) := by decide +kernel
theorem dX5_heightAt_32 : decode cX5_heightAt 32 = .ok (.ifCond .gt 12, 3) := by decide +kernel
theorem dX5_heightAt_35 : decode cX5_heightAt 35 = .ok (.iload 4, 2) := by decide +kernel
theorem dX5_heightAt_37 : decode cX5_heightAt 37 = .ok (.istore_n 3, 1) := by decide +kernel
theorem dX5_heightAt_38 : decode cX5_heightAt 38 = .ok (.iinc 4 1, 3) := by decide +kernel
theorem dX5_heightAt_41 : decode cX5_heightAt 41 = .ok (.goto (-27), 3) := by decide +kernel
theorem dX5_heightAt_44 : decode cX5_heightAt 44 = .ok (.aload_n 0, 1) := by decide +kernel
theorem dX5_heightAt_45 : decode cX5_heightAt 45 = .ok (.getfield 9, 3) := by decide +kernel
theorem dX5_heightAt_48 : decode cX5_heightAt 48 = .ok (.ifCond .eq 24, 3) := by decide +kernel
theorem dX5_heightAt_51 : decode cX5_heightAt 51 = .ok (.dload_n 1, 1) := by decide +kernel
theorem dX5_heightAt_52 : decode cX5_heightAt 52 = .ok (.aload_n 0, 1) := by decide +kernel
theorem dX5_heightAt_53 : decode cX5_heightAt 53 = .ok (.getfield 15, 3) := by decide +kernel
theorem dX5_heightAt_56 : decode cX5_heightAt 56 = .ok (.iload_n 3, 1) := by decide +kernel
theorem dX5_heightAt_57 : decode cX5_heightAt 57 = .ok (.daload, 1) := by decide +kernel
theorem dX5_heightAt_58 : decode cX5_heightAt 58 = .ok (.dcmp .g, 1) := by decide +kernel
theorem dX5_heightAt_59 : decode cX5_heightAt 59 = .ok (.ifCond .le 13, 3) := by decide +kernel
theorem dX5_heightAt_62 : decode cX5_heightAt 62 = .ok (.iload_n 3, 1) := by decide +kernel
theorem dX5_heightAt_63 : decode cX5_heightAt 63 = .ok (.iconst 1, 1) := by decide +kernel
theorem dX5_heightAt_64 : decode cX5_heightAt 64 = .ok (.iadd, 1) := by decide +kernel
theorem dX5_heightAt_65 : decode cX5_heightAt 65 = .ok (.aload_n 0, 1) := by decide +kernel
theorem dX5_heightAt_66 : decode cX5_heightAt 66 = .ok (.getfield 22, 3) := by decide +kernel
theorem dX5_heightAt_69 : decode cX5_heightAt 69 = .ok (.if_icmp .lt 10, 3) := by decide +kernel
theorem dX5_heightAt_72 : decode cX5_heightAt 72 = .ok (.aload_n 0, 1) := by decide +kernel
theorem dX5_heightAt_73 : decode cX5_heightAt 73 = .ok (.getfield 19, 3) := by decide +kernel
theorem dX5_heightAt_76 : decode cX5_heightAt 76 = .ok (.iload_n 3, 1) := by decide +kernel
theorem dX5_heightAt_77 : decode cX5_heightAt 77 = .ok (.daload, 1) := by decide +kernel
theorem dX5_heightAt_78 : decode cX5_heightAt 78 = .ok (.dreturn, 1) := by decide +kernel
theorem dX5_heightAt_79 : decode cX5_heightAt 79 = .ok (.dload_n 1, 1) := by decide +kernel
theorem dX5_heightAt_80 : decode cX5_heightAt 80 = .ok (.aload_n 0, 1) := by decide +kernel
theorem dX5_heightAt_81 : decode cX5_heightAt 81 = .ok (.getfield 15, 3) := by decide +kernel
theorem dX5_heightAt_84 : decode cX5_heightAt 84 = .ok (.iload_n 3, 1) := by decide +kernel
theorem dX5_heightAt_85 : decode cX5_heightAt 85 = .ok (.daload, 1) := by decide +kernel
theorem dX5_heightAt_86 : decode cX5_heightAt 86 = .ok (.dsub, 1) := by decide +kernel
theorem dX5_heightAt_87 : decode cX5_heightAt 87 = .ok (.aload_n 0, 1) := by decide +kernel
theorem dX5_heightAt_88 : decode cX5_heightAt 88 = .ok (.getfield 15, 3) := by decide +kernel
theorem dX5_heightAt_91 : decode cX5_heightAt 91 = .ok (.iload_n 3, 1) := by decide +kernel
theorem dX5_heightAt_92 : decode cX5_heightAt 92 = .ok (.iconst 1, 1) := by decide +kernel
theorem dX5_heightAt_93 : decode cX5_heightAt 93 = .ok (.iadd, 1) := by decide +kernel
theorem dX5_heightAt_94 : decode cX5_heightAt 94 = .ok (.daload, 1) := by decide +kernel
theorem dX5_heightAt_95 : decode cX5_heightAt 95 = .ok (.aload_n 0, 1) := by decide +kernel
theorem dX5_heightAt_96 : decode cX5_heightAt 96 = .ok (.getfield 15, 3) := by decide +kernel
theorem dX5_heightAt_99 : decode cX5_heightAt 99 = .ok (.iload_n 3, 1) := by decide +kernel
theorem dX5_heightAt_100 : decode cX5_heightAt 100 = .ok (.daload, 1) := by decide +kernel
theorem dX5_heightAt_101 : decode cX5_heightAt 101 = .ok (.dsub, 1) := by decide +kernel
theorem dX5_heightAt_102 : decode cX5_heightAt 102 = .ok (.ddiv, 1) := by decide +kernel
theorem dX5_heightAt_103 : decode cX5_heightAt 103 = .ok (.dstore 4, 2) := by decide +kernel
theorem dX5_heightAt_105 : decode cX5_heightAt 105 = .ok (.aload_n 0, 1) := by decide +kernel
theorem dX5_heightAt_106 : decode cX5_heightAt 106 = .ok (.getfield 19, 3) := by decide +kernel
theorem dX5_heightAt_109 : decode cX5_heightAt 109 = .ok (.iload_n 3, 1) := by decide +kernel
theorem dX5_heightAt_110 : decode cX5_heightAt 110 = .ok (.daload, 1) := by decide +kernel
theorem dX5_heightAt_111 : decode cX5_heightAt 111 = .ok (.aload_n 0, 1) := by decide +kernel
theorem dX5_heightAt_112 : decode cX5_heightAt 112 = .ok (.getfield 19, 3) := by decide +kernel
theorem dX5_heightAt_115 : decode cX5_heightAt 115 = .ok (.iload_n 3, 1) := by decide +kernel
theorem dX5_heightAt_116 : decode cX5_heightAt 116 = .ok (.iconst 1, 1) := by decide +kernel
theorem dX5_heightAt_117 : decode cX5_heightAt 117 = .ok (.iadd, 1) := by decide +kernel
theorem dX5_heightAt_118 : decode cX5_heightAt 118 = .ok (.daload, 1) := by decide +kernel
theorem dX5_heightAt_119 : decode cX5_heightAt 119 = .ok (.aload_n 0, 1) := by decide +kernel
theorem dX5_heightAt_120 : decode cX5_heightAt 120 = .ok (.getfield 19, 3) := by decide +kernel
theorem dX5_heightAt_123 : decode cX5_heightAt 123 = .ok (.iload_n 3, 1) := by decide +kernel
theorem dX5_heightAt_124 : decode cX5_heightAt 124 = .ok (.daload, 1) := by decide +kernel
theorem dX5_heightAt_125 : decode cX5_heightAt 125 = .ok (.dsub, 1) := by decide +kernel
theorem dX5_heightAt_126 : decode cX5_heightAt 126 = .ok (.dload 4, 2) := by decide +kernel
theorem dX5_heightAt_128 : decode cX5_heightAt 128 = .ok (.dmul, 1) := by decide +kernel
theorem dX5_heightAt_129 : decode cX5_heightAt 129 = .ok (.dadd, 1) := by decide +kernel
theorem dX5_heightAt_130 : decode cX5_heightAt 130 = .ok (.dreturn, 1) := by decide +kernel
theorem dX6_init_0 : decode cX6_init 0 = .ok (.aload_n 0, 1) := by decide +kernel
theorem dX6_init_1 : decode cX6_init 1 = .ok (.invokespecial 3, 3) := by decide +kernel
theorem dX6_init_4 : decode cX6_init 4 = .ok (.aload_n 0, 1) := by decide +kernel
theorem dX6_init_5 : decode cX6_init 5 = .ok (.aload_n 1, 1) := by decide +kernel
theorem dX6_init_6 : decode cX6_init 6 = .ok (.putfield 9, 3) := by decide +kernel
theorem dX6_init_9 : decode cX6_init 9 = .ok (.aload_n 0, 1) := by decide +kernel
theorem dX6_init_10 : decode cX6_init 10 = .ok (.new 15, 3) := by decide +kernel
theorem dX6_init_13 : decode cX6_init 13 = .ok (.dup, 1) := by decide +kernel
theorem dX6_init_14 : decode cX6_init 14 = .ok (.bipush 6, 2) := by decide +kernel
theorem dX6_init_16 : decode cX6_init 16 = .ok (.invokespecial 17, 3) := by decide +kernel
theorem dX6_init_19 : decode cX6_init 19 = .ok (.putfield 20, 3) := by decide +kernel
theorem dX6_init_22 : decode cX6_init 22 = .ok (.aload_n 0, 1) := by decide +kernel
theorem dX6_init_23 : decode cX6_init 23 = .ok (.new 15, 3) := by decide +kernel
theorem dX6_init_26 : decode cX6_init 26 = .ok (.dup, 1) := by decide +kernel
theorem dX6_init_27 : decode cX6_init 27 = .ok (.bipush 6, 2) := by decide +kernel
theorem dX6_init_29 : decode cX6_init 29 = .ok (.invokespecial 17, 3) := by decide +kernel
theorem dX6_init_32 : decode cX6_init 32 = .ok (.putfield 24, 3) := by decide +kernel
theorem dX6_init_35 : decode cX6_init 35 = .ok (.aload_n 0, 1) := by decide +kernel
theorem dX6_init_36 : decode cX6_init 36 = .ok (.new 15, 3) := by decide +kernel
theorem dX6_init_39 : decode cX6_init 39 = .ok (.dup, 1) := by decide +kernel
theorem dX6_init_40 : decode cX6_init 40 = .ok (.bipush 6, 2) := by decide +kernel
theorem dX6_init_42 : decode cX6_init 42 = .ok (.invokespecial 17, 3) := by decide +kernel
theorem dX6_init_45 : decode cX6_init 45 = .ok (.putfield 27, 3) := by decide +kernel
theorem dX6_init_48 : decode cX6_init 48 = .ok (.aload_n 0, 1) := by decide +kernel
theorem dX6_init_49 : decode cX6_init 49 = .ok (.iconst 4, 1) := by decide +kernel
theorem dX6_init_50 : decode cX6_init 50 = .ok (.anewarray 15, 3) := by decide +kernel
theorem dX6_init_53 : decode cX6_init 53 = .ok (.putfield 30, 3) := by decide +kernel
theorem dX6_init_56 : decode cX6_init 56 = .ok (.iconst 0, 1) := by decide +kernel
theorem dX6_init_57 : decode cX6_init 57 = .ok (.istore_n 2, 1) := by decide +kernel
theorem dX6_init_58 : decode cX6_init 58 = .ok (.iload_n 2, 1) := by decide +kernel
theorem dX6_init_59 : decode cX6_init 59 = .ok (.aload_n 0, 1) := by decide +kernel
theorem dX6_init_60 : decode cX6_init 60 = .ok (.getfield 30, 3) := by decide +kernel
theorem dX6_init_63 : decode cX6_init 63 = .ok (.arraylength, 1) := by decide +kernel
theorem dX6_init_64 : decode cX6_init 64 = .ok (.if_icmp .ge 24, 3) := by decide +kernel
theorem dX6_init_67 : decode cX6_init 67 = .ok (.aload_n 0, 1) := by decide +kernel
theorem dX6_init_68 : decode cX6_init 68 = .ok (.getfield 30, 3) := by decide +kernel
theorem dX6_init_71 : decode cX6_init 71 = .ok (.iload_n 2, 1) := by decide +kernel
theorem dX6_init_72 : decode cX6_init 72 = .ok (.new 15, 3) := by decide +kernel
theorem dX6_init_75 : decode cX6_init 75 = .ok (.dup, 1) := by decide +kernel
theorem dX6_init_76 : decode cX6_init 76 = .ok (.bipush 6, 2) := by decide +kernel
theorem dX6_init_78 : decode cX6_init 78 = .ok (.invokespecial 17, 3) := by decide +kernel
theorem dX6_init_81 : decode cX6_init 81 = .ok (.aastore, 1) := by decide +kernel
theorem dX6_init_82 : decode cX6_init 82 = .ok (.iinc 2 1, 3) := by decide +kernel
theorem dX6_init_85 : decode cX6_init 85 = .ok (.goto (-27), 3) := by decide +kernel
theorem dX6_init_88 : decode cX6_init 88 = .ok (.aload_n 0, 1) := by decide +kernel
theorem dX6_init_89 : decode cX6_init 89 = .ok (.new 15, 3) := by decide +kernel
theorem dX6_init_92 : decode cX6_init 92 = .ok (.dup, 1) := by decide +kernel
theorem dX6_init_93 : decode cX6_init 93 = .ok (.bipush 6, 2) := by decide +kernel
theorem dX6_init_95 : decode cX6_init 95 = .ok (.invokespecial 17, 3) := by decide +kernel
theorem dX6_init_98 : decode cX6_init 98 = .ok (.putfield 34, 3) := by decide +kernel
theorem dX6_init_101 : decode cX6_init 101 = .ok (.aload_n 0, 1) := by decide +kernel
theorem dX6_init_102 : decode cX6_init 102 = .ok (.new 15, 3) := by decide +kernel
theorem dX6_init_105 : decode cX6_init 105 = .ok (.dup, 1) := by decide +kernel
theorem dX6_init_106 : decode cX6_init 106 = .ok (.bipush 6, 2) := by decide +kernel
theorem dX6_init_108 : decode cX6_init 108 = .ok (.invokespecial 17, 3) := by decide +kernel
theorem dX6_init_111 : decode cX6_init 111 = .ok (.putfield 37, 3) := by decide +kernel
theorem dX6_init_114 : decode cX6_init 114 = .ok (.return_, 1) := by decide +kernel
theorem dX6_copy_0 : decode cX6_copy 0 = .ok (.aload_n 0, 1) := by decide +kernel
theorem dX6_copy_1 : decode cX6_copy 1 = .ok (.aload_n 1, 1) := by decide +kernel
theorem dX6_copy_2 : decode cX6_copy 2 = .ok (.getfield 40, 3) := by decide +kernel
theorem dX6_copy_5 : decode cX6_copy 5 = .ok (.putfield 40, 3) := by decide +kernel
theorem dX6_copy_8 : decode cX6_copy 8 = .ok (.aload_n 0, 1) := by decide +kernel
theorem dX6_copy_9 : decode cX6_copy 9 = .ok (.aload_n 1, 1) := by decide +kernel
theorem dX6_copy_10 : decode cX6_copy 10 = .ok (.getfield 44, 3) := by decide +kernel
theorem dX6_copy_13 : decode cX6_copy 13 = .ok (.putfield 44, 3) := by decide +kernel
theorem dX6_copy_16 : decode cX6_copy 16 = .ok (.aload_n 0, 1) := by decide +kernel
theorem dX6_copy_17 : decode cX6_copy 17 = .ok (.aload_n 1, 1) := by decide +kernel
theorem dX6_copy_18 : decode cX6_copy 18 = .ok (.getfield 48, 3) := by decide +kernel
theorem dX6_copy_21 : decode cX6_copy 21 = .ok (.putfield 48, 3) := by decide +kernel
theorem dX6_copy_24 : decode cX6_copy 24 = .ok (.aload_n 0, 1) := by decide +kernel
theorem dX6_copy_25 : decode cX6_copy 25 = .ok (.aload_n 1, 1) := by decide +kernel
theorem dX6_copy_26 : decode cX6_copy 26 = .ok (.getfield 52, 3) := by decide +kernel
theorem dX6_copy_29 : decode cX6_copy 29 = .ok (.putfield 52, 3) := by decide +kernel
theorem dX6_copy_32 : decode cX6_copy 32 = .ok (.aload_n 0, 1) := by decide +kernel
theorem dX6_copy_33 : decode cX6_copy 33 = .ok (.aload_n 1, 1) := by decide +kernel
theorem dX6_copy_34 : decode cX6_copy 34 = .ok (.getfield 55, 3) := by decide +kernel
theorem dX6_copy_37 : decode cX6_copy 37 = .ok (.putfield 55, 3) := by decide +kernel
theorem dX6_copy_40 : decode cX6_copy 40 = .ok (.aload_n 0, 1) := by decide +kernel
theorem dX6_copy_41 : decode cX6_copy 41 = .ok (.getfield 20, 3) := by decide +kernel
theorem dX6_copy_44 : decode cX6_copy 44 = .ok (.aload_n 1, 1) := by decide +kernel
theorem dX6_copy_45 : decode cX6_copy 45 = .ok (.getfield 20, 3) := by decide +kernel
theorem dX6_copy_48 : decode cX6_copy 48 = .ok (.invokevirtual 58, 3) := by decide +kernel
theorem dX6_copy_51 : decode cX6_copy 51 = .ok (.aload_n 0, 1) := by decide +kernel
theorem dX6_copy_52 : decode cX6_copy 52 = .ok (.getfield 27, 3) := by decide +kernel
theorem dX6_copy_55 : decode cX6_copy 55 = .ok (.aload_n 1, 1) := by decide +kernel
theorem dX6_copy_56 : decode cX6_copy 56 = .ok (.getfield 27, 3) := by decide +kernel
theorem dX6_copy_59 : decode cX6_copy 59 = .ok (.invokevirtual 58, 3) := by decide +kernel
theorem dX6_copy_62 : decode cX6_copy 62 = .ok (.iconst 0, 1) := by decide +kernel
theorem dX6_copy_63 : decode cX6_copy 63 = .ok (.istore_n 2, 1) := by decide +kernel
theorem dX6_copy_64 : decode cX6_copy 64 = .ok (.iload_n 2, 1) := by decide +kernel
theorem dX6_copy_65 : decode cX6_copy 65 = .ok (.aload_n 0, 1) := by decide +kernel
theorem dX6_copy_66 : decode cX6_copy 66 = .ok (.getfield 30, 3) := by decide +kernel
theorem dX6_copy_69 : decode cX6_copy 69 = .ok (.arraylength, 1) := by decide +kernel
theorem dX6_copy_70 : decode cX6_copy 70 = .ok (.if_icmp .ge 24, 3) := by decide +kernel
theorem dX6_copy_73 : decode cX6_copy 73 = .ok (.aload_n 0, 1) := by decide +kernel
theorem dX6_copy_74 : decode cX6_copy 74 = .ok (.getfield 30, 3) := by decide +kernel
theorem dX6_copy_77 : decode cX6_copy 77 = .ok (.iload_n 2, 1) := by decide +kernel
theorem dX6_copy_78 : decode cX6_copy 78 = .ok (.aaload, 1) := by decide +kernel
theorem dX6_copy_79 : decode cX6_copy 79 = .ok (.aload_n 1, 1) := by decide +kernel
theorem dX6_copy_80 : decode cX6_copy 80 = .ok (.getfield 30, 3) := by decide +kernel
theorem dX6_copy_83 : decode cX6_copy 83 = .ok (.iload_n 2, 1) := by decide +kernel
theorem dX6_copy_84 : decode cX6_copy 84 = .ok (.aaload, 1) := by decide +kernel
theorem dX6_copy_85 : decode cX6_copy 85 = .ok (.invokevirtual 58, 3) := by decide +kernel
theorem dX6_copy_88 : decode cX6_copy 88 = .ok (.iinc 2 1, 3) := by decide +kernel
theorem dX6_copy_91 : decode cX6_copy 91 = .ok (.goto (-27), 3) := by decide +kernel
theorem dX6_copy_94 : decode cX6_copy 94 = .ok (.aload_n 0, 1) := by decide +kernel
theorem dX6_copy_95 : decode cX6_copy 95 = .ok (.getfield 34, 3) := by decide +kernel
theorem dX6_copy_98 : decode cX6_copy 98 = .ok (.aload_n 1, 1) := by decide +kernel
theorem dX6_copy_99 : decode cX6_copy 99 = .ok (.getfield 34, 3) := by decide +kernel
theorem dX6_copy_102 : decode cX6_copy 102 = .ok (.invokevirtual 58, 3) := by decide +kernel
theorem dX6_copy_105 : decode cX6_copy 105 = .ok (.aload_n 0, 1) := by decide +kernel
theorem dX6_copy_106 : decode cX6_copy 106 = .ok (.getfield 37, 3) := by decide +kernel
theorem dX6_copy_109 : decode cX6_copy 109 = .ok (.aload_n 1, 1) := by decide +kernel
theorem dX6_copy_110 : decode cX6_copy 110 = .ok (.getfield 37, 3) := by decide +kernel
theorem dX6_copy_113 : decode cX6_copy 113 = .ok (.invokevirtual 58, 3) := by decide +kernel
theorem dX6_copy_116 : decode cX6_copy 116 = .ok (.aload_n 0, 1) := by decide +kernel
theorem dX6_copy_117 : decode cX6_copy 117 = .ok (.aload_n 1, 1) := by decide +kernel
theorem dX6_copy_118 : decode cX6_copy 118 = .ok (.getfield 62, 3) := by decide +kernel
theorem dX6_copy_121 : decode cX6_copy 121 = .ok (.putfield 62, 3) := by decide +kernel
theorem dX6_copy_124 : decode cX6_copy 124 = .ok (.aload_n 0, 1) := by decide +kernel
theorem dX6_copy_125 : decode cX6_copy 125 = .ok (.aload_n 1, 1) := by decide +kernel
theorem dX6_copy_126 : decode cX6_copy 126 = .ok (.getfield 65, 3) := by decide +kernel
theorem dX6_copy_129 : decode cX6_copy 129 = .ok (.putfield 65, 3) := by decide +kernel
theorem dX6_copy_132 : decode cX6_copy 132 = .ok (.return_, 1) := by decide +kernel
theorem dX6_make_0 : decode cX6_make 0 = .ok (.aload_n 0, 1) := by decide +kernel
theorem dX6_make_1 : decode cX6_make 1 = .ok (.aload_n 1, 1) := by decide +kernel
theorem dX6_make_2 : decode cX6_make 2 = .ok (.putfield 40, 3) := by decide +kernel
theorem dX6_make_5 : decode cX6_make 5 = .ok (.aload_n 0, 1) := by decide +kernel
theorem dX6_make_6 : decode cX6_make 6 = .ok (.iload_n 2, 1) := by decide +kernel
theorem dX6_make_7 : decode cX6_make 7 = .ok (.putfield 44, 3) := by decide +kernel
theorem dX6_make_10 : decode cX6_make 10 = .ok (.aload_n 0, 1) := by decide +kernel
theorem dX6_make_11 : decode cX6_make 11 = .ok (.dload_n 3, 1) := by decide +kernel
theorem dX6_make_12 : decode cX6_make 12 = .ok (.putfield 48, 3) := by decide +kernel
theorem dX6_make_15 : decode cX6_make 15 = .ok (.aload_n 0, 1) := by decide +kernel
theorem dX6_make_16 : decode cX6_make 16 = .ok (.dload 6, 2) := by decide +kernel
theorem dX6_make_18 : decode cX6_make 18 = .ok (.putfield 52, 3) := by decide +kernel
theorem dX6_make_21 : decode cX6_make 21 = .ok (.aload_n 0, 1) := by decide +kernel
theorem dX6_make_22 : decode cX6_make 22 = .ok (.aload_n 0, 1) := by decide +kernel
theorem dX6_make_23 : decode cX6_make 23 = .ok (.getfield 48, 3) := by decide +kernel
theorem dX6_make_26 : decode cX6_make 26 = .ok (.aload_n 0, 1) := by decide +kernel
theorem dX6_make_27 : decode cX6_make 27 = .ok (.getfield 52, 3) := by decide +kernel
theorem dX6_make_30 : decode cX6_make 30 = .ok (.dadd, 1) := by decide +kernel
theorem dX6_make_31 : decode cX6_make 31 = .ok (.putfield 55, 3) := by decide +kernel
theorem dX6_make_34 : decode cX6_make 34 = .ok (.aload_n 0, 1) := by decide +kernel
theorem dX6_make_35 : decode cX6_make 35 = .ok (.getfield 20, 3) := by decide +kernel
theorem dX6_make_38 : decode cX6_make 38 = .ok (.aload 5, 2) := by decide +kernel
theorem dX6_make_40 : decode cX6_make 40 = .ok (.invokevirtual 58, 3) := by decide +kernel
theorem dX6_make_43 : decode cX6_make 43 = .ok (.aload_n 0, 1) := by decide +kernel
theorem dX6_make_44 : decode cX6_make 44 = .ok (.dconst 0, 1) := by decide +kernel
theorem dX6_make_45 : decode cX6_make 45 = .ok (.putfield 62, 3) := by decide +kernel
theorem dX6_make_48 : decode cX6_make 48 = .ok (.aload_n 0, 1) := by decide +kernel
theorem dX6_make_49 : decode cX6_make 49 = .ok (.iconst 0, 1) := by decide +kernel
theorem dX6_make_50 : decode cX6_make 50 = .ok (.putfield 65, 3) := by decide +kernel
theorem dX6_make_53 : decode cX6_make 53 = .ok (.aload_n 0, 1) := by decide +kernel
theorem dX6_make_54 : decode cX6_make 54 = .ok (.iconst 0, 1) := by decide +kernel
theorem dX6_make_55 : decode cX6_make 55 = .ok (.aload_n 0, 1) := by decide +kernel
theorem dX6_make_56 : decode cX6_make 56 = .ok (.getfield 48, 3) := by decide +kernel
theorem dX6_make_59 : decode cX6_make 59 = .ok (.aload_n 0, 1) := by decide +kernel
theorem dX6_make_60 : decode cX6_make 60 = .ok (.getfield 20, 3) := by decide +kernel
theorem dX6_make_63 : decode cX6_make 63 = .ok (.invokevirtual 68, 3) := by decide +kernel
theorem dX6_make_66 : decode cX6_make 66 = .ok (.ifCond .ne 5, 3) := by decide +kernel
theorem dX6_make_69 : decode cX6_make 69 = .ok (.iconst 0, 1) := by decide +kernel
theorem dX6_make_70 : decode cX6_make 70 = .ok (.ireturn, 1) := by decide +kernel
theorem dX6_make_71 : decode cX6_make 71 = .ok (.iconst 1, 1) := by decide +kernel
theorem dX6_make_72 : decode cX6_make 72 = .ok (.istore 8, 2) := by decide +kernel
theorem dX6_make_74 : decode cX6_make 74 = .ok (.aload_n 0, 1) := by decide +kernel
theorem dX6_make_75 : decode cX6_make 75 = .ok (.getfield 44, 3) := by decide +kernel
theorem dX6_make_78 : decode cX6_make 78 = .ok (.tableswitch 99 0 5 #[38, 54, 63, 72, 81, 90], 38) := by decide +kernel
theorem dX6_make_116 : decode cX6_make 116 = .ok (.aload_n 0, 1) := by decide +kernel
theorem dX6_make_117 : decode cX6_make 117 = .ok (.aload_n 0, 1) := by decide +kernel
theorem dX6_make_118 : decode cX6_make 118 = .ok (.getfield 27, 3) := by decide +kernel
theorem dX6_make_121 : decode cX6_make 121 = .ok (.aload_n 0, 1) := by decide +kernel
theorem dX6_make_122 : decode cX6_make 122 = .ok (.getfield 52, 3) := by decide +kernel
theorem dX6_make_125 : decode cX6_make 125 = .ok (.iconst 0, 1) := by decide +kernel
theorem dX6_make_126 : decode cX6_make 126 = .ok (.invokevirtual 72, 3) := by decide +kernel
theorem dX6_make_129 : decode cX6_make 129 = .ok (.goto 54, 3) := by decide +kernel
theorem dX6_make_132 : decode cX6_make 132 = .ok (.aload_n 0, 1) := by decide +kernel
theorem dX6_make_133 : decode cX6_make 133 = .ok (.invokevirtual 76, 3) := by decide +kernel
theorem dX6_make_136 : decode cX6_make 136 = .ok (.istore 8, 2) := by decide +kernel
theorem dX6_make_138 : decode cX6_make 138 = .ok (.goto 45, 3) := by decide +kernel
theorem dX6_make_141 : decode cX6_make 141 = .ok (.aload_n 0, 1) := by decide +kernel
theorem dX6_make_142 : decode cX6_make 142 = .ok (.invokevirtual 80, 3) := by decide +kernel
theorem dX6_make_145 : decode cX6_make 145 = .ok (.istore 8, 2) := by decide +kernel
theorem dX6_make_147 : decode cX6_make 147 = .ok (.goto 36, 3) := by decide +kernel
theorem dX6_make_150 : decode cX6_make 150 = .ok (.aload_n 0, 1) := by decide +kernel
theorem dX6_make_151 : decode cX6_make 151 = .ok (.invokevirtual 83, 3) := by decide +kernel
theorem dX6_make_154 : decode cX6_make 154 = .ok (.istore 8, 2) := by decide +kernel
theorem dX6_make_156 : decode cX6_make 156 = .ok (.goto 27, 3) := by decide +kernel
theorem dX6_make_159 : decode cX6_make 159 = .ok (.aload_n 0, 1) := by decide +kernel
theorem dX6_make_160 : decode cX6_make 160 = .ok (.invokevirtual 86, 3) := by decide +kernel
theorem dX6_make_163 : decode cX6_make 163 = .ok (.istore 8, 2) := by decide +kernel
theorem dX6_make_165 : decode cX6_make 165 = .ok (.goto 18, 3) := by decide +kernel
theorem dX6_make_168 : decode cX6_make 168 = .ok (.aload_n 0, 1) := by decide +kernel
theorem dX6_make_169 : decode cX6_make 169 = .ok (.invokevirtual 89, 3) := by decide +kernel
theorem dX6_make_172 : decode cX6_make 172 = .ok (.istore 8, 2) := by decide +kernel
theorem dX6_make_174 : decode cX6_make 174 = .ok (.goto 9, 3) := by decide +kernel
theorem dX6_make_177 : decode cX6_make 177 = .ok (.aload_n 0, 1) := by decide +kernel
theorem dX6_make_178 : decode cX6_make 178 = .ok (.invokevirtual 92, 3) := by decide +kernel
theorem dX6_make_181 : decode cX6_make 181 = .ok (.istore 8, 2) := by decide +kernel
theorem dX6_make_183 : decode cX6_make 183 = .ok (.iload 8, 2) := by decide +kernel
theorem dX6_make_185 : decode cX6_make 185 = .ok (.ifCond .eq 55, 3) := by decide +kernel
theorem dX6_make_188 : decode cX6_make 188 = .ok (.aload_n 0, 1) := by decide +kernel
theorem dX6_make_189 : decode cX6_make 189 = .ok (.getfield 27, 3) := by decide +kernel
theorem dX6_make_192 : decode cX6_make 192 = .ok (.aload_n 0, 1) := by decide +kernel
theorem dX6_make_193 : decode cX6_make 193 = .ok (.getfield 40, 3) := by decide +kernel
theorem dX6_make_196 : decode cX6_make 196 = .ok (.getfield 95, 3) := by decide +kernel
theorem dX6_make_199 : decode cX6_make 199 = .ok (.invokevirtual 100, 3) := by decide +kernel
theorem dX6_make_202 : decode cX6_make 202 = .ok (.ifCond .eq 38, 3) := by decide +kernel
theorem dX6_make_205 : decode cX6_make 205 = .ok (.aload_n 0, 1) := by decide +kernel
theorem dX6_make_206 : decode cX6_make 206 = .ok (.getfield 55, 3) := by decide +kernel
theorem dX6_make_209 : decode cX6_make 209 = .ok (.aload_n 0, 1) := by decide +kernel
theorem dX6_make_210 : decode cX6_make 210 = .ok (.getfield 9, 3) := by decide +kernel
theorem dX6_make_213 : decode cX6_make 213 = .ok (.getfield 104, 3) := by decide +kernel
theorem dX6_make_216 : decode cX6_make 216 = .ok (.dcmp .g, 1) := by decide +kernel
theorem dX6_make_217 : decode cX6_make 217 = .ok (.ifCond .gt 23, 3) := by decide +kernel
theorem dX6_make_220 : decode cX6_make 220 = .ok (.aload_n 0, 1) := by decide +kernel
theorem dX6_make_221 : decode cX6_make 221 = .ok (.getfield 55, 3) := by decide +kernel
theorem dX6_make_224 : decode cX6_make 224 = .ok (.aload_n 0, 1) := by decide +kernel
theorem dX6_make_225 : decode cX6_make 225 = .ok (.getfield 9, 3) := by decide +kernel
theorem dX6_make_228 : decode cX6_make 228 = .ok (.getfield 104, 3) := by decide +kernel
theorem dX6_make_231 : decode cX6_make 231 = .ok (.dneg, 1) := by decide +kernel
theorem dX6_make_232 : decode cX6_make 232 = .ok (.dcmp .l, 1) := by decide +kernel
theorem dX6_make_233 : decode cX6_make 233 = .ok (.ifCond .lt 7, 3) := by decide +kernel
theorem dX6_make_236 : decode cX6_make 236 = .ok (.iconst 1, 1) := by decide +kernel
theorem dX6_make_237 : decode cX6_make 237 = .ok (.goto 4, 3) := by decide +kernel
theorem dX6_make_240 : decode cX6_make 240 = .ok (.iconst 0, 1) := by decide +kernel
theorem dX6_make_241 : decode cX6_make 241 = .ok (.ireturn, 1) := by decide +kernel
theorem dX6_slope_0 : decode cX6_slope 0 = .ok (.aload_n 0, 1) := by decide +kernel
theorem dX6_slope_1 : decode cX6_slope 1 = .ok (.getfield 40, 3) := by decide +kernel
theorem dX6_slope_4 : decode cX6_slope 4 = .ok (.dload_n 2, 1) := by decide +kernel
theorem dX6_slope_5 : decode cX6_slope 5 = .ok (.aload 4, 2) := by decide +kernel
theorem dX6_slope_7 : decode cX6_slope 7 = .ok (.aload_n 0, 1) := by decide +kernel
theorem dX6_slope_8 : decode cX6_slope 8 = .ok (.getfield 40, 3) := by decide +kernel
theorem dX6_slope_11 : decode cX6_slope 11 = .ok (.getfield 109, 3) := by decide +kernel
theorem dX6_slope_14 : decode cX6_slope 14 = .ok (.invokevirtual 112, 3) := by decide +kernel
theorem dX6_slope_17 : decode cX6_slope 17 = .ok (.aload_n 0, 1) := by decide +kernel
theorem dX6_slope_18 : decode cX6_slope 18 = .ok (.getfield 40, 3) := by decide +kernel
theorem dX6_slope_21 : decode cX6_slope 21 = .ok (.aload_n 0, 1) := by decide +kernel
theorem dX6_slope_22 : decode cX6_slope 22 = .ok (.getfield 30, 3) := by decide +kernel
theorem dX6_slope_25 : decode cX6_slope 25 = .ok (.iload_n 1, 1) := by decide +kernel
theorem dX6_slope_26 : decode cX6_slope 26 = .ok (.aaload, 1) := by decide +kernel
theorem dX6_slope_27 : decode cX6_slope 27 = .ok (.invokevirtual 116, 3) := by decide +kernel
theorem dX6_slope_30 : decode cX6_slope 30 = .ok (.aload_n 0, 1) := by decide +kernel
theorem dX6_slope_31 : decode cX6_slope 31 = .ok (.getfield 30, 3) := by decide +kernel
theorem dX6_slope_34 : decode cX6_slope 34 = .ok (.iload_n 1, 1) := by decide +kernel
theorem dX6_slope_35 : decode cX6_slope 35 = .ok (.aaload, 1) := by decide +kernel
theorem dX6_slope_36 : decode cX6_slope 36 = .ok (.aload_n 0, 1) := by decide +kernel
theorem dX6_slope_37 : decode cX6_slope 37 = .ok (.getfield 40, 3) := by decide +kernel
theorem dX6_slope_40 : decode cX6_slope 40 = .ok (.getfield 95, 3) := by decide +kernel
theorem dX6_slope_43 : decode cX6_slope 43 = .ok (.invokevirtual 100, 3) := by decide +kernel
theorem dX6_slope_46 : decode cX6_slope 46 = .ok (.ireturn, 1) := by decide +kernel
theorem dX6_arrive_0 : decode cX6_arrive 0 = .ok (.aload_n 0, 1) := by decide +kernel
theorem dX6_arrive_1 : decode cX6_arrive 1 = .ok (.getfield 9, 3) := by decide +kernel
theorem dX6_arrive_4 : decode cX6_arrive 4 = .ok (.dload 4, 2) := by decide +kernel
theorem dX6_arrive_6 : decode cX6_arrive 6 = .ok (.dload 6, 2) := by decide +kernel
theorem dX6_arrive_8 : decode cX6_arrive 8 = .ok (.invokevirtual 119, 3) := by decide +kernel
theorem dX6_arrive_11 : decode cX6_arrive 11 = .ok (.dstore 8, 2) := by decide +kernel
theorem dX6_arrive_13 : decode cX6_arrive 13 = .ok (.aload_n 0, 1) := by decide +kernel
theorem dX6_arrive_14 : decode cX6_arrive 14 = .ok (.getfield 9, 3) := by decide +kernel
theorem dX6_arrive_17 : decode cX6_arrive 17 = .ok (.aload_n 0, 1) := by decide +kernel
theorem dX6_arrive_18 : decode cX6_arrive 18 = .ok (.getfield 9, 3) := by decide +kernel
theorem dX6_arrive_21 : decode cX6_arrive 21 = .ok (.aload_n 3, 1) := by decide +kernel
theorem dX6_arrive_22 : decode cX6_arrive 22 = .ok (.iload_n 2, 1) := by decide +kernel
theorem dX6_arrive_23 : decode cX6_arrive 23 = .ok (.invokevirtual 123, 3) := by decide +kernel
theorem dX6_arrive_26 : decode cX6_arrive 26 = .ok (.dload 8, 2) := by decide +kernel
theorem dX6_arrive_28 : decode cX6_arrive 28 = .ok (.invokevirtual 127, 3) := by decide +kernel
theorem dX6_arrive_31 : decode cX6_arrive 31 = .ok (.dstore 10, 2) := by decide +kernel
theorem dX6_arrive_33 : decode cX6_arrive 33 = .ok (.aload_n 1, 1) := by decide +kernel
theorem dX6_arrive_34 : decode cX6_arrive 34 = .ok (.iload_n 2, 1) := by decide +kernel
theorem dX6_arrive_35 : decode cX6_arrive 35 = .ok (.dload 10, 2) := by decide +kernel
theorem dX6_arrive_37 : decode cX6_arrive 37 = .ok (.aload_n 0, 1) := by decide +kernel
theorem dX6_arrive_38 : decode cX6_arrive 38 = .ok (.getfield 9, 3) := by decide +kernel
theorem dX6_arrive_41 : decode cX6_arrive 41 = .ok (.getfield 130, 3) := by decide +kernel
theorem dX6_arrive_44 : decode cX6_arrive 44 = .ok (.aload_n 0, 1) := by decide +kernel
theorem dX6_arrive_45 : decode cX6_arrive 45 = .ok (.getfield 40, 3) := by decide +kernel
theorem dX6_arrive_48 : decode cX6_arrive 48 = .ok (.iload_n 2, 1) := by decide +kernel
theorem dX6_arrive_49 : decode cX6_arrive 49 = .ok (.invokevirtual 134, 3) := by decide +kernel
theorem dX6_arrive_52 : decode cX6_arrive 52 = .ok (.invokevirtual 137, 3) := by decide +kernel
theorem dX6_arrive_55 : decode cX6_arrive 55 = .ok (.return_, 1) := by decide +kernel
theorem dX6_move_0 : decode cX6_move 0 = .ok (.iconst 0, 1) := by decide +kernel
theorem dX6_move_1 : decode cX6_move 1 = .ok (.istore 5, 2) := by decide +kernel
theorem dX6_move_3 : decode cX6_move 3 = .ok (.iload 5, 2) := by decide +kernel
theorem dX6_move_5 : decode cX6_move 5 = .ok (.aload_n 0, 1) := by decide +kernel
theorem dX6_move_6 : decode cX6_move 6 = .ok (.getfield 40, 3) := by decide +kernel
theorem dX6_move_9 : decode cX6_move 9 = .ok (.getfield 95, 3) := by decide +kernel
theorem dX6_move_12 : decode cX6_move 12 = .ok (.if_icmp .ge 41, 3) := by decide +kernel
theorem dX6_move_15 : decode cX6_move 15 = .ok (.aload_n 0, 1) := by decide +kernel
theorem dX6_move_16 : decode cX6_move 16 = .ok (.getfield 9, 3) := by decide +kernel
theorem dX6_move_19 : decode cX6_move 19 = .ok (.invokevirtual 141, 3) := by decide +kernel
theorem dX6_move_22 : decode cX6_move 22 = .ok (.aload_n 0, 1) := by decide +kernel
theorem dX6_move_23 : decode cX6_move 23 = .ok (.aload_n 1, 1) := by decide +kernel
theorem dX6_move_24 : decode cX6_move 24 = .ok (.iload 5, 2) := by decide +kernel
theorem dX6_move_26 : decode cX6_move 26 = .ok (.aload_n 0, 1) := by decide +kernel
theorem dX6_move_27 : decode cX6_move 27 = .ok (.getfield 20, 3) := by decide +kernel
theorem dX6_move_30 : decode cX6_move 30 = .ok (.dload_n 2, 1) := by decide +kernel
theorem dX6_move_31 : decode cX6_move 31 = .ok (.aload_n 0, 1) := by decide +kernel
theorem dX6_move_32 : decode cX6_move 32 = .ok (.getfield 30, 3) := by decide +kernel
theorem dX6_move_35 : decode cX6_move 35 = .ok (.iload 4, 2) := by decide +kernel
theorem dX6_move_37 : decode cX6_move 37 = .ok (.aaload, 1) := by decide +kernel
theorem dX6_move_38 : decode cX6_move 38 = .ok (.getfield 144, 3) := by decide +kernel
theorem dX6_move_41 : decode cX6_move 41 = .ok (.iload 5, 2) := by decide +kernel
theorem dX6_move_43 : decode cX6_move 43 = .ok (.daload, 1) := by decide +kernel
theorem dX6_move_44 : decode cX6_move 44 = .ok (.invokevirtual 148, 3) := by decide +kernel
theorem dX6_move_47 : decode cX6_move 47 = .ok (.iinc 5 1, 3) := by decide +kernel
theorem dX6_move_50 : decode cX6_move 50 = .ok (.goto (-47), 3) := by decide +kernel
theorem dX6_move_53 : decode cX6_move 53 = .ok (.return_, 1) := by decide +kernel
theorem dX6_middle_0 : decode cX6_middle 0 = .ok (.aload_n 0, 1) := by decide +kernel
theorem dX6_middle_1 : decode cX6_middle 1 = .ok (.getfield 52, 3) := by decide +kernel
theorem dX6_middle_4 : decode cX6_middle 4 = .ok (.ldc2_w 152, 3) := by decide +kernel
theorem dX6_middle_7 : decode cX6_middle 7 = .ok (.ddiv, 1) := by decide +kernel
theorem dX6_middle_8 : decode cX6_middle 8 = .ok (.dstore_n 1, 1) := by decide +kernel
theorem dX6_middle_9 : decode cX6_middle 9 = .ok (.aload_n 0, 1) := by decide +kernel
theorem dX6_middle_10 : decode cX6_middle 10 = .ok (.aload_n 0, 1) := by decide +kernel
theorem dX6_middle_11 : decode cX6_middle 11 = .ok (.getfield 24, 3) := by decide +kernel
theorem dX6_middle_14 : decode cX6_middle 14 = .ok (.dload_n 1, 1) := by decide +kernel
theorem dX6_middle_15 : decode cX6_middle 15 = .ok (.iconst 0, 1) := by decide +kernel
theorem dX6_middle_16 : decode cX6_middle 16 = .ok (.invokevirtual 72, 3) := by decide +kernel
theorem dX6_middle_19 : decode cX6_middle 19 = .ok (.aload_n 0, 1) := by decide +kernel
theorem dX6_middle_20 : decode cX6_middle 20 = .ok (.iconst 1, 1) := by decide +kernel
theorem dX6_middle_21 : decode cX6_middle 21 = .ok (.aload_n 0, 1) := by decide +kernel
theorem dX6_middle_22 : decode cX6_middle 22 = .ok (.getfield 48, 3) := by decide +kernel
theorem dX6_middle_25 : decode cX6_middle 25 = .ok (.dload_n 1, 1) := by decide +kernel
theorem dX6_middle_26 : decode cX6_middle 26 = .ok (.dadd, 1) := by decide +kernel
theorem dX6_middle_27 : decode cX6_middle 27 = .ok (.aload_n 0, 1) := by decide +kernel
theorem dX6_middle_28 : decode cX6_middle 28 = .ok (.getfield 24, 3) := by decide +kernel
theorem dX6_middle_31 : decode cX6_middle 31 = .ok (.invokevirtual 68, 3) := by decide +kernel
theorem dX6_middle_34 : decode cX6_middle 34 = .ok (.ifCond .ne 5, 3) := by decide +kernel
theorem dX6_middle_37 : decode cX6_middle 37 = .ok (.iconst 0, 1) := by decide +kernel
theorem dX6_middle_38 : decode cX6_middle 38 = .ok (.ireturn, 1) := by decide +kernel
theorem dX6_middle_39 : decode cX6_middle 39 = .ok (.aload_n 0, 1) := by decide +kernel
theorem dX6_middle_40 : decode cX6_middle 40 = .ok (.aload_n 0, 1) := by decide +kernel
theorem dX6_middle_41 : decode cX6_middle 41 = .ok (.getfield 27, 3) := by decide +kernel
theorem dX6_middle_44 : decode cX6_middle 44 = .ok (.aload_n 0, 1) := by decide +kernel
theorem dX6_middle_45 : decode cX6_middle 45 = .ok (.getfield 52, 3) := by decide +kernel
theorem dX6_middle_48 : decode cX6_middle 48 = .ok (.iconst 1, 1) := by decide +kernel
theorem dX6_middle_49 : decode cX6_middle 49 = .ok (.invokevirtual 72, 3) := by decide +kernel
theorem dX6_middle_52 : decode cX6_middle 52 = .ok (.iconst 1, 1) := by decide +kernel
theorem dX6_middle_53 : decode cX6_middle 53 = .ok (.ireturn, 1) := by decide +kernel
theorem dX6_third_0 : decode cX6_third 0 = .ok (.aload_n 0, 1) := by decide +kernel
theorem dX6_third_1 : decode cX6_third 1 = .ok (.getfield 52, 3) := by decide +kernel
theorem dX6_third_4 : decode cX6_third 4 = .ok (.ldc2_w 152, 3) := by decide +kernel
theorem dX6_third_7 : decode cX6_third 7 = .ok (.ddiv, 1) := by decide +kernel
theorem dX6_third_8 : decode cX6_third 8 = .ok (.dstore_n 1, 1) := by decide +kernel
theorem dX6_third_9 : decode cX6_third 9 = .ok (.aload_n 0, 1) := by decide +kernel
theorem dX6_third_10 : decode cX6_third 10 = .ok (.aload_n 0, 1) := by decide +kernel
theorem dX6_third_11 : decode cX6_third 11 = .ok (.getfield 24, 3) := by decide +kernel
theorem dX6_third_14 : decode cX6_third 14 = .ok (.dload_n 1, 1) := by decide +kernel
theorem dX6_third_15 : decode cX6_third 15 = .ok (.iconst 0, 1) := by decide +kernel
theorem dX6_third_16 : decode cX6_third 16 = .ok (.invokevirtual 72, 3) := by decide +kernel
theorem dX6_third_19 : decode cX6_third 19 = .ok (.aload_n 0, 1) := by decide +kernel
theorem dX6_third_20 : decode cX6_third 20 = .ok (.iconst 1, 1) := by decide +kernel
theorem dX6_third_21 : decode cX6_third 21 = .ok (.aload_n 0, 1) := by decide +kernel
theorem dX6_third_22 : decode cX6_third 22 = .ok (.getfield 48, 3) := by decide +kernel
theorem dX6_third_25 : decode cX6_third 25 = .ok (.dload_n 1, 1) := by decide +kernel
theorem dX6_third_26 : decode cX6_third 26 = .ok (.dadd, 1) := by decide +kernel
theorem dX6_third_27 : decode cX6_third 27 = .ok (.aload_n 0, 1) := by decide +kernel
theorem dX6_third_28 : decode cX6_third 28 = .ok (.getfield 24, 3) := by decide +kernel
theorem dX6_third_31 : decode cX6_third 31 = .ok (.invokevirtual 68, 3) := by decide +kernel
theorem dX6_third_34 : decode cX6_third 34 = .ok (.ifCond .ne 5, 3) := by decide +kernel
theorem dX6_third_37 : decode cX6_third 37 = .ok (.iconst 0, 1) := by decide +kernel
theorem dX6_third_38 : decode cX6_third 38 = .ok (.ireturn, 1) := by decide +kernel
theorem dX6_third_39 : decode cX6_third 39 = .ok (.iconst 0, 1) := by decide +kernel
theorem dX6_third_40 : decode cX6_third 40 = .ok (.istore_n 3, 1) := by decide +kernel
theorem dX6_third_41 : decode cX6_third 41 = .ok (.iload_n 3, 1) := by decide +kernel
theorem dX6_third_42 : decode cX6_third 42 = .ok (.aload_n 0, 1) := by decide +kernel
theorem dX6_third_43 : decode cX6_third 43 = .ok (.getfield 40, 3) := by decide +kernel
theorem dX6_third_46 : decode cX6_third 46 = .ok (.getfield 95, 3) := by decide +kernel
theorem dX6_third_49 : decode cX6_third 49 = .ok (.if_icmp .ge 70, 3) := by decide +kernel
theorem dX6_third_52 : decode cX6_third 52 = .ok (.aload_n 0, 1) := by decide +kernel
theorem dX6_third_53 : decode cX6_third 53 = .ok (.getfield 9, 3) := by decide +kernel
theorem dX6_third_56 : decode cX6_third 56 = .ok (.invokevirtual 141, 3) := by decide +kernel
theorem dX6_third_59 : decode cX6_third 59 = .ok (.aload_n 0, 1) := by decide +kernel
theorem dX6_third_60 : decode cX6_third 60 = .ok (.getfield 9, 3) := by decide +kernel
theorem dX6_third_63 : decode cX6_third 63 = .ok (.ldc2_w 152, 3) := by decide +kernel
theorem dX6_third_66 : decode cX6_third 66 = .ok (.aload_n 0, 1) := by decide +kernel
theorem dX6_third_67 : decode cX6_third 67 = .ok (.getfield 30, 3) := by decide +kernel
theorem dX6_third_70 : decode cX6_third 70 = .ok (.iconst 1, 1) := by decide +kernel
theorem dX6_third_71 : decode cX6_third 71 = .ok (.aaload, 1) := by decide +kernel
theorem dX6_third_72 : decode cX6_third 72 = .ok (.getfield 144, 3) := by decide +kernel
theorem dX6_third_75 : decode cX6_third 75 = .ok (.iload_n 3, 1) := by decide +kernel
theorem dX6_third_76 : decode cX6_third 76 = .ok (.daload, 1) := by decide +kernel
theorem dX6_third_77 : decode cX6_third 77 = .ok (.dmul, 1) := by decide +kernel
theorem dX6_third_78 : decode cX6_third 78 = .ok (.aload_n 0, 1) := by decide +kernel
theorem dX6_third_79 : decode cX6_third 79 = .ok (.getfield 30, 3) := by decide +kernel
theorem dX6_third_82 : decode cX6_third 82 = .ok (.iconst 0, 1) := by decide +kernel
theorem dX6_third_83 : decode cX6_third 83 = .ok (.aaload, 1) := by decide +kernel
theorem dX6_third_84 : decode cX6_third 84 = .ok (.getfield 144, 3) := by decide +kernel
theorem dX6_third_87 : decode cX6_third 87 = .ok (.iload_n 3, 1) := by decide +kernel
theorem dX6_third_88 : decode cX6_third 88 = .ok (.daload, 1) := by decide +kernel
theorem dX6_third_89 : decode cX6_third 89 = .ok (.invokevirtual 154, 3) := by decide +kernel
theorem dX6_third_92 : decode cX6_third 92 = .ok (.dstore 4, 2) := by decide +kernel
theorem dX6_third_94 : decode cX6_third 94 = .ok (.aload_n 0, 1) := by decide +kernel
theorem dX6_third_95 : decode cX6_third 95 = .ok (.aload_n 0, 1) := by decide +kernel
theorem dX6_third_96 : decode cX6_third 96 = .ok (.getfield 24, 3) := by decide +kernel
theorem dX6_third_99 : decode cX6_third 99 = .ok (.iload_n 3, 1) := by decide +kernel
theorem dX6_third_100 : decode cX6_third 100 = .ok (.aload_n 0, 1) := by decide +kernel
theorem dX6_third_101 : decode cX6_third 101 = .ok (.getfield 20, 3) := by decide +kernel
theorem dX6_third_104 : decode cX6_third 104 = .ok (.aload_n 0, 1) := by decide +kernel
theorem dX6_third_105 : decode cX6_third 105 = .ok (.getfield 52, 3) := by decide +kernel
theorem dX6_third_108 : decode cX6_third 108 = .ok (.dload 4, 2) := by decide +kernel
theorem dX6_third_110 : decode cX6_third 110 = .ok (.invokevirtual 148, 3) := by decide +kernel
theorem dX6_third_113 : decode cX6_third 113 = .ok (.iinc 3 1, 3) := by decide +kernel
theorem dX6_third_116 : decode cX6_third 116 = .ok (.goto (-75), 3) := by decide +kernel
theorem dX6_third_119 : decode cX6_third 119 = .ok (.aload_n 0, 1) := by decide +kernel
theorem dX6_third_120 : decode cX6_third 120 = .ok (.iconst 2, 1) := by decide +kernel
theorem dX6_third_121 : decode cX6_third 121 = .ok (.aload_n 0, 1) := by decide +kernel
theorem dX6_third_122 : decode cX6_third 122 = .ok (.getfield 48, 3) := by decide +kernel
theorem dX6_third_125 : decode cX6_third 125 = .ok (.aload_n 0, 1) := by decide +kernel
theorem dX6_third_126 : decode cX6_third 126 = .ok (.getfield 52, 3) := by decide +kernel
theorem dX6_third_129 : decode cX6_third 129 = .ok (.dadd, 1) := by decide +kernel
theorem dX6_third_130 : decode cX6_third 130 = .ok (.aload_n 0, 1) := by decide +kernel
theorem dX6_third_131 : decode cX6_third 131 = .ok (.getfield 24, 3) := by decide +kernel
theorem dX6_third_134 : decode cX6_third 134 = .ok (.invokevirtual 68, 3) := by decide +kernel
theorem dX6_third_137 : decode cX6_third 137 = .ok (.ifCond .ne 5, 3) := by decide +kernel
theorem dX6_third_140 : decode cX6_third 140 = .ok (.iconst 0, 1) := by decide +kernel
theorem dX6_third_141 : decode cX6_third 141 = .ok (.ireturn, 1) := by decide +kernel
theorem dX6_third_142 : decode cX6_third 142 = .ok (.iconst 0, 1) := by decide +kernel
theorem dX6_third_143 : decode cX6_third 143 = .ok (.istore_n 3, 1) := by decide +kernel
theorem dX6_third_144 : decode cX6_third 144 = .ok (.iload_n 3, 1) := by decide +kernel
theorem dX6_third_145 : decode cX6_third 145 = .ok (.aload_n 0, 1) := by decide +kernel
theorem dX6_third_146 : decode cX6_third 146 = .ok (.getfield 40, 3) := by decide +kernel
theorem dX6_third_149 : decode cX6_third 149 = .ok (.getfield 95, 3) := by decide +kernel
theorem dX6_third_152 : decode cX6_third 152 = .ok (.if_icmp .ge 96, 3) := by decide +kernel
theorem dX6_third_155 : decode cX6_third 155 = .ok (.aload_n 0, 1) := by decide +kernel
theorem dX6_third_156 : decode cX6_third 156 = .ok (.getfield 9, 3) := by decide +kernel
theorem dX6_third_159 : decode cX6_third 159 = .ok (.invokevirtual 141, 3) := by decide +kernel
theorem dX6_third_162 : decode cX6_third 162 = .ok (.aload_n 0, 1) := by decide +kernel
theorem dX6_third_163 : decode cX6_third 163 = .ok (.getfield 9, 3) := by decide +kernel
theorem dX6_third_166 : decode cX6_third 166 = .ok (.aload_n 0, 1) := by decide +kernel
theorem dX6_third_167 : decode cX6_third 167 = .ok (.getfield 30, 3) := by decide +kernel
theorem dX6_third_170 : decode cX6_third 170 = .ok (.iconst 0, 1) := by decide +kernel
theorem dX6_third_171 : decode cX6_third 171 = .ok (.aaload, 1) := by decide +kernel
theorem dX6_third_172 : decode cX6_third 172 = .ok (.getfield 144, 3) := by decide +kernel
theorem dX6_third_175 : decode cX6_third 175 = .ok (.iload_n 3, 1) := by decide +kernel
theorem dX6_third_176 : decode cX6_third 176 = .ok (.daload, 1) := by decide +kernel
theorem dX6_third_177 : decode cX6_third 177 = .ok (.ldc2_w 157, 3) := by decide +kernel
theorem dX6_third_180 : decode cX6_third 180 = .ok (.aload_n 0, 1) := by decide +kernel
theorem dX6_third_181 : decode cX6_third 181 = .ok (.getfield 30, 3) := by decide +kernel
theorem dX6_third_184 : decode cX6_third 184 = .ok (.iconst 1, 1) := by decide +kernel
theorem dX6_third_185 : decode cX6_third 185 = .ok (.aaload, 1) := by decide +kernel
theorem dX6_third_186 : decode cX6_third 186 = .ok (.getfield 144, 3) := by decide +kernel
theorem dX6_third_189 : decode cX6_third 189 = .ok (.iload_n 3, 1) := by decide +kernel
theorem dX6_third_190 : decode cX6_third 190 = .ok (.daload, 1) := by decide +kernel
theorem dX6_third_191 : decode cX6_third 191 = .ok (.dmul, 1) := by decide +kernel
theorem dX6_third_192 : decode cX6_third 192 = .ok (.invokevirtual 127, 3) := by decide +kernel
theorem dX6_third_195 : decode cX6_third 195 = .ok (.dstore 4, 2) := by decide +kernel
theorem dX6_third_197 : decode cX6_third 197 = .ok (.aload_n 0, 1) := by decide +kernel
theorem dX6_third_198 : decode cX6_third 198 = .ok (.getfield 9, 3) := by decide +kernel
theorem dX6_third_201 : decode cX6_third 201 = .ok (.dload 4, 2) := by decide +kernel
theorem dX6_third_203 : decode cX6_third 203 = .ok (.aload_n 0, 1) := by decide +kernel
theorem dX6_third_204 : decode cX6_third 204 = .ok (.getfield 30, 3) := by decide +kernel
theorem dX6_third_207 : decode cX6_third 207 = .ok (.iconst 2, 1) := by decide +kernel
theorem dX6_third_208 : decode cX6_third 208 = .ok (.aaload, 1) := by decide +kernel
theorem dX6_third_209 : decode cX6_third 209 = .ok (.getfield 144, 3) := by decide +kernel
theorem dX6_third_212 : decode cX6_third 212 = .ok (.iload_n 3, 1) := by decide +kernel
theorem dX6_third_213 : decode cX6_third 213 = .ok (.daload, 1) := by decide +kernel
theorem dX6_third_214 : decode cX6_third 214 = .ok (.invokevirtual 127, 3) := by decide +kernel
theorem dX6_third_217 : decode cX6_third 217 = .ok (.dstore 4, 2) := by decide +kernel
theorem dX6_third_219 : decode cX6_third 219 = .ok (.aload_n 0, 1) := by decide +kernel
theorem dX6_third_220 : decode cX6_third 220 = .ok (.aload_n 0, 1) := by decide +kernel
theorem dX6_third_221 : decode cX6_third 221 = .ok (.getfield 27, 3) := by decide +kernel
theorem dX6_third_224 : decode cX6_third 224 = .ok (.iload_n 3, 1) := by decide +kernel
theorem dX6_third_225 : decode cX6_third 225 = .ok (.aload_n 0, 1) := by decide +kernel
theorem dX6_third_226 : decode cX6_third 226 = .ok (.getfield 20, 3) := by decide +kernel
theorem dX6_third_229 : decode cX6_third 229 = .ok (.aload_n 0, 1) := by decide +kernel
theorem dX6_third_230 : decode cX6_third 230 = .ok (.getfield 52, 3) := by decide +kernel
theorem dX6_third_233 : decode cX6_third 233 = .ok (.ldc2_w 159, 3) := by decide +kernel
theorem dX6_third_236 : decode cX6_third 236 = .ok (.ddiv, 1) := by decide +kernel
theorem dX6_third_237 : decode cX6_third 237 = .ok (.dload 4, 2) := by decide +kernel
theorem dX6_third_239 : decode cX6_third 239 = .ok (.invokevirtual 148, 3) := by decide +kernel
theorem dX6_third_242 : decode cX6_third 242 = .ok (.iinc 3 1, 3) := by decide +kernel
theorem dX6_third_245 : decode cX6_third 245 = .ok (.goto (-101), 3) := by decide +kernel
theorem dX6_third_248 : decode cX6_third 248 = .ok (.iconst 1, 1) := by decide +kernel
theorem dX6_third_249 : decode cX6_third 249 = .ok (.ireturn, 1) := by decide +kernel
theorem dX6_fourth_0 : decode cX6_fourth 0 = .ok (.aload_n 0, 1) := by decide +kernel
theorem dX6_fourth_1 : decode cX6_fourth 1 = .ok (.getfield 52, 3) := by decide +kernel
theorem dX6_fourth_4 : decode cX6_fourth 4 = .ok (.ldc2_w 152, 3) := by decide +kernel
theorem dX6_fourth_7 : decode cX6_fourth 7 = .ok (.ddiv, 1) := by decide +kernel
theorem dX6_fourth_8 : decode cX6_fourth 8 = .ok (.dstore_n 1, 1) := by decide +kernel
theorem dX6_fourth_9 : decode cX6_fourth 9 = .ok (.aload_n 0, 1) := by decide +kernel
theorem dX6_fourth_10 : decode cX6_fourth 10 = .ok (.aload_n 0, 1) := by decide +kernel
theorem dX6_fourth_11 : decode cX6_fourth 11 = .ok (.getfield 24, 3) := by decide +kernel
theorem dX6_fourth_14 : decode cX6_fourth 14 = .ok (.dload_n 1, 1) := by decide +kernel
theorem dX6_fourth_15 : decode cX6_fourth 15 = .ok (.iconst 0, 1) := by decide +kernel
theorem dX6_fourth_16 : decode cX6_fourth 16 = .ok (.invokevirtual 72, 3) := by decide +kernel
theorem dX6_fourth_19 : decode cX6_fourth 19 = .ok (.aload_n 0, 1) := by decide +kernel
theorem dX6_fourth_20 : decode cX6_fourth 20 = .ok (.iconst 1, 1) := by decide +kernel
theorem dX6_fourth_21 : decode cX6_fourth 21 = .ok (.aload_n 0, 1) := by decide +kernel
theorem dX6_fourth_22 : decode cX6_fourth 22 = .ok (.getfield 48, 3) := by decide +kernel
theorem dX6_fourth_25 : decode cX6_fourth 25 = .ok (.dload_n 1, 1) := by decide +kernel
theorem dX6_fourth_26 : decode cX6_fourth 26 = .ok (.dadd, 1) := by decide +kernel
theorem dX6_fourth_27 : decode cX6_fourth 27 = .ok (.aload_n 0, 1) := by decide +kernel
theorem dX6_fourth_28 : decode cX6_fourth 28 = .ok (.getfield 24, 3) := by decide +kernel
theorem dX6_fourth_31 : decode cX6_fourth 31 = .ok (.invokevirtual 68, 3) := by decide +kernel
theorem dX6_fourth_34 : decode cX6_fourth 34 = .ok (.ifCond .ne 5, 3) := by decide +kernel
theorem dX6_fourth_37 : decode cX6_fourth 37 = .ok (.iconst 0, 1) := by decide +kernel
theorem dX6_fourth_38 : decode cX6_fourth 38 = .ok (.ireturn, 1) := by decide +kernel
theorem dX6_fourth_39 : decode cX6_fourth 39 = .ok (.aload_n 0, 1) := by decide +kernel
theorem dX6_fourth_40 : decode cX6_fourth 40 = .ok (.aload_n 0, 1) := by decide +kernel
theorem dX6_fourth_41 : decode cX6_fourth 41 = .ok (.getfield 24, 3) := by decide +kernel
theorem dX6_fourth_44 : decode cX6_fourth 44 = .ok (.dload_n 1, 1) := by decide +kernel
theorem dX6_fourth_45 : decode cX6_fourth 45 = .ok (.iconst 1, 1) := by decide +kernel
theorem dX6_fourth_46 : decode cX6_fourth 46 = .ok (.invokevirtual 72, 3) := by decide +kernel
theorem dX6_fourth_49 : decode cX6_fourth 49 = .ok (.aload_n 0, 1) := by decide +kernel
theorem dX6_fourth_50 : decode cX6_fourth 50 = .ok (.iconst 2, 1) := by decide +kernel
theorem dX6_fourth_51 : decode cX6_fourth 51 = .ok (.aload_n 0, 1) := by decide +kernel
theorem dX6_fourth_52 : decode cX6_fourth 52 = .ok (.getfield 48, 3) := by decide +kernel
theorem dX6_fourth_55 : decode cX6_fourth 55 = .ok (.dload_n 1, 1) := by decide +kernel
theorem dX6_fourth_56 : decode cX6_fourth 56 = .ok (.dadd, 1) := by decide +kernel
theorem dX6_fourth_57 : decode cX6_fourth 57 = .ok (.aload_n 0, 1) := by decide +kernel
theorem dX6_fourth_58 : decode cX6_fourth 58 = .ok (.getfield 24, 3) := by decide +kernel
theorem dX6_fourth_61 : decode cX6_fourth 61 = .ok (.invokevirtual 68, 3) := by decide +kernel
theorem dX6_fourth_64 : decode cX6_fourth 64 = .ok (.ifCond .ne 5, 3) := by decide +kernel
theorem dX6_fourth_67 : decode cX6_fourth 67 = .ok (.iconst 0, 1) := by decide +kernel
theorem dX6_fourth_68 : decode cX6_fourth 68 = .ok (.ireturn, 1) := by decide +kernel
theorem dX6_fourth_69 : decode cX6_fourth 69 = .ok (.aload_n 0, 1) := by decide +kernel
theorem dX6_fourth_70 : decode cX6_fourth 70 = .ok (.aload_n 0, 1) := by decide +kernel
theorem dX6_fourth_71 : decode cX6_fourth 71 = .ok (.getfield 24, 3) := by decide +kernel
theorem dX6_fourth_74 : decode cX6_fourth 74 = .ok (.aload_n 0, 1) := by decide +kernel
theorem dX6_fourth_75 : decode cX6_fourth 75 = .ok (.getfield 52, 3) := by decide +kernel
theorem dX6_fourth_78 : decode cX6_fourth 78 = .ok (.iconst 2, 1) := by decide +kernel
theorem dX6_fourth_79 : decode cX6_fourth 79 = .ok (.invokevirtual 72, 3) := by decide +kernel
theorem dX6_fourth_82 : decode cX6_fourth 82 = .ok (.aload_n 0, 1) := by decide +kernel
theorem dX6_fourth_83 : decode cX6_fourth 83 = .ok (.iconst 3, 1) := by decide +kernel
theorem dX6_fourth_84 : decode cX6_fourth 84 = .ok (.aload_n 0, 1) := by decide +kernel
theorem dX6_fourth_85 : decode cX6_fourth 85 = .ok (.getfield 48, 3) := by decide +kernel
theorem dX6_fourth_88 : decode cX6_fourth 88 = .ok (.aload_n 0, 1) := by decide +kernel
theorem dX6_fourth_89 : decode cX6_fourth 89 = .ok (.getfield 52, 3) := by decide +kernel
theorem dX6_fourth_92 : decode cX6_fourth 92 = .ok (.dadd, 1) := by decide +kernel
theorem dX6_fourth_93 : decode cX6_fourth 93 = .ok (.aload_n 0, 1) := by decide +kernel
theorem dX6_fourth_94 : decode cX6_fourth 94 = .ok (.getfield 24, 3) := by decide +kernel
theorem dX6_fourth_97 : decode cX6_fourth 97 = .ok (.invokevirtual 68, 3) := by decide +kernel
theorem dX6_fourth_100 : decode cX6_fourth 100 = .ok (.ifCond .ne 5, 3) := by decide +kernel
theorem dX6_fourth_103 : decode cX6_fourth 103 = .ok (.iconst 0, 1) := by decide +kernel
theorem dX6_fourth_104 : decode cX6_fourth 104 = .ok (.ireturn, 1) := by decide +kernel
theorem dX6_fourth_105 : decode cX6_fourth 105 = .ok (.iconst 0, 1) := by decide +kernel
theorem dX6_fourth_106 : decode cX6_fourth 106 = .ok (.istore_n 3, 1) := by decide +kernel
theorem dX6_fourth_107 : decode cX6_fourth 107 = .ok (.iload_n 3, 1) := by decide +kernel
theorem dX6_fourth_108 : decode cX6_fourth 108 = .ok (.aload_n 0, 1) := by decide +kernel
theorem dX6_fourth_109 : decode cX6_fourth 109 = .ok (.getfield 40, 3) := by decide +kernel
theorem dX6_fourth_112 : decode cX6_fourth 112 = .ok (.getfield 95, 3) := by decide +kernel
theorem dX6_fourth_115 : decode cX6_fourth 115 = .ok (.if_icmp .ge 122, 3) := by decide +kernel
theorem dX6_fourth_118 : decode cX6_fourth 118 = .ok (.aload_n 0, 1) := by decide +kernel
theorem dX6_fourth_119 : decode cX6_fourth 119 = .ok (.getfield 9, 3) := by decide +kernel
theorem dX6_fourth_122 : decode cX6_fourth 122 = .ok (.invokevirtual 141, 3) := by decide +kernel
theorem dX6_fourth_125 : decode cX6_fourth 125 = .ok (.aload_n 0, 1) := by decide +kernel
theorem dX6_fourth_126 : decode cX6_fourth 126 = .ok (.getfield 9, 3) := by decide +kernel
theorem dX6_fourth_129 : decode cX6_fourth 129 = .ok (.aload_n 0, 1) := by decide +kernel
theorem dX6_fourth_130 : decode cX6_fourth 130 = .ok (.getfield 30, 3) := by decide +kernel
theorem dX6_fourth_133 : decode cX6_fourth 133 = .ok (.iconst 0, 1) := by decide +kernel
theorem dX6_fourth_134 : decode cX6_fourth 134 = .ok (.aaload, 1) := by decide +kernel
theorem dX6_fourth_135 : decode cX6_fourth 135 = .ok (.getfield 144, 3) := by decide +kernel
theorem dX6_fourth_138 : decode cX6_fourth 138 = .ok (.iload_n 3, 1) := by decide +kernel
theorem dX6_fourth_139 : decode cX6_fourth 139 = .ok (.daload, 1) := by decide +kernel
theorem dX6_fourth_140 : decode cX6_fourth 140 = .ok (.ldc2_w 152, 3) := by decide +kernel
theorem dX6_fourth_143 : decode cX6_fourth 143 = .ok (.aload_n 0, 1) := by decide +kernel
theorem dX6_fourth_144 : decode cX6_fourth 144 = .ok (.getfield 30, 3) := by decide +kernel
theorem dX6_fourth_147 : decode cX6_fourth 147 = .ok (.iconst 1, 1) := by decide +kernel
theorem dX6_fourth_148 : decode cX6_fourth 148 = .ok (.aaload, 1) := by decide +kernel
theorem dX6_fourth_149 : decode cX6_fourth 149 = .ok (.getfield 144, 3) := by decide +kernel
theorem dX6_fourth_152 : decode cX6_fourth 152 = .ok (.iload_n 3, 1) := by decide +kernel
theorem dX6_fourth_153 : decode cX6_fourth 153 = .ok (.daload, 1) := by decide +kernel
theorem dX6_fourth_154 : decode cX6_fourth 154 = .ok (.dmul, 1) := by decide +kernel
theorem dX6_fourth_155 : decode cX6_fourth 155 = .ok (.invokevirtual 127, 3) := by decide +kernel
theorem dX6_fourth_158 : decode cX6_fourth 158 = .ok (.dstore 4, 2) := by decide +kernel
theorem dX6_fourth_160 : decode cX6_fourth 160 = .ok (.aload_n 0, 1) := by decide +kernel
theorem dX6_fourth_161 : decode cX6_fourth 161 = .ok (.getfield 9, 3) := by decide +kernel
theorem dX6_fourth_164 : decode cX6_fourth 164 = .ok (.dload 4, 2) := by decide +kernel
theorem dX6_fourth_166 : decode cX6_fourth 166 = .ok (.ldc2_w 152, 3) := by decide +kernel
theorem dX6_fourth_169 : decode cX6_fourth 169 = .ok (.aload_n 0, 1) := by decide +kernel
theorem dX6_fourth_170 : decode cX6_fourth 170 = .ok (.getfield 30, 3) := by decide +kernel
theorem dX6_fourth_173 : decode cX6_fourth 173 = .ok (.iconst 2, 1) := by decide +kernel
theorem dX6_fourth_174 : decode cX6_fourth 174 = .ok (.aaload, 1) := by decide +kernel
theorem dX6_fourth_175 : decode cX6_fourth 175 = .ok (.getfield 144, 3) := by decide +kernel
theorem dX6_fourth_178 : decode cX6_fourth 178 = .ok (.iload_n 3, 1) := by decide +kernel
theorem dX6_fourth_179 : decode cX6_fourth 179 = .ok (.daload, 1) := by decide +kernel
theorem dX6_fourth_180 : decode cX6_fourth 180 = .ok (.dmul, 1) := by decide +kernel
theorem dX6_fourth_181 : decode cX6_fourth 181 = .ok (.invokevirtual 127, 3) := by decide +kernel
theorem dX6_fourth_184 : decode cX6_fourth 184 = .ok (.dstore 4, 2) := by decide +kernel
theorem dX6_fourth_186 : decode cX6_fourth 186 = .ok (.aload_n 0, 1) := by decide +kernel
theorem dX6_fourth_187 : decode cX6_fourth 187 = .ok (.getfield 9, 3) := by decide +kernel
theorem dX6_fourth_190 : decode cX6_fourth 190 = .ok (.dload 4, 2) := by decide +kernel
theorem dX6_fourth_192 : decode cX6_fourth 192 = .ok (.aload_n 0, 1) := by decide +kernel
theorem dX6_fourth_193 : decode cX6_fourth 193 = .ok (.getfield 30, 3) := by decide +kernel
theorem dX6_fourth_196 : decode cX6_fourth 196 = .ok (.iconst 3, 1) := by decide +kernel
theorem dX6_fourth_197 : decode cX6_fourth 197 = .ok (.aaload, 1) := by decide +kernel
theorem dX6_fourth_198 : decode cX6_fourth 198 = .ok (.getfield 144, 3) := by decide +kernel
theorem dX6_fourth_201 : decode cX6_fourth 201 = .ok (.iload_n 3, 1) := by decide +kernel
theorem dX6_fourth_202 : decode cX6_fourth 202 = .ok (.daload, 1) := by decide +kernel
theorem dX6_fourth_203 : decode cX6_fourth 203 = .ok (.invokevirtual 127, 3) := by decide +kernel
theorem dX6_fourth_206 : decode cX6_fourth 206 = .ok (.dstore 4, 2) := by decide +kernel
theorem dX6_fourth_208 : decode cX6_fourth 208 = .ok (.aload_n 0, 1) := by decide +kernel
theorem dX6_fourth_209 : decode cX6_fourth 209 = .ok (.aload_n 0, 1) := by decide +kernel
theorem dX6_fourth_210 : decode cX6_fourth 210 = .ok (.getfield 27, 3) := by decide +kernel
theorem dX6_fourth_213 : decode cX6_fourth 213 = .ok (.iload_n 3, 1) := by decide +kernel
theorem dX6_fourth_214 : decode cX6_fourth 214 = .ok (.aload_n 0, 1) := by decide +kernel
theorem dX6_fourth_215 : decode cX6_fourth 215 = .ok (.getfield 20, 3) := by decide +kernel
theorem dX6_fourth_218 : decode cX6_fourth 218 = .ok (.aload_n 0, 1) := by decide +kernel
theorem dX6_fourth_219 : decode cX6_fourth 219 = .ok (.getfield 52, 3) := by decide +kernel
theorem dX6_fourth_222 : decode cX6_fourth 222 = .ok (.ldc2_w 159, 3) := by decide +kernel
theorem dX6_fourth_225 : decode cX6_fourth 225 = .ok (.ddiv, 1) := by decide +kernel
theorem dX6_fourth_226 : decode cX6_fourth 226 = .ok (.dload 4, 2) := by decide +kernel
theorem dX6_fourth_228 : decode cX6_fourth 228 = .ok (.invokevirtual 148, 3) := by decide +kernel
theorem dX6_fourth_231 : decode cX6_fourth 231 = .ok (.iinc 3 1, 3) := by decide +kernel
theorem dX6_fourth_234 : decode cX6_fourth 234 = .ok (.goto (-127), 3) := by decide +kernel
theorem dX6_fourth_237 : decode cX6_fourth 237 = .ok (.iconst 1, 1) := by decide +kernel
theorem dX6_fourth_238 : decode cX6_fourth 238 = .ok (.ireturn, 1) := by decide +kernel
theorem dX6_pair_0 : decode cX6_pair 0 = .ok (.aload_n 0, 1) := by decide +kernel
theorem dX6_pair_1 : decode cX6_pair 1 = .ok (.getfield 52, 3) := by decide +kernel
theorem dX6_pair_4 : decode cX6_pair 4 = .ok (.ldc2_w 152, 3) := by decide +kernel
theorem dX6_pair_7 : decode cX6_pair 7 = .ok (.ddiv, 1) := by decide +kernel
theorem dX6_pair_8 : decode cX6_pair 8 = .ok (.dstore_n 1, 1) := by decide +kernel
theorem dX6_pair_9 : decode cX6_pair 9 = .ok (.aload_n 0, 1) := by decide +kernel
theorem dX6_pair_10 : decode cX6_pair 10 = .ok (.aload_n 0, 1) := by decide +kernel
theorem dX6_pair_11 : decode cX6_pair 11 = .ok (.getfield 24, 3) := by decide +kernel
theorem dX6_pair_14 : decode cX6_pair 14 = .ok (.dload_n 1, 1) := by decide +kernel
theorem dX6_pair_15 : decode cX6_pair 15 = .ok (.iconst 0, 1) := by decide +kernel
theorem dX6_pair_16 : decode cX6_pair 16 = .ok (.invokevirtual 72, 3) := by decide +kernel
theorem dX6_pair_19 : decode cX6_pair 19 = .ok (.aload_n 0, 1) := by decide +kernel
theorem dX6_pair_20 : decode cX6_pair 20 = .ok (.iconst 1, 1) := by decide +kernel
theorem dX6_pair_21 : decode cX6_pair 21 = .ok (.aload_n 0, 1) := by decide +kernel
theorem dX6_pair_22 : decode cX6_pair 22 = .ok (.getfield 48, 3) := by decide +kernel
theorem dX6_pair_25 : decode cX6_pair 25 = .ok (.dload_n 1, 1) := by decide +kernel
theorem dX6_pair_26 : decode cX6_pair 26 = .ok (.dadd, 1) := by decide +kernel
theorem dX6_pair_27 : decode cX6_pair 27 = .ok (.aload_n 0, 1) := by decide +kernel
theorem dX6_pair_28 : decode cX6_pair 28 = .ok (.getfield 24, 3) := by decide +kernel
theorem dX6_pair_31 : decode cX6_pair 31 = .ok (.invokevirtual 68, 3) := by decide +kernel
theorem dX6_pair_34 : decode cX6_pair 34 = .ok (.ifCond .ne 5, 3) := by decide +kernel
theorem dX6_pair_37 : decode cX6_pair 37 = .ok (.iconst 0, 1) := by decide +kernel
theorem dX6_pair_38 : decode cX6_pair 38 = .ok (.ireturn, 1) := by decide +kernel
theorem dX6_pair_39 : decode cX6_pair 39 = .ok (.ldc2_w 161, 3) := by decide +kernel
theorem dX6_pair_42 : decode cX6_pair 42 = .ok (.aload_n 0, 1) := by decide +kernel
theorem dX6_pair_43 : decode cX6_pair 43 = .ok (.getfield 52, 3) := by decide +kernel
theorem dX6_pair_46 : decode cX6_pair 46 = .ok (.dmul, 1) := by decide +kernel
theorem dX6_pair_47 : decode cX6_pair 47 = .ok (.ldc2_w 157, 3) := by decide +kernel
theorem dX6_pair_50 : decode cX6_pair 50 = .ok (.ddiv, 1) := by decide +kernel
theorem dX6_pair_51 : decode cX6_pair 51 = .ok (.dstore_n 3, 1) := by decide +kernel
theorem dX6_pair_52 : decode cX6_pair 52 = .ok (.aload_n 0, 1) := by decide +kernel
theorem dX6_pair_53 : decode cX6_pair 53 = .ok (.aload_n 0, 1) := by decide +kernel
theorem dX6_pair_54 : decode cX6_pair 54 = .ok (.getfield 24, 3) := by decide +kernel
theorem dX6_pair_57 : decode cX6_pair 57 = .ok (.dload_n 3, 1) := by decide +kernel
theorem dX6_pair_58 : decode cX6_pair 58 = .ok (.iconst 1, 1) := by decide +kernel
theorem dX6_pair_59 : decode cX6_pair 59 = .ok (.invokevirtual 72, 3) := by decide +kernel
theorem dX6_pair_62 : decode cX6_pair 62 = .ok (.aload_n 0, 1) := by decide +kernel
theorem dX6_pair_63 : decode cX6_pair 63 = .ok (.iconst 2, 1) := by decide +kernel
theorem dX6_pair_64 : decode cX6_pair 64 = .ok (.aload_n 0, 1) := by decide +kernel
theorem dX6_pair_65 : decode cX6_pair 65 = .ok (.getfield 48, 3) := by decide +kernel
theorem dX6_pair_68 : decode cX6_pair 68 = .ok (.dload_n 3, 1) := by decide +kernel
theorem dX6_pair_69 : decode cX6_pair 69 = .ok (.dadd, 1) := by decide +kernel
theorem dX6_pair_70 : decode cX6_pair 70 = .ok (.aload_n 0, 1) := by decide +kernel
theorem dX6_pair_71 : decode cX6_pair 71 = .ok (.getfield 24, 3) := by decide +kernel
theorem dX6_pair_74 : decode cX6_pair 74 = .ok (.invokevirtual 68, 3) := by decide +kernel
theorem dX6_pair_77 : decode cX6_pair 77 = .ok (.ifCond .ne 5, 3) := by decide +kernel
theorem dX6_pair_80 : decode cX6_pair 80 = .ok (.iconst 0, 1) := by decide +kernel
theorem dX6_pair_81 : decode cX6_pair 81 = .ok (.ireturn, 1) := by decide +kernel
theorem dX6_pair_82 : decode cX6_pair 82 = .ok (.iconst 0, 1) := by decide +kernel
theorem dX6_pair_83 : decode cX6_pair 83 = .ok (.istore 5, 2) := by decide +kernel
theorem dX6_pair_85 : decode cX6_pair 85 = .ok (.iload 5, 2) := by decide +kernel
theorem dX6_pair_87 : decode cX6_pair 87 = .ok (.aload_n 0, 1) := by decide +kernel
theorem dX6_pair_88 : decode cX6_pair 88 = .ok (.getfield 40, 3) := by decide +kernel
theorem dX6_pair_91 : decode cX6_pair 91 = .ok (.getfield 95, 3) := by decide +kernel
theorem dX6_pair_94 : decode cX6_pair 94 = .ok (.if_icmp .ge 108, 3) := by decide +kernel
theorem dX6_pair_97 : decode cX6_pair 97 = .ok (.aload_n 0, 1) := by decide +kernel
theorem dX6_pair_98 : decode cX6_pair 98 = .ok (.getfield 9, 3) := by decide +kernel
theorem dX6_pair_101 : decode cX6_pair 101 = .ok (.invokevirtual 141, 3) := by decide +kernel
theorem dX6_pair_104 : decode cX6_pair 104 = .ok (.aload_n 0, 1) := by decide +kernel
theorem dX6_pair_105 : decode cX6_pair 105 = .ok (.getfield 9, 3) := by decide +kernel
theorem dX6_pair_108 : decode cX6_pair 108 = .ok (.ldc2_w 152, 3) := by decide +kernel
theorem dX6_pair_111 : decode cX6_pair 111 = .ok (.aload_n 0, 1) := by decide +kernel
theorem dX6_pair_112 : decode cX6_pair 112 = .ok (.getfield 30, 3) := by decide +kernel
theorem dX6_pair_115 : decode cX6_pair 115 = .ok (.iconst 0, 1) := by decide +kernel
theorem dX6_pair_116 : decode cX6_pair 116 = .ok (.aaload, 1) := by decide +kernel
theorem dX6_pair_117 : decode cX6_pair 117 = .ok (.getfield 144, 3) := by decide +kernel
theorem dX6_pair_120 : decode cX6_pair 120 = .ok (.iload 5, 2) := by decide +kernel
theorem dX6_pair_122 : decode cX6_pair 122 = .ok (.daload, 1) := by decide +kernel
theorem dX6_pair_123 : decode cX6_pair 123 = .ok (.dmul, 1) := by decide +kernel
theorem dX6_pair_124 : decode cX6_pair 124 = .ok (.ldc2_w 161, 3) := by decide +kernel
theorem dX6_pair_127 : decode cX6_pair 127 = .ok (.aload_n 0, 1) := by decide +kernel
theorem dX6_pair_128 : decode cX6_pair 128 = .ok (.getfield 30, 3) := by decide +kernel
theorem dX6_pair_131 : decode cX6_pair 131 = .ok (.iconst 1, 1) := by decide +kernel
theorem dX6_pair_132 : decode cX6_pair 132 = .ok (.aaload, 1) := by decide +kernel
theorem dX6_pair_133 : decode cX6_pair 133 = .ok (.getfield 144, 3) := by decide +kernel
theorem dX6_pair_136 : decode cX6_pair 136 = .ok (.iload 5, 2) := by decide +kernel
theorem dX6_pair_138 : decode cX6_pair 138 = .ok (.daload, 1) := by decide +kernel
theorem dX6_pair_139 : decode cX6_pair 139 = .ok (.dmul, 1) := by decide +kernel
theorem dX6_pair_140 : decode cX6_pair 140 = .ok (.invokevirtual 127, 3) := by decide +kernel
theorem dX6_pair_143 : decode cX6_pair 143 = .ok (.dstore 6, 2) := by decide +kernel
theorem dX6_pair_145 : decode cX6_pair 145 = .ok (.aload_n 0, 1) := by decide +kernel
theorem dX6_pair_146 : decode cX6_pair 146 = .ok (.getfield 9, 3) := by decide +kernel
theorem dX6_pair_149 : decode cX6_pair 149 = .ok (.dload 6, 2) := by decide +kernel
theorem dX6_pair_151 : decode cX6_pair 151 = .ok (.ldc2_w 157, 3) := by decide +kernel
theorem dX6_pair_154 : decode cX6_pair 154 = .ok (.aload_n 0, 1) := by decide +kernel
theorem dX6_pair_155 : decode cX6_pair 155 = .ok (.getfield 30, 3) := by decide +kernel
theorem dX6_pair_158 : decode cX6_pair 158 = .ok (.iconst 2, 1) := by decide +kernel
theorem dX6_pair_159 : decode cX6_pair 159 = .ok (.aaload, 1) := by decide +kernel
theorem dX6_pair_160 : decode cX6_pair 160 = .ok (.getfield 144, 3) := by decide +kernel
theorem dX6_pair_163 : decode cX6_pair 163 = .ok (.iload 5, 2) := by decide +kernel
theorem dX6_pair_165 : decode cX6_pair 165 = .ok (.daload, 1) := by decide +kernel
theorem dX6_pair_166 : decode cX6_pair 166 = .ok (.dmul, 1) := by decide +kernel
theorem dX6_pair_167 : decode cX6_pair 167 = .ok (.invokevirtual 127, 3) := by decide +kernel
theorem dX6_pair_170 : decode cX6_pair 170 = .ok (.dstore 6, 2) := by decide +kernel
theorem dX6_pair_172 : decode cX6_pair 172 = .ok (.aload_n 0, 1) := by decide +kernel
theorem dX6_pair_173 : decode cX6_pair 173 = .ok (.aload_n 0, 1) := by decide +kernel
theorem dX6_pair_174 : decode cX6_pair 174 = .ok (.getfield 27, 3) := by decide +kernel
theorem dX6_pair_177 : decode cX6_pair 177 = .ok (.iload 5, 2) := by decide +kernel
theorem dX6_pair_179 : decode cX6_pair 179 = .ok (.aload_n 0, 1) := by decide +kernel
theorem dX6_pair_180 : decode cX6_pair 180 = .ok (.getfield 20, 3) := by decide +kernel
theorem dX6_pair_183 : decode cX6_pair 183 = .ok (.aload_n 0, 1) := by decide +kernel
theorem dX6_pair_184 : decode cX6_pair 184 = .ok (.getfield 52, 3) := by decide +kernel
theorem dX6_pair_187 : decode cX6_pair 187 = .ok (.ldc2_w 163, 3) := by decide +kernel
theorem dX6_pair_190 : decode cX6_pair 190 = .ok (.ddiv, 1) := by decide +kernel
theorem dX6_pair_191 : decode cX6_pair 191 = .ok (.dload 6, 2) := by decide +kernel
theorem dX6_pair_193 : decode cX6_pair 193 = .ok (.invokevirtual 148, 3) := by decide +kernel
theorem dX6_pair_196 : decode cX6_pair 196 = .ok (.iinc 5 1, 3) := by decide +kernel
theorem dX6_pair_199 : decode cX6_pair 199 = .ok (.goto (-114), 3) := by decide +kernel
theorem dX6_pair_202 : decode cX6_pair 202 = .ok (.aload_n 0, 1) := by decide +kernel
theorem dX6_pair_203 : decode cX6_pair 203 = .ok (.iconst 3, 1) := by decide +kernel
theorem dX6_pair_204 : decode cX6_pair 204 = .ok (.aload_n 0, 1) := by decide +kernel
theorem dX6_pair_205 : decode cX6_pair 205 = .ok (.getfield 48, 3) := by decide +kernel
theorem dX6_pair_208 : decode cX6_pair 208 = .ok (.aload_n 0, 1) := by decide +kernel
theorem dX6_pair_209 : decode cX6_pair 209 = .ok (.getfield 52, 3) := by decide +kernel
theorem dX6_pair_212 : decode cX6_pair 212 = .ok (.dadd, 1) := by decide +kernel
theorem dX6_pair_213 : decode cX6_pair 213 = .ok (.aload_n 0, 1) := by decide +kernel
theorem dX6_pair_214 : decode cX6_pair 214 = .ok (.getfield 27, 3) := by decide +kernel
theorem dX6_pair_217 : decode cX6_pair 217 = .ok (.invokevirtual 68, 3) := by decide +kernel
theorem dX6_pair_220 : decode cX6_pair 220 = .ok (.ifCond .ne 5, 3) := by decide +kernel
theorem dX6_pair_223 : decode cX6_pair 223 = .ok (.iconst 0, 1) := by decide +kernel
theorem dX6_pair_224 : decode cX6_pair 224 = .ok (.ireturn, 1) := by decide +kernel
theorem dX6_pair_225 : decode cX6_pair 225 = .ok (.iconst 0, 1) := by decide +kernel
theorem dX6_pair_226 : decode cX6_pair 226 = .ok (.istore 5, 2) := by decide +kernel
theorem dX6_pair_228 : decode cX6_pair 228 = .ok (.iload 5, 2) := by decide +kernel
theorem dX6_pair_230 : decode cX6_pair 230 = .ok (.aload_n 0, 1) := by decide +kernel
theorem dX6_pair_231 : decode cX6_pair 231 = .ok (.getfield 40, 3) := by decide +kernel
theorem dX6_pair_234 : decode cX6_pair 234 = .ok (.getfield 95, 3) := by decide +kernel
theorem dX6_pair_237 : decode cX6_pair 237 = .ok (.if_icmp .ge 149, 3) := by decide +kernel
theorem dX6_pair_240 : decode cX6_pair 240 = .ok (.aload_n 0, 1) := by decide +kernel
theorem dX6_pair_241 : decode cX6_pair 241 = .ok (.getfield 9, 3) := by decide +kernel
theorem dX6_pair_244 : decode cX6_pair 244 = .ok (.invokevirtual 141, 3) := by decide +kernel
theorem dX6_pair_247 : decode cX6_pair 247 = .ok (.aload_n 0, 1) := by decide +kernel
theorem dX6_pair_248 : decode cX6_pair 248 = .ok (.getfield 9, 3) := by decide +kernel
theorem dX6_pair_251 : decode cX6_pair 251 = .ok (.ldc2_w 159, 3) := by decide +kernel
theorem dX6_pair_254 : decode cX6_pair 254 = .ok (.aload_n 0, 1) := by decide +kernel
theorem dX6_pair_255 : decode cX6_pair 255 = .ok (.getfield 30, 3) := by decide +kernel
theorem dX6_pair_258 : decode cX6_pair 258 = .ok (.iconst 1, 1) := by decide +kernel
theorem dX6_pair_259 : decode cX6_pair 259 = .ok (.aaload, 1) := by decide +kernel
theorem dX6_pair_260 : decode cX6_pair 260 = .ok (.getfield 144, 3) := by decide +kernel
theorem dX6_pair_263 : decode cX6_pair 263 = .ok (.iload 5, 2) := by decide +kernel
theorem dX6_pair_265 : decode cX6_pair 265 = .ok (.daload, 1) := by decide +kernel
theorem dX6_pair_266 : decode cX6_pair 266 = .ok (.dmul, 1) := by decide +kernel
theorem dX6_pair_267 : decode cX6_pair 267 = .ok (.ldc2_w 165, 3) := by decide +kernel
theorem dX6_pair_270 : decode cX6_pair 270 = .ok (.aload_n 0, 1) := by decide +kernel
theorem dX6_pair_271 : decode cX6_pair 271 = .ok (.getfield 30, 3) := by decide +kernel
theorem dX6_pair_274 : decode cX6_pair 274 = .ok (.iconst 2, 1) := by decide +kernel
theorem dX6_pair_275 : decode cX6_pair 275 = .ok (.aaload, 1) := by decide +kernel
theorem dX6_pair_276 : decode cX6_pair 276 = .ok (.getfield 144, 3) := by decide +kernel
theorem dX6_pair_279 : decode cX6_pair 279 = .ok (.iload 5, 2) := by decide +kernel
theorem dX6_pair_281 : decode cX6_pair 281 = .ok (.daload, 1) := by decide +kernel
theorem dX6_pair_282 : decode cX6_pair 282 = .ok (.dmul, 1) := by decide +kernel
theorem dX6_pair_283 : decode cX6_pair 283 = .ok (.invokevirtual 127, 3) := by decide +kernel
theorem dX6_pair_286 : decode cX6_pair 286 = .ok (.dstore 6, 2) := by decide +kernel
theorem dX6_pair_288 : decode cX6_pair 288 = .ok (.aload_n 0, 1) := by decide +kernel
theorem dX6_pair_289 : decode cX6_pair 289 = .ok (.getfield 9, 3) := by decide +kernel
theorem dX6_pair_292 : decode cX6_pair 292 = .ok (.dload 6, 2) := by decide +kernel
theorem dX6_pair_294 : decode cX6_pair 294 = .ok (.ldc2_w 167, 3) := by decide +kernel
theorem dX6_pair_297 : decode cX6_pair 297 = .ok (.aload_n 0, 1) := by decide +kernel
theorem dX6_pair_298 : decode cX6_pair 298 = .ok (.getfield 30, 3) := by decide +kernel
theorem dX6_pair_301 : decode cX6_pair 301 = .ok (.iconst 0, 1) := by decide +kernel
theorem dX6_pair_302 : decode cX6_pair 302 = .ok (.aaload, 1) := by decide +kernel
theorem dX6_pair_303 : decode cX6_pair 303 = .ok (.getfield 144, 3) := by decide +kernel
theorem dX6_pair_306 : decode cX6_pair 306 = .ok (.iload 5, 2) := by decide +kernel
theorem dX6_pair_308 : decode cX6_pair 308 = .ok (.daload, 1) := by decide +kernel
theorem dX6_pair_309 : decode cX6_pair 309 = .ok (.dmul, 1) := by decide +kernel
theorem dX6_pair_310 : decode cX6_pair 310 = .ok (.invokevirtual 154, 3) := by decide +kernel
theorem dX6_pair_313 : decode cX6_pair 313 = .ok (.dstore 6, 2) := by decide +kernel
theorem dX6_pair_315 : decode cX6_pair 315 = .ok (.aload_n 0, 1) := by decide +kernel
theorem dX6_pair_316 : decode cX6_pair 316 = .ok (.getfield 9, 3) := by decide +kernel
theorem dX6_pair_319 : decode cX6_pair 319 = .ok (.dload 6, 2) := by decide +kernel
theorem dX6_pair_321 : decode cX6_pair 321 = .ok (.ldc2_w 163, 3) := by decide +kernel
theorem dX6_pair_324 : decode cX6_pair 324 = .ok (.aload_n 0, 1) := by decide +kernel
theorem dX6_pair_325 : decode cX6_pair 325 = .ok (.getfield 30, 3) := by decide +kernel
theorem dX6_pair_328 : decode cX6_pair 328 = .ok (.iconst 3, 1) := by decide +kernel
theorem dX6_pair_329 : decode cX6_pair 329 = .ok (.aaload, 1) := by decide +kernel
theorem dX6_pair_330 : decode cX6_pair 330 = .ok (.getfield 144, 3) := by decide +kernel
theorem dX6_pair_333 : decode cX6_pair 333 = .ok (.iload 5, 2) := by decide +kernel
theorem dX6_pair_335 : decode cX6_pair 335 = .ok (.daload, 1) := by decide +kernel
theorem dX6_pair_336 : decode cX6_pair 336 = .ok (.dmul, 1) := by decide +kernel
theorem dX6_pair_337 : decode cX6_pair 337 = .ok (.invokevirtual 154, 3) := by decide +kernel
theorem dX6_pair_340 : decode cX6_pair 340 = .ok (.dstore 6, 2) := by decide +kernel
theorem dX6_pair_342 : decode cX6_pair 342 = .ok (.aload_n 0, 1) := by decide +kernel
theorem dX6_pair_343 : decode cX6_pair 343 = .ok (.getfield 9, 3) := by decide +kernel
theorem dX6_pair_346 : decode cX6_pair 346 = .ok (.aload_n 0, 1) := by decide +kernel
theorem dX6_pair_347 : decode cX6_pair 347 = .ok (.getfield 52, 3) := by decide +kernel
theorem dX6_pair_350 : decode cX6_pair 350 = .ok (.ldc2_w 169, 3) := by decide +kernel
theorem dX6_pair_353 : decode cX6_pair 353 = .ok (.ddiv, 1) := by decide +kernel
theorem dX6_pair_354 : decode cX6_pair 354 = .ok (.dload 6, 2) := by decide +kernel
theorem dX6_pair_356 : decode cX6_pair 356 = .ok (.invokevirtual 119, 3) := by decide +kernel
theorem dX6_pair_359 : decode cX6_pair 359 = .ok (.dstore 8, 2) := by decide +kernel
theorem dX6_pair_361 : decode cX6_pair 361 = .ok (.aload_n 0, 1) := by decide +kernel
theorem dX6_pair_362 : decode cX6_pair 362 = .ok (.getfield 34, 3) := by decide +kernel
theorem dX6_pair_365 : decode cX6_pair 365 = .ok (.iload 5, 2) := by decide +kernel
theorem dX6_pair_367 : decode cX6_pair 367 = .ok (.dload 8, 2) := by decide +kernel
theorem dX6_pair_369 : decode cX6_pair 369 = .ok (.aload_n 0, 1) := by decide +kernel
theorem dX6_pair_370 : decode cX6_pair 370 = .ok (.getfield 9, 3) := by decide +kernel
theorem dX6_pair_373 : decode cX6_pair 373 = .ok (.getfield 130, 3) := by decide +kernel
theorem dX6_pair_376 : decode cX6_pair 376 = .ok (.iconst 0, 1) := by decide +kernel
theorem dX6_pair_377 : decode cX6_pair 377 = .ok (.invokevirtual 137, 3) := by decide +kernel
theorem dX6_pair_380 : decode cX6_pair 380 = .ok (.iinc 5 1, 3) := by decide +kernel
theorem dX6_pair_383 : decode cX6_pair 383 = .ok (.goto (-155), 3) := by decide +kernel
theorem dX6_pair_386 : decode cX6_pair 386 = .ok (.aload_n 0, 1) := by decide +kernel
theorem dX6_pair_387 : decode cX6_pair 387 = .ok (.getfield 34, 3) := by decide +kernel
theorem dX6_pair_390 : decode cX6_pair 390 = .ok (.aload_n 0, 1) := by decide +kernel
theorem dX6_pair_391 : decode cX6_pair 391 = .ok (.getfield 40, 3) := by decide +kernel
theorem dX6_pair_394 : decode cX6_pair 394 = .ok (.getfield 95, 3) := by decide +kernel
theorem dX6_pair_397 : decode cX6_pair 397 = .ok (.invokevirtual 100, 3) := by decide +kernel
theorem dX6_pair_400 : decode cX6_pair 400 = .ok (.ireturn, 1) := by decide +kernel
theorem dX6_backward_0 : decode cX6_backward 0 = .ok (.aload_n 0, 1) := by decide +kernel
theorem dX6_backward_1 : decode cX6_backward 1 = .ok (.aload_n 0, 1) := by decide +kernel
theorem dX6_backward_2 : decode cX6_backward 2 = .ok (.getfield 24, 3) := by decide +kernel
theorem dX6_backward_5 : decode cX6_backward 5 = .ok (.aload_n 0, 1) := by decide +kernel
theorem dX6_backward_6 : decode cX6_backward 6 = .ok (.getfield 52, 3) := by decide +kernel
theorem dX6_backward_9 : decode cX6_backward 9 = .ok (.iconst 0, 1) := by decide +kernel
theorem dX6_backward_10 : decode cX6_backward 10 = .ok (.invokevirtual 72, 3) := by decide +kernel
theorem dX6_backward_13 : decode cX6_backward 13 = .ok (.iconst 0, 1) := by decide +kernel
theorem dX6_backward_14 : decode cX6_backward 14 = .ok (.istore_n 1, 1) := by decide +kernel
theorem dX6_backward_15 : decode cX6_backward 15 = .ok (.iload_n 1, 1) := by decide +kernel
theorem dX6_backward_16 : decode cX6_backward 16 = .ok (.bipush 6, 2) := by decide +kernel
theorem dX6_backward_18 : decode cX6_backward 18 = .ok (.if_icmp .ge 64, 3) := by decide +kernel
theorem dX6_backward_21 : decode cX6_backward 21 = .ok (.aload_n 0, 1) := by decide +kernel
theorem dX6_backward_22 : decode cX6_backward 22 = .ok (.iconst 1, 1) := by decide +kernel
theorem dX6_backward_23 : decode cX6_backward 23 = .ok (.aload_n 0, 1) := by decide +kernel
theorem dX6_backward_24 : decode cX6_backward 24 = .ok (.getfield 48, 3) := by decide +kernel
theorem dX6_backward_27 : decode cX6_backward 27 = .ok (.aload_n 0, 1) := by decide +kernel
theorem dX6_backward_28 : decode cX6_backward 28 = .ok (.getfield 52, 3) := by decide +kernel
theorem dX6_backward_31 : decode cX6_backward 31 = .ok (.dadd, 1) := by decide +kernel
theorem dX6_backward_32 : decode cX6_backward 32 = .ok (.aload_n 0, 1) := by decide +kernel
theorem dX6_backward_33 : decode cX6_backward 33 = .ok (.getfield 24, 3) := by decide +kernel
theorem dX6_backward_36 : decode cX6_backward 36 = .ok (.invokevirtual 68, 3) := by decide +kernel
theorem dX6_backward_39 : decode cX6_backward 39 = .ok (.ifCond .ne 5, 3) := by decide +kernel
theorem dX6_backward_42 : decode cX6_backward 42 = .ok (.iconst 0, 1) := by decide +kernel
theorem dX6_backward_43 : decode cX6_backward 43 = .ok (.ireturn, 1) := by decide +kernel
theorem dX6_backward_44 : decode cX6_backward 44 = .ok (.aload_n 0, 1) := by decide +kernel
theorem dX6_backward_45 : decode cX6_backward 45 = .ok (.aload_n 0, 1) := by decide +kernel
theorem dX6_backward_46 : decode cX6_backward 46 = .ok (.getfield 27, 3) := by decide +kernel
theorem dX6_backward_49 : decode cX6_backward 49 = .ok (.aload_n 0, 1) := by decide +kernel
theorem dX6_backward_50 : decode cX6_backward 50 = .ok (.getfield 52, 3) := by decide +kernel
theorem dX6_backward_53 : decode cX6_backward 53 = .ok (.iconst 1, 1) := by decide +kernel
theorem dX6_backward_54 : decode cX6_backward 54 = .ok (.invokevirtual 72, 3) := by decide +kernel
theorem dX6_backward_57 : decode cX6_backward 57 = .ok (.aload_n 0, 1) := by decide +kernel
theorem dX6_backward_58 : decode cX6_backward 58 = .ok (.aload_n 0, 1) := by decide +kernel
theorem dX6_backward_59 : decode cX6_backward 59 = .ok (.invokevirtual 171, 3) := by decide +kernel
theorem dX6_backward_62 : decode cX6_backward 62 = .ok (.putfield 65, 3) := by decide +kernel
theorem dX6_backward_65 : decode cX6_backward 65 = .ok (.aload_n 0, 1) := by decide +kernel
theorem dX6_backward_66 : decode cX6_backward 66 = .ok (.getfield 24, 3) := by decide +kernel
theorem dX6_backward_69 : decode cX6_backward 69 = .ok (.aload_n 0, 1) := by decide +kernel
theorem dX6_backward_70 : decode cX6_backward 70 = .ok (.getfield 27, 3) := by decide +kernel
theorem dX6_backward_73 : decode cX6_backward 73 = .ok (.invokevirtual 58, 3) := by decide +kernel
theorem dX6_backward_76 : decode cX6_backward 76 = .ok (.iinc 1 1, 3) := by decide +kernel
theorem dX6_backward_79 : decode cX6_backward 79 = .ok (.goto (-64), 3) := by decide +kernel
theorem dX6_backward_82 : decode cX6_backward 82 = .ok (.iconst 1, 1) := by decide +kernel
theorem dX6_backward_83 : decode cX6_backward 83 = .ok (.ireturn, 1) := by decide +kernel
theorem dX6_unlikeCount_0 : decode cX6_unlikeCount 0 = .ok (.iconst 0, 1) := by decide +kernel
theorem dX6_unlikeCount_1 : decode cX6_unlikeCount 1 = .ok (.istore_n 1, 1) := by decide +kernel
theorem dX6_unlikeCount_2 : decode cX6_unlikeCount 2 = .ok (.iconst 0, 1) := by decide +kernel
theorem dX6_unlikeCount_3 : decode cX6_unlikeCount 3 = .ok (.istore_n 2, 1) := by decide +kernel
theorem dX6_unlikeCount_4 : decode cX6_unlikeCount 4 = .ok (.iload_n 2, 1) := by decide +kernel
theorem dX6_unlikeCount_5 : decode cX6_unlikeCount 5 = .ok (.aload_n 0, 1) := by decide +kernel
theorem dX6_unlikeCount_6 : decode cX6_unlikeCount 6 = .ok (.getfield 40, 3) := by decide +kernel
theorem dX6_unlikeCount_9 : decode cX6_unlikeCount 9 = .ok (.getfield 95, 3) := by decide +kernel
theorem dX6_unlikeCount_12 : decode cX6_unlikeCount 12 = .ok (.if_icmp .ge 58, 3) := by decide +kernel
theorem dX6_unlikeCount_15 : decode cX6_unlikeCount 15 = .ok (.aload_n 0, 1) := by decide +kernel
theorem dX6_unlikeCount_16 : decode cX6_unlikeCount 16 = .ok (.getfield 24, 3) := by decide +kernel
theorem dX6_unlikeCount_19 : decode cX6_unlikeCount 19 = .ok (.getfield 175, 3) := by decide +kernel
theorem dX6_unlikeCount_22 : decode cX6_unlikeCount 22 = .ok (.iload_n 2, 1) := by decide +kernel
theorem dX6_unlikeCount_23 : decode cX6_unlikeCount 23 = .ok (.baload, 1) := by decide +kernel
theorem dX6_unlikeCount_24 : decode cX6_unlikeCount 24 = .ok (.ifCond .ne 37, 3) := by decide +kernel
theorem dX6_unlikeCount_27 : decode cX6_unlikeCount 27 = .ok (.aload_n 0, 1) := by decide +kernel
theorem dX6_unlikeCount_28 : decode cX6_unlikeCount 28 = .ok (.getfield 27, 3) := by decide +kernel
theorem dX6_unlikeCount_31 : decode cX6_unlikeCount 31 = .ok (.getfield 175, 3) := by decide +kernel
theorem dX6_unlikeCount_34 : decode cX6_unlikeCount 34 = .ok (.iload_n 2, 1) := by decide +kernel
theorem dX6_unlikeCount_35 : decode cX6_unlikeCount 35 = .ok (.baload, 1) := by decide +kernel
theorem dX6_unlikeCount_36 : decode cX6_unlikeCount 36 = .ok (.ifCond .ne 25, 3) := by decide +kernel
theorem dX6_unlikeCount_39 : decode cX6_unlikeCount 39 = .ok (.aload_n 0, 1) := by decide +kernel
theorem dX6_unlikeCount_40 : decode cX6_unlikeCount 40 = .ok (.getfield 24, 3) := by decide +kernel
theorem dX6_unlikeCount_43 : decode cX6_unlikeCount 43 = .ok (.getfield 144, 3) := by decide +kernel
theorem dX6_unlikeCount_46 : decode cX6_unlikeCount 46 = .ok (.iload_n 2, 1) := by decide +kernel
theorem dX6_unlikeCount_47 : decode cX6_unlikeCount 47 = .ok (.daload, 1) := by decide +kernel
theorem dX6_unlikeCount_48 : decode cX6_unlikeCount 48 = .ok (.aload_n 0, 1) := by decide +kernel
theorem dX6_unlikeCount_49 : decode cX6_unlikeCount 49 = .ok (.getfield 27, 3) := by decide +kernel
theorem dX6_unlikeCount_52 : decode cX6_unlikeCount 52 = .ok (.getfield 144, 3) := by decide +kernel
theorem dX6_unlikeCount_55 : decode cX6_unlikeCount 55 = .ok (.iload_n 2, 1) := by decide +kernel
theorem dX6_unlikeCount_56 : decode cX6_unlikeCount 56 = .ok (.daload, 1) := by decide +kernel
theorem dX6_unlikeCount_57 : decode cX6_unlikeCount 57 = .ok (.dcmp .l, 1) := by decide +kernel
theorem dX6_unlikeCount_58 : decode cX6_unlikeCount 58 = .ok (.ifCond .eq 6, 3) := by decide +kernel
theorem dX6_unlikeCount_61 : decode cX6_unlikeCount 61 = .ok (.iinc 1 1, 3) := by decide +kernel
theorem dX6_unlikeCount_64 : decode cX6_unlikeCount 64 = .ok (.iinc 2 1, 3) := by decide +kernel
theorem dX6_unlikeCount_67 : decode cX6_unlikeCount 67 = .ok (.goto (-63), 3) := by decide +kernel
theorem dX6_unlikeCount_70 : decode cX6_unlikeCount 70 = .ok (.iload_n 1, 1) := by decide +kernel
theorem dX6_unlikeCount_71 : decode cX6_unlikeCount 71 = .ok (.ireturn, 1) := by decide +kernel
theorem dX6_leap_0 : decode cX6_leap 0 = .ok (.aload_n 0, 1) := by decide +kernel
theorem dX6_leap_1 : decode cX6_leap 1 = .ok (.getfield 52, 3) := by decide +kernel
theorem dX6_leap_4 : decode cX6_leap 4 = .ok (.ldc2_w 152, 3) := by decide +kernel
theorem dX6_leap_7 : decode cX6_leap 7 = .ok (.ddiv, 1) := by decide +kernel
theorem dX6_leap_8 : decode cX6_leap 8 = .ok (.dstore_n 1, 1) := by decide +kernel
theorem dX6_leap_9 : decode cX6_leap 9 = .ok (.aload_n 0, 1) := by decide +kernel
theorem dX6_leap_10 : decode cX6_leap 10 = .ok (.getfield 40, 3) := by decide +kernel
theorem dX6_leap_13 : decode cX6_leap 13 = .ok (.getfield 95, 3) := by decide +kernel
theorem dX6_leap_16 : decode cX6_leap 16 = .ok (.iconst 2, 1) := by decide +kernel
theorem dX6_leap_17 : decode cX6_leap 17 = .ok (.idiv, 1) := by decide +kernel
theorem dX6_leap_18 : decode cX6_leap 18 = .ok (.istore_n 3, 1) := by decide +kernel
theorem dX6_leap_19 : decode cX6_leap 19 = .ok (.aload_n 0, 1) := by decide +kernel
theorem dX6_leap_20 : decode cX6_leap 20 = .ok (.getfield 24, 3) := by decide +kernel
theorem dX6_leap_23 : decode cX6_leap 23 = .ok (.aload_n 0, 1) := by decide +kernel
theorem dX6_leap_24 : decode cX6_leap 24 = .ok (.getfield 20, 3) := by decide +kernel
theorem dX6_leap_27 : decode cX6_leap 27 = .ok (.invokevirtual 58, 3) := by decide +kernel
theorem dX6_leap_30 : decode cX6_leap 30 = .ok (.iload_n 3, 1) := by decide +kernel
theorem dX6_leap_31 : decode cX6_leap 31 = .ok (.istore 4, 2) := by decide +kernel
theorem dX6_leap_33 : decode cX6_leap 33 = .ok (.iload 4, 2) := by decide +kernel
theorem dX6_leap_35 : decode cX6_leap 35 = .ok (.aload_n 0, 1) := by decide +kernel
theorem dX6_leap_36 : decode cX6_leap 36 = .ok (.getfield 40, 3) := by decide +kernel
theorem dX6_leap_39 : decode cX6_leap 39 = .ok (.getfield 95, 3) := by decide +kernel
theorem dX6_leap_42 : decode cX6_leap 42 = .ok (.if_icmp .ge 43, 3) := by decide +kernel
theorem dX6_leap_45 : decode cX6_leap 45 = .ok (.aload_n 0, 1) := by decide +kernel
theorem dX6_leap_46 : decode cX6_leap 46 = .ok (.getfield 9, 3) := by decide +kernel
theorem dX6_leap_49 : decode cX6_leap 49 = .ok (.invokevirtual 141, 3) := by decide +kernel
theorem dX6_leap_52 : decode cX6_leap 52 = .ok (.aload_n 0, 1) := by decide +kernel
theorem dX6_leap_53 : decode cX6_leap 53 = .ok (.aload_n 0, 1) := by decide +kernel
theorem dX6_leap_54 : decode cX6_leap 54 = .ok (.getfield 24, 3) := by decide +kernel
theorem dX6_leap_57 : decode cX6_leap 57 = .ok (.iload 4, 2) := by decide +kernel
theorem dX6_leap_59 : decode cX6_leap 59 = .ok (.aload_n 0, 1) := by decide +kernel
theorem dX6_leap_60 : decode cX6_leap 60 = .ok (.getfield 20, 3) := by decide +kernel
theorem dX6_leap_63 : decode cX6_leap 63 = .ok (.dload_n 1, 1) := by decide +kernel
theorem dX6_leap_64 : decode cX6_leap 64 = .ok (.aload_n 0, 1) := by decide +kernel
theorem dX6_leap_65 : decode cX6_leap 65 = .ok (.getfield 30, 3) := by decide +kernel
theorem dX6_leap_68 : decode cX6_leap 68 = .ok (.iconst 0, 1) := by decide +kernel
theorem dX6_leap_69 : decode cX6_leap 69 = .ok (.aaload, 1) := by decide +kernel
theorem dX6_leap_70 : decode cX6_leap 70 = .ok (.getfield 144, 3) := by decide +kernel
theorem dX6_leap_73 : decode cX6_leap 73 = .ok (.iload 4, 2) := by decide +kernel
theorem dX6_leap_75 : decode cX6_leap 75 = .ok (.daload, 1) := by decide +kernel
theorem dX6_leap_76 : decode cX6_leap 76 = .ok (.invokevirtual 148, 3) := by decide +kernel
theorem dX6_leap_79 : decode cX6_leap 79 = .ok (.iinc 4 1, 3) := by decide +kernel
theorem dX6_leap_82 : decode cX6_leap 82 = .ok (.goto (-49), 3) := by decide +kernel
theorem dX6_leap_85 : decode cX6_leap 85 = .ok (.aload_n 0, 1) := by decide +kernel
theorem dX6_leap_86 : decode cX6_leap 86 = .ok (.iconst 1, 1) := by decide +kernel
theorem dX6_leap_87 : decode cX6_leap 87 = .ok (.aload_n 0, 1) := by decide +kernel
theorem dX6_leap_88 : decode cX6_leap 88 = .ok (.getfield 48, 3) := by decide +kernel
theorem dX6_leap_91 : decode cX6_leap 91 = .ok (.dload_n 1, 1) := by decide +kernel
theorem dX6_leap_92 : decode cX6_leap 92 = .ok (.dadd, 1) := by decide +kernel
theorem dX6_leap_93 : decode cX6_leap 93 = .ok (.aload_n 0, 1) := by decide +kernel
theorem dX6_leap_94 : decode cX6_leap 94 = .ok (.getfield 24, 3) := by decide +kernel
theorem dX6_leap_97 : decode cX6_leap 97 = .ok (.invokevirtual 68, 3) := by decide +kernel
theorem dX6_leap_100 : decode cX6_leap 100 = .ok (.ifCond .ne 5, 3) := by decide +kernel
theorem dX6_leap_103 : decode cX6_leap 103 = .ok (.iconst 0, 1) := by decide +kernel
theorem dX6_leap_104 : decode cX6_leap 104 = .ok (.ireturn, 1) := by decide +kernel
theorem dX6_leap_105 : decode cX6_leap 105 = .ok (.aload_n 0, 1) := by decide +kernel
theorem dX6_leap_106 : decode cX6_leap 106 = .ok (.getfield 27, 3) := by decide +kernel
theorem dX6_leap_109 : decode cX6_leap 109 = .ok (.aload_n 0, 1) := by decide +kernel
theorem dX6_leap_110 : decode cX6_leap 110 = .ok (.getfield 24, 3) := by decide +kernel
theorem dX6_leap_113 : decode cX6_leap 113 = .ok (.invokevirtual 58, 3) := by decide +kernel
theorem dX6_leap_116 : decode cX6_leap 116 = .ok (.iconst 0, 1) := by decide +kernel
theorem dX6_leap_117 : decode cX6_leap 117 = .ok (.istore 4, 2) := by decide +kernel
theorem dX6_leap_119 : decode cX6_leap 119 = .ok (.iload 4, 2) := by decide +kernel
theorem dX6_leap_121 : decode cX6_leap 121 = .ok (.iload_n 3, 1) := by decide +kernel
theorem dX6_leap_122 : decode cX6_leap 122 = .ok (.if_icmp .ge 46, 3) := by decide +kernel
theorem dX6_leap_125 : decode cX6_leap 125 = .ok (.aload_n 0, 1) := by decide +kernel
theorem dX6_leap_126 : decode cX6_leap 126 = .ok (.getfield 9, 3) := by decide +kernel
theorem dX6_leap_129 : decode cX6_leap 129 = .ok (.invokevirtual 141, 3) := by decide +kernel
theorem dX6_leap_132 : decode cX6_leap 132 = .ok (.aload_n 0, 1) := by decide +kernel
theorem dX6_leap_133 : decode cX6_leap 133 = .ok (.aload_n 0, 1) := by decide +kernel
theorem dX6_leap_134 : decode cX6_leap 134 = .ok (.getfield 27, 3) := by decide +kernel
theorem dX6_leap_137 : decode cX6_leap 137 = .ok (.iload 4, 2) := by decide +kernel
theorem dX6_leap_139 : decode cX6_leap 139 = .ok (.aload_n 0, 1) := by decide +kernel
theorem dX6_leap_140 : decode cX6_leap 140 = .ok (.getfield 20, 3) := by decide +kernel
theorem dX6_leap_143 : decode cX6_leap 143 = .ok (.aload_n 0, 1) := by decide +kernel
theorem dX6_leap_144 : decode cX6_leap 144 = .ok (.getfield 52, 3) := by decide +kernel
theorem dX6_leap_147 : decode cX6_leap 147 = .ok (.aload_n 0, 1) := by decide +kernel
theorem dX6_leap_148 : decode cX6_leap 148 = .ok (.getfield 30, 3) := by decide +kernel
theorem dX6_leap_151 : decode cX6_leap 151 = .ok (.iconst 1, 1) := by decide +kernel
theorem dX6_leap_152 : decode cX6_leap 152 = .ok (.aaload, 1) := by decide +kernel
theorem dX6_leap_153 : decode cX6_leap 153 = .ok (.getfield 144, 3) := by decide +kernel
theorem dX6_leap_156 : decode cX6_leap 156 = .ok (.iload 4, 2) := by decide +kernel
theorem dX6_leap_158 : decode cX6_leap 158 = .ok (.daload, 1) := by decide +kernel
theorem dX6_leap_159 : decode cX6_leap 159 = .ok (.invokevirtual 148, 3) := by decide +kernel
theorem dX6_leap_162 : decode cX6_leap 162 = .ok (.iinc 4 1, 3) := by decide +kernel
theorem dX6_leap_165 : decode cX6_leap 165 = .ok (.goto (-46), 3) := by decide +kernel
theorem dX6_leap_168 : decode cX6_leap 168 = .ok (.aload_n 0, 1) := by decide +kernel
theorem dX6_leap_169 : decode cX6_leap 169 = .ok (.iconst 2, 1) := by decide +kernel
theorem dX6_leap_170 : decode cX6_leap 170 = .ok (.aload_n 0, 1) := by decide +kernel
theorem dX6_leap_171 : decode cX6_leap 171 = .ok (.getfield 48, 3) := by decide +kernel
theorem dX6_leap_174 : decode cX6_leap 174 = .ok (.aload_n 0, 1) := by decide +kernel
theorem dX6_leap_175 : decode cX6_leap 175 = .ok (.getfield 52, 3) := by decide +kernel
theorem dX6_leap_178 : decode cX6_leap 178 = .ok (.dadd, 1) := by decide +kernel
theorem dX6_leap_179 : decode cX6_leap 179 = .ok (.aload_n 0, 1) := by decide +kernel
theorem dX6_leap_180 : decode cX6_leap 180 = .ok (.getfield 27, 3) := by decide +kernel
theorem dX6_leap_183 : decode cX6_leap 183 = .ok (.invokevirtual 68, 3) := by decide +kernel
theorem dX6_leap_186 : decode cX6_leap 186 = .ok (.ifCond .ne 5, 3) := by decide +kernel
theorem dX6_leap_189 : decode cX6_leap 189 = .ok (.iconst 0, 1) := by decide +kernel
theorem dX6_leap_190 : decode cX6_leap 190 = .ok (.ireturn, 1) := by decide +kernel
theorem dX6_leap_191 : decode cX6_leap 191 = .ok (.iload_n 3, 1) := by decide +kernel
theorem dX6_leap_192 : decode cX6_leap 192 = .ok (.istore 4, 2) := by decide +kernel
theorem dX6_leap_194 : decode cX6_leap 194 = .ok (.iload 4, 2) := by decide +kernel
theorem dX6_leap_196 : decode cX6_leap 196 = .ok (.aload_n 0, 1) := by decide +kernel
theorem dX6_leap_197 : decode cX6_leap 197 = .ok (.getfield 40, 3) := by decide +kernel
theorem dX6_leap_200 : decode cX6_leap 200 = .ok (.getfield 95, 3) := by decide +kernel
theorem dX6_leap_203 : decode cX6_leap 203 = .ok (.if_icmp .ge 43, 3) := by decide +kernel
theorem dX6_leap_206 : decode cX6_leap 206 = .ok (.aload_n 0, 1) := by decide +kernel
theorem dX6_leap_207 : decode cX6_leap 207 = .ok (.getfield 9, 3) := by decide +kernel
theorem dX6_leap_210 : decode cX6_leap 210 = .ok (.invokevirtual 141, 3) := by decide +kernel
theorem dX6_leap_213 : decode cX6_leap 213 = .ok (.aload_n 0, 1) := by decide +kernel
theorem dX6_leap_214 : decode cX6_leap 214 = .ok (.aload_n 0, 1) := by decide +kernel
theorem dX6_leap_215 : decode cX6_leap 215 = .ok (.getfield 27, 3) := by decide +kernel
theorem dX6_leap_218 : decode cX6_leap 218 = .ok (.iload 4, 2) := by decide +kernel
theorem dX6_leap_220 : decode cX6_leap 220 = .ok (.aload_n 0, 1) := by decide +kernel
theorem dX6_leap_221 : decode cX6_leap 221 = .ok (.getfield 24, 3) := by decide +kernel
theorem dX6_leap_224 : decode cX6_leap 224 = .ok (.dload_n 1, 1) := by decide +kernel
theorem dX6_leap_225 : decode cX6_leap 225 = .ok (.aload_n 0, 1) := by decide +kernel
theorem dX6_leap_226 : decode cX6_leap 226 = .ok (.getfield 30, 3) := by decide +kernel
theorem dX6_leap_229 : decode cX6_leap 229 = .ok (.iconst 2, 1) := by decide +kernel
theorem dX6_leap_230 : decode cX6_leap 230 = .ok (.aaload, 1) := by decide +kernel
theorem dX6_leap_231 : decode cX6_leap 231 = .ok (.getfield 144, 3) := by decide +kernel
theorem dX6_leap_234 : decode cX6_leap 234 = .ok (.iload 4, 2) := by decide +kernel
theorem dX6_leap_236 : decode cX6_leap 236 = .ok (.daload, 1) := by decide +kernel
theorem dX6_leap_237 : decode cX6_leap 237 = .ok (.invokevirtual 148, 3) := by decide +kernel
theorem dX6_leap_240 : decode cX6_leap 240 = .ok (.iinc 4 1, 3) := by decide +kernel
theorem dX6_leap_243 : decode cX6_leap 243 = .ok (.goto (-49), 3) := by decide +kernel
theorem dX6_leap_246 : decode cX6_leap 246 = .ok (.iconst 1, 1) := by decide +kernel
theorem dX6_leap_247 : decode cX6_leap 247 = .ok (.ireturn, 1) := by decide +kernel
theorem dX6_judge_0 : decode cX6_judge 0 = .ok (.iconst 0, 1) := by decide +kernel
theorem dX6_judge_1 : decode cX6_judge 1 = .ok (.istore 5, 2) := by decide +kernel
theorem dX6_judge_3 : decode cX6_judge 3 = .ok (.iload 5, 2) := by decide +kernel
theorem dX6_judge_5 : decode cX6_judge 5 = .ok (.aload_n 0, 1) := by decide +kernel
theorem dX6_judge_6 : decode cX6_judge 6 = .ok (.getfield 40, 3) := by decide +kernel
theorem dX6_judge_9 : decode cX6_judge 9 = .ok (.getfield 95, 3) := by decide +kernel
theorem dX6_judge_12 : decode cX6_judge 12 = .ok (.if_icmp .ge 101, 3) := by decide +kernel
theorem dX6_judge_15 : decode cX6_judge 15 = .ok (.aload_n 0, 1) := by decide +kernel
theorem dX6_judge_16 : decode cX6_judge 16 = .ok (.getfield 20, 3) := by decide +kernel
theorem dX6_judge_19 : decode cX6_judge 19 = .ok (.getfield 144, 3) := by decide +kernel
theorem dX6_judge_22 : decode cX6_judge 22 = .ok (.iload 5, 2) := by decide +kernel
theorem dX6_judge_24 : decode cX6_judge 24 = .ok (.daload, 1) := by decide +kernel
theorem dX6_judge_25 : decode cX6_judge 25 = .ok (.invokestatic 178, 3) := by decide +kernel
theorem dX6_judge_28 : decode cX6_judge 28 = .ok (.dstore 6, 2) := by decide +kernel
theorem dX6_judge_30 : decode cX6_judge 30 = .ok (.aload_n 0, 1) := by decide +kernel
theorem dX6_judge_31 : decode cX6_judge 31 = .ok (.getfield 27, 3) := by decide +kernel
theorem dX6_judge_34 : decode cX6_judge 34 = .ok (.getfield 144, 3) := by decide +kernel
theorem dX6_judge_37 : decode cX6_judge 37 = .ok (.iload 5, 2) := by decide +kernel
theorem dX6_judge_39 : decode cX6_judge 39 = .ok (.daload, 1) := by decide +kernel
theorem dX6_judge_40 : decode cX6_judge 40 = .ok (.invokestatic 178, 3) := by decide +kernel
theorem dX6_judge_43 : decode cX6_judge 43 = .ok (.dstore 8, 2) := by decide +kernel
theorem dX6_judge_45 : decode cX6_judge 45 = .ok (.dload_n 1, 1) := by decide +kernel
theorem dX6_judge_46 : decode cX6_judge 46 = .ok (.dload_n 3, 1) := by decide +kernel
theorem dX6_judge_47 : decode cX6_judge 47 = .ok (.dload 6, 2) := by decide +kernel
theorem dX6_judge_49 : decode cX6_judge 49 = .ok (.dload 8, 2) := by decide +kernel
theorem dX6_judge_51 : decode cX6_judge 51 = .ok (.dcmp .l, 1) := by decide +kernel
theorem dX6_judge_52 : decode cX6_judge 52 = .ok (.ifCond .lt 8, 3) := by decide +kernel
theorem dX6_judge_55 : decode cX6_judge 55 = .ok (.dload 6, 2) := by decide +kernel
theorem dX6_judge_57 : decode cX6_judge 57 = .ok (.goto 5, 3) := by decide +kernel
theorem dX6_judge_60 : decode cX6_judge 60 = .ok (.dload 8, 2) := by decide +kernel
theorem dX6_judge_62 : decode cX6_judge 62 = .ok (.dmul, 1) := by decide +kernel
theorem dX6_judge_63 : decode cX6_judge 63 = .ok (.dadd, 1) := by decide +kernel
theorem dX6_judge_64 : decode cX6_judge 64 = .ok (.dstore 10, 2) := by decide +kernel
theorem dX6_judge_66 : decode cX6_judge 66 = .ok (.aload_n 0, 1) := by decide +kernel
theorem dX6_judge_67 : decode cX6_judge 67 = .ok (.getfield 34, 3) := by decide +kernel
theorem dX6_judge_70 : decode cX6_judge 70 = .ok (.getfield 144, 3) := by decide +kernel
