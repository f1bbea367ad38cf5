theorem dX5_init_0 : decode cX5_init 0 = .ok (.aload_n 0, 1) := by decide +kernel
theorem dX5_init_1 : decode cX5_init 1 = .ok (.invokespecial 1, 3) := by decide +kernel
theorem dX5_init_4 : decode cX5_init 4 = .ok (.aload_n 0, 1) := by decide +kernel
theorem dX5_init_5 : decode cX5_init 5 = .ok (.new 7, 3) := by decide +kernel
theorem dX5_init_8 : decode cX5_init 8 = .ok (.dup, 1) := by decide +kernel
theorem dX5_init_9 : decode cX5_init 9 = .ok (.invokespecial 9, 3) := by decide +kernel
theorem dX5_init_12 : decode cX5_init 12 = .ok (.putfield 10, 3) := by decide +kernel
theorem dX5_init_15 : decode cX5_init 15 = .ok (.aload_n 0, 1) := by decide +kernel
theorem dX5_init_16 : decode cX5_init 16 = .ok (.new 16, 3) := by decide +kernel
theorem dX5_init_19 : decode cX5_init 19 = .ok (.dup, 1) := by decide +kernel
theorem dX5_init_20 : decode cX5_init 20 = .ok (.invokespecial 18, 3) := by decide +kernel
theorem dX5_init_23 : decode cX5_init 23 = .ok (.putfield 19, 3) := by decide +kernel
theorem dX5_init_26 : decode cX5_init 26 = .ok (.aload_n 0, 1) := by decide +kernel
theorem dX5_init_27 : decode cX5_init 27 = .ok (.new 23, 3) := by decide +kernel
theorem dX5_init_30 : decode cX5_init 30 = .ok (.dup, 1) := by decide +kernel
theorem dX5_init_31 : decode cX5_init 31 = .ok (.invokespecial 25, 3) := by decide +kernel
theorem dX5_init_34 : decode cX5_init 34 = .ok (.putfield 26, 3) := by decide +kernel
theorem dX5_init_37 : decode cX5_init 37 = .ok (.aload_n 0, 1) := by decide +kernel
theorem dX5_init_38 : decode cX5_init 38 = .ok (.new 30, 3) := by decide +kernel
theorem dX5_init_41 : decode cX5_init 41 = .ok (.dup, 1) := by decide +kernel
theorem dX5_init_42 : decode cX5_init 42 = .ok (.invokespecial 32, 3) := by decide +kernel
theorem dX5_init_45 : decode cX5_init 45 = .ok (.putfield 33, 3) := by decide +kernel
theorem dX5_init_48 : decode cX5_init 48 = .ok (.aload_n 0, 1) := by decide +kernel
theorem dX5_init_49 : decode cX5_init 49 = .ok (.iconst 4, 1) := by decide +kernel
theorem dX5_init_50 : decode cX5_init 50 = .ok (.anewarray 30, 3) := by decide +kernel
theorem dX5_init_53 : decode cX5_init 53 = .ok (.putfield 37, 3) := by decide +kernel
theorem dX5_init_56 : decode cX5_init 56 = .ok (.iconst 0, 1) := by decide +kernel
theorem dX5_init_57 : decode cX5_init 57 = .ok (.istore_n 1, 1) := by decide +kernel
theorem dX5_init_58 : decode cX5_init 58 = .ok (.iload_n 1, 1) := by decide +kernel
theorem dX5_init_59 : decode cX5_init 59 = .ok (.iconst 4, 1) := by decide +kernel
theorem dX5_init_60 : decode cX5_init 60 = .ok (.if_icmp .ge 22, 3) := by decide +kernel
theorem dX5_init_63 : decode cX5_init 63 = .ok (.aload_n 0, 1) := by decide +kernel
theorem dX5_init_64 : decode cX5_init 64 = .ok (.getfield 37, 3) := by decide +kernel
theorem dX5_init_67 : decode cX5_init 67 = .ok (.iload_n 1, 1) := by decide +kernel
theorem dX5_init_68 : decode cX5_init 68 = .ok (.new 30, 3) := by decide +kernel
theorem dX5_init_71 : decode cX5_init 71 = .ok (.dup, 1) := by decide +kernel
theorem dX5_init_72 : decode cX5_init 72 = .ok (.invokespecial 32, 3) := by decide +kernel
theorem dX5_init_75 : decode cX5_init 75 = .ok (.aastore, 1) := by decide +kernel
theorem dX5_init_76 : decode cX5_init 76 = .ok (.iinc 1 1, 3) := by decide +kernel
theorem dX5_init_79 : decode cX5_init 79 = .ok (.goto (-21), 3) := by decide +kernel
theorem dX5_init_82 : decode cX5_init 82 = .ok (.return_, 1) := by decide +kernel
theorem dX5_letter_0 : decode cX5_letter 0 = .ok (.iload_n 1, 1) := by decide +kernel
theorem dX5_letter_1 : decode cX5_letter 1 = .ok (.bipush 32, 2) := by decide +kernel
theorem dX5_letter_3 : decode cX5_letter 3 = .ok (.bipush 126, 2) := by decide +kernel
theorem dX5_letter_5 : decode cX5_letter 5 = .ok (.invokestatic 41, 3) := by decide +kernel
theorem dX5_letter_8 : decode cX5_letter 8 = .ok (.ifCond .ne 6, 3) := by decide +kernel
theorem dX5_letter_11 : decode cX5_letter 11 = .ok (.ldc 45, 2) := by decide +kernel
theorem dX5_letter_13 : decode cX5_letter 13 = .ok (.ireturn, 1) := by decide +kernel
theorem dX5_letter_14 : decode cX5_letter 14 = .ok (.aload_n 0, 1) := by decide +kernel
theorem dX5_letter_15 : decode cX5_letter 15 = .ok (.getfield 10, 3) := by decide +kernel
theorem dX5_letter_18 : decode cX5_letter 18 = .ok (.iload_n 1, 1) := by decide +kernel
theorem dX5_letter_19 : decode cX5_letter 19 = .ok (.invokevirtual 46, 3) := by decide +kernel
theorem dX5_letter_22 : decode cX5_letter 22 = .ok (.ifCond .eq 13, 3) := by decide +kernel
theorem dX5_letter_25 : decode cX5_letter 25 = .ok (.aload_n 0, 1) := by decide +kernel
theorem dX5_letter_26 : decode cX5_letter 26 = .ok (.getfield 10, 3) := by decide +kernel
theorem dX5_letter_29 : decode cX5_letter 29 = .ok (.invokevirtual 50, 3) := by decide +kernel
theorem dX5_letter_32 : decode cX5_letter 32 = .ok (.goto 5, 3) := by decide +kernel
theorem dX5_letter_35 : decode cX5_letter 35 = .ok (.ldc 54, 2) := by decide +kernel
theorem dX5_letter_37 : decode cX5_letter 37 = .ok (.ireturn, 1) := by decide +kernel
theorem dX5_blank_0 : decode cX5_blank 0 = .ok (.aload_n 0, 1) := by decide +kernel
theorem dX5_blank_1 : decode cX5_blank 1 = .ok (.getfield 10, 3) := by decide +kernel
theorem dX5_blank_4 : decode cX5_blank 4 = .ok (.invokevirtual 50, 3) := by decide +kernel
theorem dX5_blank_7 : decode cX5_blank 7 = .ok (.istore_n 1, 1) := by decide +kernel
theorem dX5_blank_8 : decode cX5_blank 8 = .ok (.aload_n 0, 1) := by decide +kernel
theorem dX5_blank_9 : decode cX5_blank 9 = .ok (.getfield 10, 3) := by decide +kernel
theorem dX5_blank_12 : decode cX5_blank 12 = .ok (.invokevirtual 55, 3) := by decide +kernel
theorem dX5_blank_15 : decode cX5_blank 15 = .ok (.iload_n 1, 1) := by decide +kernel
theorem dX5_blank_16 : decode cX5_blank 16 = .ok (.ireturn, 1) := by decide +kernel
theorem dX5_fault_0 : decode cX5_fault 0 = .ok (.aload_n 0, 1) := by decide +kernel
theorem dX5_fault_1 : decode cX5_fault 1 = .ok (.getfield 10, 3) := by decide +kernel
theorem dX5_fault_4 : decode cX5_fault 4 = .ok (.invokevirtual 58, 3) := by decide +kernel
theorem dX5_fault_7 : decode cX5_fault 7 = .ok (.ireturn, 1) := by decide +kernel
theorem dX5_take_0 : decode cX5_take 0 = .ok (.aload_n 0, 1) := by decide +kernel
theorem dX5_take_1 : decode cX5_take 1 = .ok (.getfield 10, 3) := by decide +kernel
theorem dX5_take_4 : decode cX5_take 4 = .ok (.invokevirtual 61, 3) := by decide +kernel
theorem dX5_take_7 : decode cX5_take 7 = .ok (.istore_n 1, 1) := by decide +kernel
theorem dX5_take_8 : decode cX5_take 8 = .ok (.iload_n 1, 1) := by decide +kernel
theorem dX5_take_9 : decode cX5_take 9 = .ok (.ifCond .ne 6, 3) := by decide +kernel
theorem dX5_take_12 : decode cX5_take 12 = .ok (.ldc 64, 2) := by decide +kernel
theorem dX5_take_14 : decode cX5_take 14 = .ok (.ireturn, 1) := by decide +kernel
theorem dX5_take_15 : decode cX5_take 15 = .ok (.aload_n 0, 1) := by decide +kernel
theorem dX5_take_16 : decode cX5_take 16 = .ok (.invokevirtual 65, 3) := by decide +kernel
theorem dX5_take_19 : decode cX5_take 19 = .ok (.ifCond .eq 6, 3) := by decide +kernel
theorem dX5_take_22 : decode cX5_take 22 = .ok (.ldc 54, 2) := by decide +kernel
theorem dX5_take_24 : decode cX5_take 24 = .ok (.ireturn, 1) := by decide +kernel
theorem dX5_take_25 : decode cX5_take 25 = .ok (.aload_n 0, 1) := by decide +kernel
theorem dX5_take_26 : decode cX5_take 26 = .ok (.getfield 37, 3) := by decide +kernel
theorem dX5_take_29 : decode cX5_take 29 = .ok (.aload_n 0, 1) := by decide +kernel
theorem dX5_take_30 : decode cX5_take 30 = .ok (.getfield 69, 3) := by decide +kernel
theorem dX5_take_33 : decode cX5_take 33 = .ok (.aaload, 1) := by decide +kernel
theorem dX5_take_34 : decode cX5_take 34 = .ok (.aload_n 0, 1) := by decide +kernel
theorem dX5_take_35 : decode cX5_take 35 = .ok (.getfield 10, 3) := by decide +kernel
theorem dX5_take_38 : decode cX5_take 38 = .ok (.iload_n 1, 1) := by decide +kernel
theorem dX5_take_39 : decode cX5_take 39 = .ok (.invokevirtual 73, 3) := by decide +kernel
theorem dX5_take_42 : decode cX5_take 42 = .ok (.aload_n 0, 1) := by decide +kernel
theorem dX5_take_43 : decode cX5_take 43 = .ok (.getfield 10, 3) := by decide +kernel
theorem dX5_take_46 : decode cX5_take 46 = .ok (.invokevirtual 55, 3) := by decide +kernel
theorem dX5_take_49 : decode cX5_take 49 = .ok (.aload_n 0, 1) := by decide +kernel
theorem dX5_take_50 : decode cX5_take 50 = .ok (.dup, 1) := by decide +kernel
theorem dX5_take_51 : decode cX5_take 51 = .ok (.getfield 77, 3) := by decide +kernel
theorem dX5_take_54 : decode cX5_take 54 = .ok (.iconst 1, 1) := by decide +kernel
theorem dX5_take_55 : decode cX5_take 55 = .ok (.iadd, 1) := by decide +kernel
theorem dX5_take_56 : decode cX5_take 56 = .ok (.putfield 77, 3) := by decide +kernel
theorem dX5_take_59 : decode cX5_take 59 = .ok (.aload_n 0, 1) := by decide +kernel
theorem dX5_take_60 : decode cX5_take 60 = .ok (.dup, 1) := by decide +kernel
theorem dX5_take_61 : decode cX5_take 61 = .ok (.getfield 69, 3) := by decide +kernel
theorem dX5_take_64 : decode cX5_take 64 = .ok (.dup_x1, 1) := by decide +kernel
theorem dX5_take_65 : decode cX5_take 65 = .ok (.iconst 1, 1) := by decide +kernel
theorem dX5_take_66 : decode cX5_take 66 = .ok (.iadd, 1) := by decide +kernel
theorem dX5_take_67 : decode cX5_take 67 = .ok (.putfield 69, 3) := by decide +kernel
theorem dX5_take_70 : decode cX5_take 70 = .ok (.ireturn, 1) := by decide +kernel
theorem dX5_drop_0 : decode cX5_drop 0 = .ok (.aload_n 0, 1) := by decide +kernel
theorem dX5_drop_1 : decode cX5_drop 1 = .ok (.iload_n 1, 1) := by decide +kernel
theorem dX5_drop_2 : decode cX5_drop 2 = .ok (.invokevirtual 80, 3) := by decide +kernel
theorem dX5_drop_5 : decode cX5_drop 5 = .ok (.ifCond .ne 6, 3) := by decide +kernel
theorem dX5_drop_8 : decode cX5_drop 8 = .ok (.ldc 83, 2) := by decide +kernel
theorem dX5_drop_10 : decode cX5_drop 10 = .ok (.ireturn, 1) := by decide +kernel
theorem dX5_drop_11 : decode cX5_drop 11 = .ok (.aload_n 0, 1) := by decide +kernel
theorem dX5_drop_12 : decode cX5_drop 12 = .ok (.getfield 37, 3) := by decide +kernel
theorem dX5_drop_15 : decode cX5_drop 15 = .ok (.iload_n 1, 1) := by decide +kernel
theorem dX5_drop_16 : decode cX5_drop 16 = .ok (.aaload, 1) := by decide +kernel
theorem dX5_drop_17 : decode cX5_drop 17 = .ok (.astore_n 2, 1) := by decide +kernel
theorem dX5_drop_18 : decode cX5_drop 18 = .ok (.iload_n 1, 1) := by decide +kernel
theorem dX5_drop_19 : decode cX5_drop 19 = .ok (.iconst 1, 1) := by decide +kernel
theorem dX5_drop_20 : decode cX5_drop 20 = .ok (.iadd, 1) := by decide +kernel
theorem dX5_drop_21 : decode cX5_drop 21 = .ok (.istore_n 3, 1) := by decide +kernel
theorem dX5_drop_22 : decode cX5_drop 22 = .ok (.iload_n 3, 1) := by decide +kernel
theorem dX5_drop_23 : decode cX5_drop 23 = .ok (.aload_n 0, 1) := by decide +kernel
theorem dX5_drop_24 : decode cX5_drop 24 = .ok (.getfield 69, 3) := by decide +kernel
theorem dX5_drop_27 : decode cX5_drop 27 = .ok (.if_icmp .ge 23, 3) := by decide +kernel
theorem dX5_drop_30 : decode cX5_drop 30 = .ok (.aload_n 0, 1) := by decide +kernel
theorem dX5_drop_31 : decode cX5_drop 31 = .ok (.getfield 37, 3) := by decide +kernel
theorem dX5_drop_34 : decode cX5_drop 34 = .ok (.iload_n 3, 1) := by decide +kernel
theorem dX5_drop_35 : decode cX5_drop 35 = .ok (.iconst 1, 1) := by decide +kernel
theorem dX5_drop_36 : decode cX5_drop 36 = .ok (.isub, 1) := by decide +kernel
theorem dX5_drop_37 : decode cX5_drop 37 = .ok (.aload_n 0, 1) := by decide +kernel
theorem dX5_drop_38 : decode cX5_drop 38 = .ok (.getfield 37, 3) := by decide +kernel
theorem dX5_drop_41 : decode cX5_drop 41 = .ok (.iload_n 3, 1) := by decide +kernel
theorem dX5_drop_42 : decode cX5_drop 42 = .ok (.aaload, 1) := by decide +kernel
theorem dX5_drop_43 : decode cX5_drop 43 = .ok (.aastore, 1) := by decide +kernel
theorem dX5_drop_44 : decode cX5_drop 44 = .ok (.iinc 3 1, 3) := by decide +kernel
theorem dX5_drop_47 : decode cX5_drop 47 = .ok (.goto (-25), 3) := by decide +kernel
theorem dX5_drop_50 : decode cX5_drop 50 = .ok (.aload_n 0, 1) := by decide +kernel
theorem dX5_drop_51 : decode cX5_drop 51 = .ok (.dup, 1) := by decide +kernel
theorem dX5_drop_52 : decode cX5_drop 52 = .ok (.getfield 69, 3) := by decide +kernel
theorem dX5_drop_55 : decode cX5_drop 55 = .ok (.iconst 1, 1) := by decide +kernel
theorem dX5_drop_56 : decode cX5_drop 56 = .ok (.isub, 1) := by decide +kernel
theorem dX5_drop_57 : decode cX5_drop 57 = .ok (.putfield 69, 3) := by decide +kernel
theorem dX5_drop_60 : decode cX5_drop 60 = .ok (.aload_n 0, 1) := by decide +kernel
theorem dX5_drop_61 : decode cX5_drop 61 = .ok (.getfield 37, 3) := by decide +kernel
theorem dX5_drop_64 : decode cX5_drop 64 = .ok (.aload_n 0, 1) := by decide +kernel
theorem dX5_drop_65 : decode cX5_drop 65 = .ok (.getfield 69, 3) := by decide +kernel
theorem dX5_drop_68 : decode cX5_drop 68 = .ok (.aload_n 2, 1) := by decide +kernel
theorem dX5_drop_69 : decode cX5_drop 69 = .ok (.aastore, 1) := by decide +kernel
theorem dX5_drop_70 : decode cX5_drop 70 = .ok (.aload_n 0, 1) := by decide +kernel
theorem dX5_drop_71 : decode cX5_drop 71 = .ok (.dup, 1) := by decide +kernel
theorem dX5_drop_72 : decode cX5_drop 72 = .ok (.getfield 84, 3) := by decide +kernel
theorem dX5_drop_75 : decode cX5_drop 75 = .ok (.iconst 1, 1) := by decide +kernel
theorem dX5_drop_76 : decode cX5_drop 76 = .ok (.iadd, 1) := by decide +kernel
theorem dX5_drop_77 : decode cX5_drop 77 = .ok (.putfield 84, 3) := by decide +kernel
theorem dX5_drop_80 : decode cX5_drop 80 = .ok (.aload_n 0, 1) := by decide +kernel
theorem dX5_drop_81 : decode cX5_drop 81 = .ok (.getfield 69, 3) := by decide +kernel
theorem dX5_drop_84 : decode cX5_drop 84 = .ok (.ireturn, 1) := by decide +kernel
theorem dX5_turn_0 : decode cX5_turn 0 = .ok (.aload_n 0, 1) := by decide +kernel
theorem dX5_turn_1 : decode cX5_turn 1 = .ok (.iload_n 1, 1) := by decide +kernel
theorem dX5_turn_2 : decode cX5_turn 2 = .ok (.invokevirtual 80, 3) := by decide +kernel
theorem dX5_turn_5 : decode cX5_turn 5 = .ok (.ifCond .ne 6, 3) := by decide +kernel
theorem dX5_turn_8 : decode cX5_turn 8 = .ok (.ldc 83, 2) := by decide +kernel
theorem dX5_turn_10 : decode cX5_turn 10 = .ok (.ireturn, 1) := by decide +kernel
theorem dX5_turn_11 : decode cX5_turn 11 = .ok (.iload_n 2, 1) := by decide +kernel
theorem dX5_turn_12 : decode cX5_turn 12 = .ok (.iconst 0, 1) := by decide +kernel
theorem dX5_turn_13 : decode cX5_turn 13 = .ok (.iconst 3, 1) := by decide +kernel
theorem dX5_turn_14 : decode cX5_turn 14 = .ok (.invokestatic 41, 3) := by decide +kernel
theorem dX5_turn_17 : decode cX5_turn 17 = .ok (.ifCond .ne 6, 3) := by decide +kernel
theorem dX5_turn_20 : decode cX5_turn 20 = .ok (.ldc 45, 2) := by decide +kernel
theorem dX5_turn_22 : decode cX5_turn 22 = .ok (.ireturn, 1) := by decide +kernel
theorem dX5_turn_23 : decode cX5_turn 23 = .ok (.aload_n 0, 1) := by decide +kernel
theorem dX5_turn_24 : decode cX5_turn 24 = .ok (.invokevirtual 65, 3) := by decide +kernel
theorem dX5_turn_27 : decode cX5_turn 27 = .ok (.ifCond .eq 6, 3) := by decide +kernel
theorem dX5_turn_30 : decode cX5_turn 30 = .ok (.ldc 54, 2) := by decide +kernel
theorem dX5_turn_32 : decode cX5_turn 32 = .ok (.ireturn, 1) := by decide +kernel
theorem dX5_turn_33 : decode cX5_turn 33 = .ok (.aload_n 0, 1) := by decide +kernel
theorem dX5_turn_34 : decode cX5_turn 34 = .ok (.getfield 37, 3) := by decide +kernel
theorem dX5_turn_37 : decode cX5_turn 37 = .ok (.aload_n 0, 1) := by decide +kernel
theorem dX5_turn_38 : decode cX5_turn 38 = .ok (.getfield 69, 3) := by decide +kernel
theorem dX5_turn_41 : decode cX5_turn 41 = .ok (.aaload, 1) := by decide +kernel
theorem dX5_turn_42 : decode cX5_turn 42 = .ok (.aload_n 0, 1) := by decide +kernel
theorem dX5_turn_43 : decode cX5_turn 43 = .ok (.getfield 37, 3) := by decide +kernel
theorem dX5_turn_46 : decode cX5_turn 46 = .ok (.iload_n 1, 1) := by decide +kernel
theorem dX5_turn_47 : decode cX5_turn 47 = .ok (.aaload, 1) := by decide +kernel
theorem dX5_turn_48 : decode cX5_turn 48 = .ok (.iload_n 2, 1) := by decide +kernel
theorem dX5_turn_49 : decode cX5_turn 49 = .ok (.iload_n 3, 1) := by decide +kernel
theorem dX5_turn_50 : decode cX5_turn 50 = .ok (.invokevirtual 87, 3) := by decide +kernel
theorem dX5_turn_53 : decode cX5_turn 53 = .ok (.aload_n 0, 1) := by decide +kernel
theorem dX5_turn_54 : decode cX5_turn 54 = .ok (.dup, 1) := by decide +kernel
theorem dX5_turn_55 : decode cX5_turn 55 = .ok (.getfield 91, 3) := by decide +kernel
theorem dX5_turn_58 : decode cX5_turn 58 = .ok (.iconst 1, 1) := by decide +kernel
theorem dX5_turn_59 : decode cX5_turn 59 = .ok (.iadd, 1) := by decide +kernel
theorem dX5_turn_60 : decode cX5_turn 60 = .ok (.putfield 91, 3) := by decide +kernel
theorem dX5_turn_63 : decode cX5_turn 63 = .ok (.aload_n 0, 1) := by decide +kernel
theorem dX5_turn_64 : decode cX5_turn 64 = .ok (.dup, 1) := by decide +kernel
theorem dX5_turn_65 : decode cX5_turn 65 = .ok (.getfield 69, 3) := by decide +kernel
theorem dX5_turn_68 : decode cX5_turn 68 = .ok (.dup_x1, 1) := by decide +kernel
theorem dX5_turn_69 : decode cX5_turn 69 = .ok (.iconst 1, 1) := by decide +kernel
theorem dX5_turn_70 : decode cX5_turn 70 = .ok (.iadd, 1) := by decide +kernel
theorem dX5_turn_71 : decode cX5_turn 71 = .ok (.putfield 69, 3) := by decide +kernel
theorem dX5_turn_74 : decode cX5_turn 74 = .ok (.ireturn, 1) := by decide +kernel
theorem dX5_bend_0 : decode cX5_bend 0 = .ok (.aload_n 0, 1) := by decide +kernel
theorem dX5_bend_1 : decode cX5_bend 1 = .ok (.iload_n 1, 1) := by decide +kernel
theorem dX5_bend_2 : decode cX5_bend 2 = .ok (.invokevirtual 80, 3) := by decide +kernel
theorem dX5_bend_5 : decode cX5_bend 5 = .ok (.ifCond .ne 6, 3) := by decide +kernel
theorem dX5_bend_8 : decode cX5_bend 8 = .ok (.ldc 83, 2) := by decide +kernel
theorem dX5_bend_10 : decode cX5_bend 10 = .ok (.ireturn, 1) := by decide +kernel
theorem dX5_bend_11 : decode cX5_bend 11 = .ok (.iload_n 2, 1) := by decide +kernel
theorem dX5_bend_12 : decode cX5_bend 12 = .ok (.bipush (-2), 2) := by decide +kernel
theorem dX5_bend_14 : decode cX5_bend 14 = .ok (.iconst 2, 1) := by decide +kernel
theorem dX5_bend_15 : decode cX5_bend 15 = .ok (.invokestatic 41, 3) := by decide +kernel
theorem dX5_bend_18 : decode cX5_bend 18 = .ok (.ifCond .eq 13, 3) := by decide +kernel
theorem dX5_bend_21 : decode cX5_bend 21 = .ok (.iload_n 3, 1) := by decide +kernel
theorem dX5_bend_22 : decode cX5_bend 22 = .ok (.bipush (-2), 2) := by decide +kernel
theorem dX5_bend_24 : decode cX5_bend 24 = .ok (.iconst 2, 1) := by decide +kernel
theorem dX5_bend_25 : decode cX5_bend 25 = .ok (.invokestatic 41, 3) := by decide +kernel
theorem dX5_bend_28 : decode cX5_bend 28 = .ok (.ifCond .ne 6, 3) := by decide +kernel
theorem dX5_bend_31 : decode cX5_bend 31 = .ok (.ldc 45, 2) := by decide +kernel
theorem dX5_bend_33 : decode cX5_bend 33 = .ok (.ireturn, 1) := by decide +kernel
theorem dX5_bend_34 : decode cX5_bend 34 = .ok (.aload_n 0, 1) := by decide +kernel
theorem dX5_bend_35 : decode cX5_bend 35 = .ok (.getfield 33, 3) := by decide +kernel
theorem dX5_bend_38 : decode cX5_bend 38 = .ok (.astore 4, 2) := by decide +kernel
theorem dX5_bend_40 : decode cX5_bend 40 = .ok (.aload 4, 2) := by decide +kernel
theorem dX5_bend_42 : decode cX5_bend 42 = .ok (.aload_n 0, 1) := by decide +kernel
theorem dX5_bend_43 : decode cX5_bend 43 = .ok (.getfield 37, 3) := by decide +kernel
theorem dX5_bend_46 : decode cX5_bend 46 = .ok (.iload_n 1, 1) := by decide +kernel
theorem dX5_bend_47 : decode cX5_bend 47 = .ok (.aaload, 1) := by decide +kernel
theorem dX5_bend_48 : decode cX5_bend 48 = .ok (.iload_n 2, 1) := by decide +kernel
theorem dX5_bend_49 : decode cX5_bend 49 = .ok (.iload_n 3, 1) := by decide +kernel
theorem dX5_bend_50 : decode cX5_bend 50 = .ok (.invokevirtual 94, 3) := by decide +kernel
theorem dX5_bend_53 : decode cX5_bend 53 = .ok (.aload_n 0, 1) := by decide +kernel
theorem dX5_bend_54 : decode cX5_bend 54 = .ok (.aload_n 0, 1) := by decide +kernel
theorem dX5_bend_55 : decode cX5_bend 55 = .ok (.getfield 37, 3) := by decide +kernel
theorem dX5_bend_58 : decode cX5_bend 58 = .ok (.iload_n 1, 1) := by decide +kernel
theorem dX5_bend_59 : decode cX5_bend 59 = .ok (.aaload, 1) := by decide +kernel
theorem dX5_bend_60 : decode cX5_bend 60 = .ok (.putfield 33, 3) := by decide +kernel
theorem dX5_bend_63 : decode cX5_bend 63 = .ok (.aload_n 0, 1) := by decide +kernel
theorem dX5_bend_64 : decode cX5_bend 64 = .ok (.getfield 37, 3) := by decide +kernel
theorem dX5_bend_67 : decode cX5_bend 67 = .ok (.iload_n 1, 1) := by decide +kernel
theorem dX5_bend_68 : decode cX5_bend 68 = .ok (.aload 4, 2) := by decide +kernel
theorem dX5_bend_70 : decode cX5_bend 70 = .ok (.aastore, 1) := by decide +kernel
theorem dX5_bend_71 : decode cX5_bend 71 = .ok (.aload 4, 2) := by decide +kernel
theorem dX5_bend_73 : decode cX5_bend 73 = .ok (.invokevirtual 98, 3) := by decide +kernel
theorem dX5_bend_76 : decode cX5_bend 76 = .ok (.ireturn, 1) := by decide +kernel
theorem dX5_head_0 : decode cX5_head 0 = .ok (.aload_n 0, 1) := by decide +kernel
theorem dX5_head_1 : decode cX5_head 1 = .ok (.iload_n 1, 1) := by decide +kernel
theorem dX5_head_2 : decode cX5_head 2 = .ok (.invokevirtual 80, 3) := by decide +kernel
theorem dX5_head_5 : decode cX5_head 5 = .ok (.ifCond .ne 6, 3) := by decide +kernel
theorem dX5_head_8 : decode cX5_head 8 = .ok (.ldc 83, 2) := by decide +kernel
theorem dX5_head_10 : decode cX5_head 10 = .ok (.ireturn, 1) := by decide +kernel
theorem dX5_head_11 : decode cX5_head 11 = .ok (.iload_n 2, 1) := by decide +kernel
theorem dX5_head_12 : decode cX5_head 12 = .ok (.iconst 0, 1) := by decide +kernel
theorem dX5_head_13 : decode cX5_head 13 = .ok (.iconst 4, 1) := by decide +kernel
theorem dX5_head_14 : decode cX5_head 14 = .ok (.invokestatic 41, 3) := by decide +kernel
theorem dX5_head_17 : decode cX5_head 17 = .ok (.ifCond .eq 16, 3) := by decide +kernel
theorem dX5_head_20 : decode cX5_head 20 = .ok (.aload_n 0, 1) := by decide +kernel
theorem dX5_head_21 : decode cX5_head 21 = .ok (.getfield 37, 3) := by decide +kernel
theorem dX5_head_24 : decode cX5_head 24 = .ok (.iload_n 1, 1) := by decide +kernel
theorem dX5_head_25 : decode cX5_head 25 = .ok (.aaload, 1) := by decide +kernel
theorem dX5_head_26 : decode cX5_head 26 = .ok (.iload_n 2, 1) := by decide +kernel
theorem dX5_head_27 : decode cX5_head 27 = .ok (.invokevirtual 101, 3) := by decide +kernel
theorem dX5_head_30 : decode cX5_head 30 = .ok (.goto 5, 3) := by decide +kernel
theorem dX5_head_33 : decode cX5_head 33 = .ok (.ldc 45, 2) := by decide +kernel
theorem dX5_head_35 : decode cX5_head 35 = .ok (.ireturn, 1) := by decide +kernel
theorem dX5_depth_0 : decode cX5_depth 0 = .ok (.aload_n 0, 1) := by decide +kernel
theorem dX5_depth_1 : decode cX5_depth 1 = .ok (.iload_n 1, 1) := by decide +kernel
theorem dX5_depth_2 : decode cX5_depth 2 = .ok (.invokevirtual 80, 3) := by decide +kernel
theorem dX5_depth_5 : decode cX5_depth 5 = .ok (.ifCond .ne 6, 3) := by decide +kernel
theorem dX5_depth_8 : decode cX5_depth 8 = .ok (.ldc 83, 2) := by decide +kernel
theorem dX5_depth_10 : decode cX5_depth 10 = .ok (.ireturn, 1) := by decide +kernel
theorem dX5_depth_11 : decode cX5_depth 11 = .ok (.iload_n 2, 1) := by decide +kernel
theorem dX5_depth_12 : decode cX5_depth 12 = .ok (.bipush (-3), 2) := by decide +kernel
theorem dX5_depth_14 : decode cX5_depth 14 = .ok (.iconst 3, 1) := by decide +kernel
theorem dX5_depth_15 : decode cX5_depth 15 = .ok (.invokestatic 41, 3) := by decide +kernel
theorem dX5_depth_18 : decode cX5_depth 18 = .ok (.ifCond .eq 13, 3) := by decide +kernel
theorem dX5_depth_21 : decode cX5_depth 21 = .ok (.iload_n 3, 1) := by decide +kernel
theorem dX5_depth_22 : decode cX5_depth 22 = .ok (.bipush (-3), 2) := by decide +kernel
theorem dX5_depth_24 : decode cX5_depth 24 = .ok (.iconst 3, 1) := by decide +kernel
theorem dX5_depth_25 : decode cX5_depth 25 = .ok (.invokestatic 41, 3) := by decide +kernel
theorem dX5_depth_28 : decode cX5_depth 28 = .ok (.ifCond .ne 6, 3) := by decide +kernel
theorem dX5_depth_31 : decode cX5_depth 31 = .ok (.ldc 45, 2) := by decide +kernel
theorem dX5_depth_33 : decode cX5_depth 33 = .ok (.ireturn, 1) := by decide +kernel
theorem dX5_depth_34 : decode cX5_depth 34 = .ok (.aload_n 0, 1) := by decide +kernel
theorem dX5_depth_35 : decode cX5_depth 35 = .ok (.getfield 37, 3) := by decide +kernel
theorem dX5_depth_38 : decode cX5_depth 38 = .ok (.iload_n 1, 1) := by decide +kernel
theorem dX5_depth_39 : decode cX5_depth 39 = .ok (.aaload, 1) := by decide +kernel
theorem dX5_depth_40 : decode cX5_depth 40 = .ok (.iload_n 2, 1) := by decide +kernel
theorem dX5_depth_41 : decode cX5_depth 41 = .ok (.iload_n 3, 1) := by decide +kernel
theorem dX5_depth_42 : decode cX5_depth 42 = .ok (.invokevirtual 105, 3) := by decide +kernel
theorem dX5_depth_45 : decode cX5_depth 45 = .ok (.ireturn, 1) := by decide +kernel
theorem dX5_ground_0 : decode cX5_ground 0 = .ok (.aload_n 0, 1) := by decide +kernel
theorem dX5_ground_1 : decode cX5_ground 1 = .ok (.iload_n 1, 1) := by decide +kernel
theorem dX5_ground_2 : decode cX5_ground 2 = .ok (.invokevirtual 80, 3) := by decide +kernel
theorem dX5_ground_5 : decode cX5_ground 5 = .ok (.ifCond .ne 6, 3) := by decide +kernel
theorem dX5_ground_8 : decode cX5_ground 8 = .ok (.ldc 83, 2) := by decide +kernel
theorem dX5_ground_10 : decode cX5_ground 10 = .ok (.ireturn, 1) := by decide +kernel
theorem dX5_ground_11 : decode cX5_ground 11 = .ok (.iload_n 2, 1) := by decide +kernel
theorem dX5_ground_12 : decode cX5_ground 12 = .ok (.iload_n 3, 1) := by decide +kernel
theorem dX5_ground_13 : decode cX5_ground 13 = .ok (.iload 4, 2) := by decide +kernel
theorem dX5_ground_15 : decode cX5_ground 15 = .ok (.invokestatic 109, 3) := by decide +kernel
theorem dX5_ground_18 : decode cX5_ground 18 = .ok (.ifCond .eq 27, 3) := by decide +kernel
theorem dX5_ground_21 : decode cX5_ground 21 = .ok (.iload 5, 2) := by decide +kernel
theorem dX5_ground_23 : decode cX5_ground 23 = .ok (.bipush (-50), 2) := by decide +kernel
theorem dX5_ground_25 : decode cX5_ground 25 = .ok (.bipush 50, 2) := by decide +kernel
theorem dX5_ground_27 : decode cX5_ground 27 = .ok (.invokestatic 41, 3) := by decide +kernel
theorem dX5_ground_30 : decode cX5_ground 30 = .ok (.ifCond .eq 15, 3) := by decide +kernel
theorem dX5_ground_33 : decode cX5_ground 33 = .ok (.iload 6, 2) := by decide +kernel
theorem dX5_ground_35 : decode cX5_ground 35 = .ok (.bipush (-50), 2) := by decide +kernel
theorem dX5_ground_37 : decode cX5_ground 37 = .ok (.bipush 50, 2) := by decide +kernel
theorem dX5_ground_39 : decode cX5_ground 39 = .ok (.invokestatic 41, 3) := by decide +kernel
theorem dX5_ground_42 : decode cX5_ground 42 = .ok (.ifCond .ne 6, 3) := by decide +kernel
theorem dX5_ground_45 : decode cX5_ground 45 = .ok (.ldc 45, 2) := by decide +kernel
theorem dX5_ground_47 : decode cX5_ground 47 = .ok (.ireturn, 1) := by decide +kernel
theorem dX5_ground_48 : decode cX5_ground 48 = .ok (.aload_n 0, 1) := by decide +kernel
theorem dX5_ground_49 : decode cX5_ground 49 = .ok (.getfield 19, 3) := by decide +kernel
theorem dX5_ground_52 : decode cX5_ground 52 = .ok (.aload_n 0, 1) := by decide +kernel
theorem dX5_ground_53 : decode cX5_ground 53 = .ok (.getfield 37, 3) := by decide +kernel
theorem dX5_ground_56 : decode cX5_ground 56 = .ok (.iload_n 1, 1) := by decide +kernel
theorem dX5_ground_57 : decode cX5_ground 57 = .ok (.aaload, 1) := by decide +kernel
theorem dX5_ground_58 : decode cX5_ground 58 = .ok (.iload_n 2, 1) := by decide +kernel
theorem dX5_ground_59 : decode cX5_ground 59 = .ok (.iload_n 3, 1) := by decide +kernel
theorem dX5_ground_60 : decode cX5_ground 60 = .ok (.iload 4, 2) := by decide +kernel
theorem dX5_ground_62 : decode cX5_ground 62 = .ok (.invokevirtual 112, 3) := by decide +kernel
theorem dX5_ground_65 : decode cX5_ground 65 = .ok (.aload_n 0, 1) := by decide +kernel
theorem dX5_ground_66 : decode cX5_ground 66 = .ok (.getfield 19, 3) := by decide +kernel
theorem dX5_ground_69 : decode cX5_ground 69 = .ok (.iload 5, 2) := by decide +kernel
theorem dX5_ground_71 : decode cX5_ground 71 = .ok (.iload 6, 2) := by decide +kernel
theorem dX5_ground_73 : decode cX5_ground 73 = .ok (.invokevirtual 116, 3) := by decide +kernel
theorem dX5_ground_76 : decode cX5_ground 76 = .ok (.ireturn, 1) := by decide +kernel
theorem dX5_tile_0 : decode cX5_tile 0 = .ok (.aload_n 0, 1) := by decide +kernel
theorem dX5_tile_1 : decode cX5_tile 1 = .ok (.iload_n 1, 1) := by decide +kernel
theorem dX5_tile_2 : decode cX5_tile 2 = .ok (.invokevirtual 80, 3) := by decide +kernel
theorem dX5_tile_5 : decode cX5_tile 5 = .ok (.ifCond .ne 6, 3) := by decide +kernel
theorem dX5_tile_8 : decode cX5_tile 8 = .ok (.ldc 83, 2) := by decide +kernel
theorem dX5_tile_10 : decode cX5_tile 10 = .ok (.ireturn, 1) := by decide +kernel
theorem dX5_tile_11 : decode cX5_tile 11 = .ok (.iload_n 2, 1) := by decide +kernel
theorem dX5_tile_12 : decode cX5_tile 12 = .ok (.iload_n 3, 1) := by decide +kernel
theorem dX5_tile_13 : decode cX5_tile 13 = .ok (.iload 4, 2) := by decide +kernel
theorem dX5_tile_15 : decode cX5_tile 15 = .ok (.invokestatic 109, 3) := by decide +kernel
theorem dX5_tile_18 : decode cX5_tile 18 = .ok (.ifCond .eq 14, 3) := by decide +kernel
theorem dX5_tile_21 : decode cX5_tile 21 = .ok (.iload 5, 2) := by decide +kernel
theorem dX5_tile_23 : decode cX5_tile 23 = .ok (.iconst 0, 1) := by decide +kernel
theorem dX5_tile_24 : decode cX5_tile 24 = .ok (.bipush 7, 2) := by decide +kernel
theorem dX5_tile_26 : decode cX5_tile 26 = .ok (.invokestatic 41, 3) := by decide +kernel
theorem dX5_tile_29 : decode cX5_tile 29 = .ok (.ifCond .ne 6, 3) := by decide +kernel
theorem dX5_tile_32 : decode cX5_tile 32 = .ok (.ldc 45, 2) := by decide +kernel
theorem dX5_tile_34 : decode cX5_tile 34 = .ok (.ireturn, 1) := by decide +kernel
theorem dX5_tile_35 : decode cX5_tile 35 = .ok (.aload_n 0, 1) := by decide +kernel
theorem dX5_tile_36 : decode cX5_tile 36 = .ok (.getfield 19, 3) := by decide +kernel
theorem dX5_tile_39 : decode cX5_tile 39 = .ok (.aload_n 0, 1) := by decide +kernel
theorem dX5_tile_40 : decode cX5_tile 40 = .ok (.getfield 37, 3) := by decide +kernel
theorem dX5_tile_43 : decode cX5_tile 43 = .ok (.iload_n 1, 1) := by decide +kernel
theorem dX5_tile_44 : decode cX5_tile 44 = .ok (.aaload, 1) := by decide +kernel
theorem dX5_tile_45 : decode cX5_tile 45 = .ok (.iload_n 2, 1) := by decide +kernel
theorem dX5_tile_46 : decode cX5_tile 46 = .ok (.iload_n 3, 1) := by decide +kernel
theorem dX5_tile_47 : decode cX5_tile 47 = .ok (.iload 4, 2) := by decide +kernel
theorem dX5_tile_49 : decode cX5_tile 49 = .ok (.invokevirtual 112, 3) := by decide +kernel
theorem dX5_tile_52 : decode cX5_tile 52 = .ok (.aload_n 0, 1) := by decide +kernel
theorem dX5_tile_53 : decode cX5_tile 53 = .ok (.getfield 19, 3) := by decide +kernel
theorem dX5_tile_56 : decode cX5_tile 56 = .ok (.iload 5, 2) := by decide +kernel
theorem dX5_tile_58 : decode cX5_tile 58 = .ok (.invokevirtual 119, 3) := by decide +kernel
theorem dX5_tile_61 : decode cX5_tile 61 = .ok (.ireturn, 1) := by decide +kernel
theorem dX5_byTurns_0 : decode cX5_byTurns 0 = .ok (.aload_n 0, 1) := by decide +kernel
theorem dX5_byTurns_1 : decode cX5_byTurns 1 = .ok (.iload_n 1, 1) := by decide +kernel
theorem dX5_byTurns_2 : decode cX5_byTurns 2 = .ok (.invokevirtual 80, 3) := by decide +kernel
theorem dX5_byTurns_5 : decode cX5_byTurns 5 = .ok (.ifCond .eq 11, 3) := by decide +kernel
theorem dX5_byTurns_8 : decode cX5_byTurns 8 = .ok (.aload_n 0, 1) := by decide +kernel
theorem dX5_byTurns_9 : decode cX5_byTurns 9 = .ok (.iload_n 2, 1) := by decide +kernel
theorem dX5_byTurns_10 : decode cX5_byTurns 10 = .ok (.invokevirtual 80, 3) := by decide +kernel
theorem dX5_byTurns_13 : decode cX5_byTurns 13 = .ok (.ifCond .ne 6, 3) := by decide +kernel
theorem dX5_byTurns_16 : decode cX5_byTurns 16 = .ok (.ldc 83, 2) := by decide +kernel
theorem dX5_byTurns_18 : decode cX5_byTurns 18 = .ok (.ireturn, 1) := by decide +kernel
theorem dX5_byTurns_19 : decode cX5_byTurns 19 = .ok (.iload_n 3, 1) := by decide +kernel
theorem dX5_byTurns_20 : decode cX5_byTurns 20 = .ok (.invokestatic 120, 3) := by decide +kernel
theorem dX5_byTurns_23 : decode cX5_byTurns 23 = .ok (.ifCond .eq 22, 3) := by decide +kernel
theorem dX5_byTurns_26 : decode cX5_byTurns 26 = .ok (.iload 4, 2) := by decide +kernel
theorem dX5_byTurns_28 : decode cX5_byTurns 28 = .ok (.invokestatic 120, 3) := by decide +kernel
theorem dX5_byTurns_31 : decode cX5_byTurns 31 = .ok (.ifCond .eq 14, 3) := by decide +kernel
theorem dX5_byTurns_34 : decode cX5_byTurns 34 = .ok (.iload 5, 2) := by decide +kernel
theorem dX5_byTurns_36 : decode cX5_byTurns 36 = .ok (.iconst 0, 1) := by decide +kernel
theorem dX5_byTurns_37 : decode cX5_byTurns 37 = .ok (.bipush 7, 2) := by decide +kernel
theorem dX5_byTurns_39 : decode cX5_byTurns 39 = .ok (.invokestatic 41, 3) := by decide +kernel
theorem dX5_byTurns_42 : decode cX5_byTurns 42 = .ok (.ifCond .ne 6, 3) := by decide +kernel
theorem dX5_byTurns_45 : decode cX5_byTurns 45 = .ok (.ldc 45, 2) := by decide +kernel
theorem dX5_byTurns_47 : decode cX5_byTurns 47 = .ok (.ireturn, 1) := by decide +kernel
theorem dX5_byTurns_48 : decode cX5_byTurns 48 = .ok (.aload_n 0, 1) := by decide +kernel
theorem dX5_byTurns_49 : decode cX5_byTurns 49 = .ok (.getfield 19, 3) := by decide +kernel
theorem dX5_byTurns_52 : decode cX5_byTurns 52 = .ok (.aload_n 0, 1) := by decide +kernel
theorem dX5_byTurns_53 : decode cX5_byTurns 53 = .ok (.getfield 37, 3) := by decide +kernel
theorem dX5_byTurns_56 : decode cX5_byTurns 56 = .ok (.iload_n 1, 1) := by decide +kernel
theorem dX5_byTurns_57 : decode cX5_byTurns 57 = .ok (.aaload, 1) := by decide +kernel
theorem dX5_byTurns_58 : decode cX5_byTurns 58 = .ok (.aload_n 0, 1) := by decide +kernel
theorem dX5_byTurns_59 : decode cX5_byTurns 59 = .ok (.getfield 37, 3) := by decide +kernel
theorem dX5_byTurns_62 : decode cX5_byTurns 62 = .ok (.iload_n 2, 1) := by decide +kernel
theorem dX5_byTurns_63 : decode cX5_byTurns 63 = .ok (.aaload, 1) := by decide +kernel
theorem dX5_byTurns_64 : decode cX5_byTurns 64 = .ok (.iload_n 3, 1) := by decide +kernel
theorem dX5_byTurns_65 : decode cX5_byTurns 65 = .ok (.iload 4, 2) := by decide +kernel
theorem dX5_byTurns_67 : decode cX5_byTurns 67 = .ok (.invokevirtual 123, 3) := by decide +kernel
theorem dX5_byTurns_70 : decode cX5_byTurns 70 = .ok (.aload_n 0, 1) := by decide +kernel
theorem dX5_byTurns_71 : decode cX5_byTurns 71 = .ok (.getfield 19, 3) := by decide +kernel
theorem dX5_byTurns_74 : decode cX5_byTurns 74 = .ok (.iload 5, 2) := by decide +kernel
theorem dX5_byTurns_76 : decode cX5_byTurns 76 = .ok (.invokevirtual 119, 3) := by decide +kernel
theorem dX5_byTurns_79 : decode cX5_byTurns 79 = .ok (.ireturn, 1) := by decide +kernel
theorem dX5_best_0 : decode cX5_best 0 = .ok (.aload_n 0, 1) := by decide +kernel
theorem dX5_best_1 : decode cX5_best 1 = .ok (.iload_n 1, 1) := by decide +kernel
theorem dX5_best_2 : decode cX5_best 2 = .ok (.invokevirtual 80, 3) := by decide +kernel
theorem dX5_best_5 : decode cX5_best 5 = .ok (.ifCond .ne 6, 3) := by decide +kernel
theorem dX5_best_8 : decode cX5_best 8 = .ok (.ldc 83, 2) := by decide +kernel
theorem dX5_best_10 : decode cX5_best 10 = .ok (.ireturn, 1) := by decide +kernel
theorem dX5_best_11 : decode cX5_best 11 = .ok (.iload_n 2, 1) := by decide +kernel
theorem dX5_best_12 : decode cX5_best 12 = .ok (.iconst 0, 1) := by decide +kernel
theorem dX5_best_13 : decode cX5_best 13 = .ok (.bipush 99, 2) := by decide +kernel
theorem dX5_best_15 : decode cX5_best 15 = .ok (.invokestatic 41, 3) := by decide +kernel
theorem dX5_best_18 : decode cX5_best 18 = .ok (.ifCond .eq 12, 3) := by decide +kernel
theorem dX5_best_21 : decode cX5_best 21 = .ok (.iload_n 3, 1) := by decide +kernel
theorem dX5_best_22 : decode cX5_best 22 = .ok (.iconst 0, 1) := by decide +kernel
theorem dX5_best_23 : decode cX5_best 23 = .ok (.iconst 4, 1) := by decide +kernel
theorem dX5_best_24 : decode cX5_best 24 = .ok (.invokestatic 41, 3) := by decide +kernel
theorem dX5_best_27 : decode cX5_best 27 = .ok (.ifCond .ne 6, 3) := by decide +kernel
theorem dX5_best_30 : decode cX5_best 30 = .ok (.ldc 45, 2) := by decide +kernel
theorem dX5_best_32 : decode cX5_best 32 = .ok (.ireturn, 1) := by decide +kernel
theorem dX5_best_33 : decode cX5_best 33 = .ok (.aload_n 0, 1) := by decide +kernel
theorem dX5_best_34 : decode cX5_best 34 = .ok (.aload_n 0, 1) := by decide +kernel
theorem dX5_best_35 : decode cX5_best 35 = .ok (.getfield 37, 3) := by decide +kernel
theorem dX5_best_38 : decode cX5_best 38 = .ok (.iload_n 1, 1) := by decide +kernel
theorem dX5_best_39 : decode cX5_best 39 = .ok (.aaload, 1) := by decide +kernel
theorem dX5_best_40 : decode cX5_best 40 = .ok (.iload_n 2, 1) := by decide +kernel
theorem dX5_best_41 : decode cX5_best 41 = .ok (.invokevirtual 127, 3) := by decide +kernel
theorem dX5_best_44 : decode cX5_best 44 = .ok (.aload_n 0, 1) := by decide +kernel
theorem dX5_best_45 : decode cX5_best 45 = .ok (.getfield 26, 3) := by decide +kernel
theorem dX5_best_48 : decode cX5_best 48 = .ok (.iload_n 3, 1) := by decide +kernel
theorem dX5_best_49 : decode cX5_best 49 = .ok (.invokevirtual 131, 3) := by decide +kernel
theorem dX5_best_52 : decode cX5_best 52 = .ok (.ireturn, 1) := by decide +kernel
theorem dX5_field_0 : decode cX5_field 0 = .ok (.aload_n 0, 1) := by decide +kernel
theorem dX5_field_1 : decode cX5_field 1 = .ok (.iload_n 1, 1) := by decide +kernel
theorem dX5_field_2 : decode cX5_field 2 = .ok (.invokevirtual 80, 3) := by decide +kernel
theorem dX5_field_5 : decode cX5_field 5 = .ok (.ifCond .ne 6, 3) := by decide +kernel
theorem dX5_field_8 : decode cX5_field 8 = .ok (.ldc 83, 2) := by decide +kernel
theorem dX5_field_10 : decode cX5_field 10 = .ok (.ireturn, 1) := by decide +kernel
theorem dX5_field_11 : decode cX5_field 11 = .ok (.iload_n 2, 1) := by decide +kernel
theorem dX5_field_12 : decode cX5_field 12 = .ok (.invokestatic 120, 3) := by decide +kernel
theorem dX5_field_15 : decode cX5_field 15 = .ok (.ifCond .eq 30, 3) := by decide +kernel
theorem dX5_field_18 : decode cX5_field 18 = .ok (.iload_n 3, 1) := by decide +kernel
theorem dX5_field_19 : decode cX5_field 19 = .ok (.invokestatic 120, 3) := by decide +kernel
theorem dX5_field_22 : decode cX5_field 22 = .ok (.ifCond .eq 23, 3) := by decide +kernel
theorem dX5_field_25 : decode cX5_field 25 = .ok (.iload 4, 2) := by decide +kernel
theorem dX5_field_27 : decode cX5_field 27 = .ok (.iconst 2, 1) := by decide +kernel
theorem dX5_field_28 : decode cX5_field 28 = .ok (.iconst 3, 1) := by decide +kernel
theorem dX5_field_29 : decode cX5_field 29 = .ok (.invokestatic 41, 3) := by decide +kernel
theorem dX5_field_32 : decode cX5_field 32 = .ok (.ifCond .eq 13, 3) := by decide +kernel
theorem dX5_field_35 : decode cX5_field 35 = .ok (.iload 5, 2) := by decide +kernel
theorem dX5_field_37 : decode cX5_field 37 = .ok (.iconst 2, 1) := by decide +kernel
theorem dX5_field_38 : decode cX5_field 38 = .ok (.iconst 3, 1) := by decide +kernel
theorem dX5_field_39 : decode cX5_field 39 = .ok (.invokestatic 41, 3) := by decide +kernel
theorem dX5_field_42 : decode cX5_field 42 = .ok (.ifCond .ne 6, 3) := by decide +kernel
theorem dX5_field_45 : decode cX5_field 45 = .ok (.ldc 45, 2) := by decide +kernel
theorem dX5_field_47 : decode cX5_field 47 = .ok (.ireturn, 1) := by decide +kernel
theorem dX5_field_48 : decode cX5_field 48 = .ok (.iload 6, 2) := by decide +kernel
theorem dX5_field_50 : decode cX5_field 50 = .ok (.iload 4, 2) := by decide +kernel
theorem dX5_field_52 : decode cX5_field 52 = .ok (.iload 5, 2) := by decide +kernel
theorem dX5_field_54 : decode cX5_field 54 = .ok (.invokestatic 132, 3) := by decide +kernel
theorem dX5_field_57 : decode cX5_field 57 = .ok (.iconst (-1), 1) := by decide +kernel
theorem dX5_field_58 : decode cX5_field 58 = .ok (.ixor, 1) := by decide +kernel
theorem dX5_field_59 : decode cX5_field 59 = .ok (.iand, 1) := by decide +kernel
theorem dX5_field_60 : decode cX5_field 60 = .ok (.ifCond .ne 14, 3) := by decide +kernel
theorem dX5_field_63 : decode cX5_field 63 = .ok (.iload 7, 2) := by decide +kernel
theorem dX5_field_65 : decode cX5_field 65 = .ok (.iconst 0, 1) := by decide +kernel
theorem dX5_field_66 : decode cX5_field 66 = .ok (.bipush 11, 2) := by decide +kernel
theorem dX5_field_68 : decode cX5_field 68 = .ok (.invokestatic 41, 3) := by decide +kernel
theorem dX5_field_71 : decode cX5_field 71 = .ok (.ifCond .ne 6, 3) := by decide +kernel
theorem dX5_field_74 : decode cX5_field 74 = .ok (.ldc 45, 2) := by decide +kernel
theorem dX5_field_76 : decode cX5_field 76 = .ok (.ireturn, 1) := by decide +kernel
theorem dX5_field_77 : decode cX5_field 77 = .ok (.aload_n 0, 1) := by decide +kernel
theorem dX5_field_78 : decode cX5_field 78 = .ok (.aload_n 0, 1) := by decide +kernel
theorem dX5_field_79 : decode cX5_field 79 = .ok (.getfield 37, 3) := by decide +kernel
theorem dX5_field_82 : decode cX5_field 82 = .ok (.iload_n 1, 1) := by decide +kernel
theorem dX5_field_83 : decode cX5_field 83 = .ok (.aaload, 1) := by decide +kernel
theorem dX5_field_84 : decode cX5_field 84 = .ok (.iload_n 2, 1) := by decide +kernel
theorem dX5_field_85 : decode cX5_field 85 = .ok (.iload_n 3, 1) := by decide +kernel
theorem dX5_field_86 : decode cX5_field 86 = .ok (.iload 4, 2) := by decide +kernel
theorem dX5_field_88 : decode cX5_field 88 = .ok (.iload 5, 2) := by decide +kernel
theorem dX5_field_90 : decode cX5_field 90 = .ok (.iload 6, 2) := by decide +kernel
theorem dX5_field_92 : decode cX5_field 92 = .ok (.invokevirtual 135, 3) := by decide +kernel
theorem dX5_field_95 : decode cX5_field 95 = .ok (.iload 7, 2) := by decide +kernel
theorem dX5_field_97 : decode cX5_field 97 = .ok (.tableswitch 68 8 11 #[31, 39, 47, 47], 31) := by decide +kernel
theorem dX5_field_128 : decode cX5_field 128 = .ok (.aload_n 0, 1) := by decide +kernel
theorem dX5_field_129 : decode cX5_field 129 = .ok (.getfield 19, 3) := by decide +kernel
theorem dX5_field_132 : decode cX5_field 132 = .ok (.invokevirtual 139, 3) := by decide +kernel
theorem dX5_field_135 : decode cX5_field 135 = .ok (.ireturn, 1) := by decide +kernel
theorem dX5_field_136 : decode cX5_field 136 = .ok (.aload_n 0, 1) := by decide +kernel
theorem dX5_field_137 : decode cX5_field 137 = .ok (.getfield 19, 3) := by decide +kernel
theorem dX5_field_140 : decode cX5_field 140 = .ok (.invokevirtual 142, 3) := by decide +kernel
theorem dX5_field_143 : decode cX5_field 143 = .ok (.ireturn, 1) := by decide +kernel
theorem dX5_field_144 : decode cX5_field 144 = .ok (.aload_n 0, 1) := by decide +kernel
theorem dX5_field_145 : decode cX5_field 145 = .ok (.aload_n 0, 1) := by decide +kernel
theorem dX5_field_146 : decode cX5_field 146 = .ok (.getfield 37, 3) := by decide +kernel
theorem dX5_field_149 : decode cX5_field 149 = .ok (.iload_n 1, 1) := by decide +kernel
theorem dX5_field_150 : decode cX5_field 150 = .ok (.aaload, 1) := by decide +kernel
theorem dX5_field_151 : decode cX5_field 151 = .ok (.iload_n 2, 1) := by decide +kernel
theorem dX5_field_152 : decode cX5_field 152 = .ok (.iload_n 3, 1) := by decide +kernel
theorem dX5_field_153 : decode cX5_field 153 = .ok (.iload 4, 2) := by decide +kernel
theorem dX5_field_155 : decode cX5_field 155 = .ok (.iload 5, 2) := by decide +kernel
theorem dX5_field_157 : decode cX5_field 157 = .ok (.iload 6, 2) := by decide +kernel
theorem dX5_field_159 : decode cX5_field 159 = .ok (.iload 7, 2) := by decide +kernel
theorem dX5_field_161 : decode cX5_field 161 = .ok (.invokevirtual 145, 3) := by decide +kernel
theorem dX5_field_164 : decode cX5_field 164 = .ok (.ireturn, 1) := by decide +kernel
theorem dX5_field_165 : decode cX5_field 165 = .ok (.aload_n 0, 1) := by decide +kernel
theorem dX5_field_166 : decode cX5_field 166 = .ok (.getfield 19, 3) := by decide +kernel
theorem dX5_field_169 : decode cX5_field 169 = .ok (.iload 7, 2) := by decide +kernel
theorem dX5_field_171 : decode cX5_field 171 = .ok (.invokevirtual 119, 3) := by decide +kernel
theorem dX5_field_174 : decode cX5_field 174 = .ok (.ireturn, 1) := by decide +kernel
theorem dX5_count_0 : decode cX5_count 0 = .ok (.iload_n 1, 1) := by decide +kernel
theorem dX5_count_1 : decode cX5_count 1 = .ok (.tableswitch 72 0 5 #[39, 44, 52, 57, 62, 67], 39) := by decide +kernel
theorem dX5_count_40 : decode cX5_count 40 = .ok (.aload_n 0, 1) := by decide +kernel
theorem dX5_count_41 : decode cX5_count 41 = .ok (.getfield 69, 3) := by decide +kernel
theorem dX5_count_44 : decode cX5_count 44 = .ok (.ireturn, 1) := by decide +kernel
theorem dX5_count_45 : decode cX5_count 45 = .ok (.aload_n 0, 1) := by decide +kernel
theorem dX5_count_46 : decode cX5_count 46 = .ok (.getfield 10, 3) := by decide +kernel
theorem dX5_count_49 : decode cX5_count 49 = .ok (.invokevirtual 50, 3) := by decide +kernel
theorem dX5_count_52 : decode cX5_count 52 = .ok (.ireturn, 1) := by decide +kernel
theorem dX5_count_53 : decode cX5_count 53 = .ok (.aload_n 0, 1) := by decide +kernel
theorem dX5_count_54 : decode cX5_count 54 = .ok (.getfield 77, 3) := by decide +kernel
theorem dX5_count_57 : decode cX5_count 57 = .ok (.ireturn, 1) := by decide +kernel
theorem dX5_count_58 : decode cX5_count 58 = .ok (.aload_n 0, 1) := by decide +kernel
theorem dX5_count_59 : decode cX5_count 59 = .ok (.getfield 91, 3) := by decide +kernel
theorem dX5_count_62 : decode cX5_count 62 = .ok (.ireturn, 1) := by decide +kernel
theorem dX5_count_63 : decode cX5_count 63 = .ok (.aload_n 0, 1) := by decide +kernel
theorem dX5_count_64 : decode cX5_count 64 = .ok (.getfield 84, 3) := by decide +kernel
theorem dX5_count_67 : decode cX5_count 67 = .ok (.ireturn, 1) := by decide +kernel
theorem dX5_count_68 : decode cX5_count 68 = .ok (.aload_n 0, 1) := by decide +kernel
theorem dX5_count_69 : decode cX5_count 69 = .ok (.invokevirtual 149, 3) := by decide +kernel
theorem dX5_count_72 : decode cX5_count 72 = .ok (.ireturn, 1) := by decide +kernel
theorem dX5_count_73 : decode cX5_count 73 = .ok (.ldc 45, 2) := by decide +kernel
theorem dX5_count_75 : decode cX5_count 75 = .ok (.ireturn, 1) := by decide +kernel
theorem dX5_digest_0 : decode cX5_digest 0 = .ok (.ldc2_w 152, 3) := by decide +kernel
theorem dX5_digest_3 : decode cX5_digest 3 = .ok (.lstore_n 1, 1) := by decide +kernel
theorem dX5_digest_4 : decode cX5_digest 4 = .ok (.iconst 0, 1) := by decide +kernel
theorem dX5_digest_5 : decode cX5_digest 5 = .ok (.istore_n 3, 1) := by decide +kernel
theorem dX5_digest_6 : decode cX5_digest 6 = .ok (.iload_n 3, 1) := by decide +kernel
theorem dX5_digest_7 : decode cX5_digest 7 = .ok (.aload_n 0, 1) := by decide +kernel
theorem dX5_digest_8 : decode cX5_digest 8 = .ok (.getfield 69, 3) := by decide +kernel
theorem dX5_digest_11 : decode cX5_digest 11 = .ok (.if_icmp .ge 58, 3) := by decide +kernel
theorem dX5_digest_14 : decode cX5_digest 14 = .ok (.lload_n 1, 1) := by decide +kernel
theorem dX5_digest_15 : decode cX5_digest 15 = .ok (.aload_n 0, 1) := by decide +kernel
theorem dX5_digest_16 : decode cX5_digest 16 = .ok (.getfield 37, 3) := by decide +kernel
theorem dX5_digest_19 : decode cX5_digest 19 = .ok (.iload_n 3, 1) := by decide +kernel
theorem dX5_digest_20 : decode cX5_digest 20 = .ok (.aaload, 1) := by decide +kernel
theorem dX5_digest_21 : decode cX5_digest 21 = .ok (.invokestatic 154, 3) := by decide +kernel
theorem dX5_digest_24 : decode cX5_digest 24 = .ok (.lstore_n 1, 1) := by decide +kernel
theorem dX5_digest_25 : decode cX5_digest 25 = .ok (.aload_n 0, 1) := by decide +kernel
theorem dX5_digest_26 : decode cX5_digest 26 = .ok (.lload_n 1, 1) := by decide +kernel
theorem dX5_digest_27 : decode cX5_digest 27 = .ok (.aload_n 0, 1) := by decide +kernel
theorem dX5_digest_28 : decode cX5_digest 28 = .ok (.getfield 37, 3) := by decide +kernel
theorem dX5_digest_31 : decode cX5_digest 31 = .ok (.iload_n 3, 1) := by decide +kernel
theorem dX5_digest_32 : decode cX5_digest 32 = .ok (.aaload, 1) := by decide +kernel
theorem dX5_digest_33 : decode cX5_digest 33 = .ok (.iconst 0, 1) := by decide +kernel
theorem dX5_digest_34 : decode cX5_digest 34 = .ok (.invokevirtual 158, 3) := by decide +kernel
theorem dX5_digest_37 : decode cX5_digest 37 = .ok (.lstore_n 1, 1) := by decide +kernel
theorem dX5_digest_38 : decode cX5_digest 38 = .ok (.aload_n 0, 1) := by decide +kernel
theorem dX5_digest_39 : decode cX5_digest 39 = .ok (.lload_n 1, 1) := by decide +kernel
theorem dX5_digest_40 : decode cX5_digest 40 = .ok (.aload_n 0, 1) := by decide +kernel
theorem dX5_digest_41 : decode cX5_digest 41 = .ok (.getfield 37, 3) := by decide +kernel
theorem dX5_digest_44 : decode cX5_digest 44 = .ok (.iload_n 3, 1) := by decide +kernel
theorem dX5_digest_45 : decode cX5_digest 45 = .ok (.aaload, 1) := by decide +kernel
theorem dX5_digest_46 : decode cX5_digest 46 = .ok (.iconst 1, 1) := by decide +kernel
theorem dX5_digest_47 : decode cX5_digest 47 = .ok (.invokevirtual 158, 3) := by decide +kernel
theorem dX5_digest_50 : decode cX5_digest 50 = .ok (.lstore_n 1, 1) := by decide +kernel
theorem dX5_digest_51 : decode cX5_digest 51 = .ok (.aload_n 0, 1) := by decide +kernel
theorem dX5_digest_52 : decode cX5_digest 52 = .ok (.lload_n 1, 1) := by decide +kernel
theorem dX5_digest_53 : decode cX5_digest 53 = .ok (.aload_n 0, 1) := by decide +kernel
theorem dX5_digest_54 : decode cX5_digest 54 = .ok (.getfield 37, 3) := by decide +kernel
theorem dX5_digest_57 : decode cX5_digest 57 = .ok (.iload_n 3, 1) := by decide +kernel
theorem dX5_digest_58 : decode cX5_digest 58 = .ok (.aaload, 1) := by decide +kernel
theorem dX5_digest_59 : decode cX5_digest 59 = .ok (.invokevirtual 162, 3) := by decide +kernel
theorem dX5_digest_62 : decode cX5_digest 62 = .ok (.lstore_n 1, 1) := by decide +kernel
theorem dX5_digest_63 : decode cX5_digest 63 = .ok (.iinc 3 1, 3) := by decide +kernel
theorem dX5_digest_66 : decode cX5_digest 66 = .ok (.goto (-60), 3) := by decide +kernel
theorem dX5_digest_69 : decode cX5_digest 69 = .ok (.iconst 0, 1) := by decide +kernel
theorem dX5_digest_70 : decode cX5_digest 70 = .ok (.istore_n 3, 1) := by decide +kernel
theorem dX5_digest_71 : decode cX5_digest 71 = .ok (.iload_n 3, 1) := by decide +kernel
theorem dX5_digest_72 : decode cX5_digest 72 = .ok (.aload_n 0, 1) := by decide +kernel
theorem dX5_digest_73 : decode cX5_digest 73 = .ok (.getfield 10, 3) := by decide +kernel
theorem dX5_digest_76 : decode cX5_digest 76 = .ok (.invokevirtual 50, 3) := by decide +kernel
theorem dX5_digest_79 : decode cX5_digest 79 = .ok (.if_icmp .ge 22, 3) := by decide +kernel
theorem dX5_digest_82 : decode cX5_digest 82 = .ok (.lload_n 1, 1) := by decide +kernel
theorem dX5_digest_83 : decode cX5_digest 83 = .ok (.aload_n 0, 1) := by decide +kernel
theorem dX5_digest_84 : decode cX5_digest 84 = .ok (.getfield 10, 3) := by decide +kernel
theorem dX5_digest_87 : decode cX5_digest 87 = .ok (.iload_n 3, 1) := by decide +kernel
theorem dX5_digest_88 : decode cX5_digest 88 = .ok (.invokevirtual 165, 3) := by decide +kernel
theorem dX5_digest_91 : decode cX5_digest 91 = .ok (.invokestatic 168, 3) := by decide +kernel
theorem dX5_digest_94 : decode cX5_digest 94 = .ok (.lstore_n 1, 1) := by decide +kernel
theorem dX5_digest_95 : decode cX5_digest 95 = .ok (.iinc 3 1, 3) := by decide +kernel
theorem dX5_digest_98 : decode cX5_digest 98 = .ok (.goto (-27), 3) := by decide +kernel
theorem dX5_digest_101 : decode cX5_digest 101 = .ok (.iconst 0, 1) := by decide +kernel
theorem dX5_digest_102 : decode cX5_digest 102 = .ok (.istore_n 3, 1) := by decide +kernel
theorem dX5_digest_103 : decode cX5_digest 103 = .ok (.iload_n 3, 1) := by decide +kernel
theorem dX5_digest_104 : decode cX5_digest 104 = .ok (.iconst 5, 1) := by decide +kernel
theorem dX5_digest_105 : decode cX5_digest 105 = .ok (.if_icmp .gt 19, 3) := by decide +kernel
theorem dX5_digest_108 : decode cX5_digest 108 = .ok (.lload_n 1, 1) := by decide +kernel
theorem dX5_digest_109 : decode cX5_digest 109 = .ok (.aload_n 0, 1) := by decide +kernel
theorem dX5_digest_110 : decode cX5_digest 110 = .ok (.iload_n 3, 1) := by decide +kernel
theorem dX5_digest_111 : decode cX5_digest 111 = .ok (.invokevirtual 172, 3) := by decide +kernel
theorem dX5_digest_114 : decode cX5_digest 114 = .ok (.invokestatic 168, 3) := by decide +kernel
theorem dX5_digest_117 : decode cX5_digest 117 = .ok (.lstore_n 1, 1) := by decide +kernel
theorem dX5_digest_118 : decode cX5_digest 118 = .ok (.iinc 3 1, 3) := by decide +kernel
theorem dX5_digest_121 : decode cX5_digest 121 = .ok (.goto (-18), 3) := by decide +kernel
theorem dX5_digest_124 : decode cX5_digest 124 = .ok (.lload_n 1, 1) := by decide +kernel
theorem dX5_digest_125 : decode cX5_digest 125 = .ok (.lreturn, 1) := by decide +kernel
theorem dX5_mix_0 : decode cX5_mix 0 = .ok (.ldc2_w 175, 3) := by decide +kernel
theorem dX5_mix_3 : decode cX5_mix 3 = .ok (.lload_n 0, 1) := by decide +kernel
theorem dX5_mix_4 : decode cX5_mix 4 = .ok (.lmul, 1) := by decide +kernel
theorem dX5_mix_5 : decode cX5_mix 5 = .ok (.iload_n 2, 1) := by decide +kernel
theorem dX5_mix_6 : decode cX5_mix 6 = .ok (.i2l, 1) := by decide +kernel
theorem dX5_mix_7 : decode cX5_mix 7 = .ok (.ladd, 1) := by decide +kernel
theorem dX5_mix_8 : decode cX5_mix 8 = .ok (.lreturn, 1) := by decide +kernel
theorem dX5_mixHead_0 : decode cX5_mixHead 0 = .ok (.iconst 0, 1) := by decide +kernel
theorem dX5_mixHead_1 : decode cX5_mixHead 1 = .ok (.istore_n 3, 1) := by decide +kernel
theorem dX5_mixHead_2 : decode cX5_mixHead 2 = .ok (.iload_n 3, 1) := by decide +kernel
theorem dX5_mixHead_3 : decode cX5_mixHead 3 = .ok (.iconst 4, 1) := by decide +kernel
theorem dX5_mixHead_4 : decode cX5_mixHead 4 = .ok (.if_icmp .gt 19, 3) := by decide +kernel
theorem dX5_mixHead_7 : decode cX5_mixHead 7 = .ok (.lload_n 0, 1) := by decide +kernel
theorem dX5_mixHead_8 : decode cX5_mixHead 8 = .ok (.aload_n 2, 1) := by decide +kernel
theorem dX5_mixHead_9 : decode cX5_mixHead 9 = .ok (.iload_n 3, 1) := by decide +kernel
theorem dX5_mixHead_10 : decode cX5_mixHead 10 = .ok (.invokevirtual 101, 3) := by decide +kernel
theorem dX5_mixHead_13 : decode cX5_mixHead 13 = .ok (.invokestatic 168, 3) := by decide +kernel
theorem dX5_mixHead_16 : decode cX5_mixHead 16 = .ok (.lstore_n 0, 1) := by decide +kernel
theorem dX5_mixHead_17 : decode cX5_mixHead 17 = .ok (.iinc 3 1, 3) := by decide +kernel
theorem dX5_mixHead_20 : decode cX5_mixHead 20 = .ok (.goto (-18), 3) := by decide +kernel
theorem dX5_mixHead_23 : decode cX5_mixHead 23 = .ok (.aload_n 2, 1) := by decide +kernel
theorem dX5_mixHead_24 : decode cX5_mixHead 24 = .ok (.invokevirtual 177, 3) := by decide +kernel
theorem dX5_mixHead_27 : decode cX5_mixHead 27 = .ok (.istore_n 3, 1) := by decide +kernel
theorem dX5_mixHead_28 : decode cX5_mixHead 28 = .ok (.iload_n 3, 1) := by decide +kernel
theorem dX5_mixHead_29 : decode cX5_mixHead 29 = .ok (.istore 4, 2) := by decide +kernel
theorem dX5_mixHead_31 : decode cX5_mixHead 31 = .ok (.iload 4, 2) := by decide +kernel
theorem dX5_mixHead_33 : decode cX5_mixHead 33 = .ok (.iload_n 3, 1) := by decide +kernel
theorem dX5_mixHead_34 : decode cX5_mixHead 34 = .ok (.ineg, 1) := by decide +kernel
theorem dX5_mixHead_35 : decode cX5_mixHead 35 = .ok (.if_icmp .lt 38, 3) := by decide +kernel
theorem dX5_mixHead_38 : decode cX5_mixHead 38 = .ok (.iload_n 3, 1) := by decide +kernel
theorem dX5_mixHead_39 : decode cX5_mixHead 39 = .ok (.ineg, 1) := by decide +kernel
theorem dX5_mixHead_40 : decode cX5_mixHead 40 = .ok (.istore 5, 2) := by decide +kernel
theorem dX5_mixHead_42 : decode cX5_mixHead 42 = .ok (.iload 5, 2) := by decide +kernel
theorem dX5_mixHead_44 : decode cX5_mixHead 44 = .ok (.iload_n 3, 1) := by decide +kernel
theorem dX5_mixHead_45 : decode cX5_mixHead 45 = .ok (.if_icmp .gt 22, 3) := by decide +kernel
theorem dX5_mixHead_48 : decode cX5_mixHead 48 = .ok (.lload_n 0, 1) := by decide +kernel
theorem dX5_mixHead_49 : decode cX5_mixHead 49 = .ok (.aload_n 2, 1) := by decide +kernel
theorem dX5_mixHead_50 : decode cX5_mixHead 50 = .ok (.iload 5, 2) := by decide +kernel
theorem dX5_mixHead_52 : decode cX5_mixHead 52 = .ok (.iload 4, 2) := by decide +kernel
theorem dX5_mixHead_54 : decode cX5_mixHead 54 = .ok (.invokevirtual 105, 3) := by decide +kernel
theorem dX5_mixHead_57 : decode cX5_mixHead 57 = .ok (.invokestatic 168, 3) := by decide +kernel
theorem dX5_mixHead_60 : decode cX5_mixHead 60 = .ok (.lstore_n 0, 1) := by decide +kernel
theorem dX5_mixHead_61 : decode cX5_mixHead 61 = .ok (.iinc 5 1, 3) := by decide +kernel
theorem dX5_mixHead_64 : decode cX5_mixHead 64 = .ok (.goto (-22), 3) := by decide +kernel
theorem dX5_mixHead_67 : decode cX5_mixHead 67 = .ok (.iinc 4 (-1), 3) := by decide +kernel
theorem dX5_mixHead_70 : decode cX5_mixHead 70 = .ok (.goto (-39), 3) := by decide +kernel
theorem dX5_mixHead_73 : decode cX5_mixHead 73 = .ok (.lload_n 0, 1) := by decide +kernel
theorem dX5_mixHead_74 : decode cX5_mixHead 74 = .ok (.lreturn, 1) := by decide +kernel
theorem dX5_mixTile_0 : decode cX5_mixTile 0 = .ok (.aload_n 0, 1) := by decide +kernel
theorem dX5_mixTile_1 : decode cX5_mixTile 1 = .ok (.getfield 19, 3) := by decide +kernel
theorem dX5_mixTile_4 : decode cX5_mixTile 4 = .ok (.aload_n 3, 1) := by decide +kernel
theorem dX5_mixTile_5 : decode cX5_mixTile 5 = .ok (.iload 4, 2) := by decide +kernel
theorem dX5_mixTile_7 : decode cX5_mixTile 7 = .ok (.iconst 4, 1) := by decide +kernel
theorem dX5_mixTile_8 : decode cX5_mixTile 8 = .ok (.iconst 3, 1) := by decide +kernel
theorem dX5_mixTile_9 : decode cX5_mixTile 9 = .ok (.invokevirtual 112, 3) := by decide +kernel
theorem dX5_mixTile_12 : decode cX5_mixTile 12 = .ok (.iconst 0, 1) := by decide +kernel
theorem dX5_mixTile_13 : decode cX5_mixTile 13 = .ok (.istore 5, 2) := by decide +kernel
theorem dX5_mixTile_15 : decode cX5_mixTile 15 = .ok (.iload 5, 2) := by decide +kernel
theorem dX5_mixTile_17 : decode cX5_mixTile 17 = .ok (.bipush 7, 2) := by decide +kernel
theorem dX5_mixTile_19 : decode cX5_mixTile 19 = .ok (.if_icmp .gt 23, 3) := by decide +kernel
theorem dX5_mixTile_22 : decode cX5_mixTile 22 = .ok (.lload_n 1, 1) := by decide +kernel
theorem dX5_mixTile_23 : decode cX5_mixTile 23 = .ok (.aload_n 0, 1) := by decide +kernel
theorem dX5_mixTile_24 : decode cX5_mixTile 24 = .ok (.getfield 19, 3) := by decide +kernel
theorem dX5_mixTile_27 : decode cX5_mixTile 27 = .ok (.iload 5, 2) := by decide +kernel
theorem dX5_mixTile_29 : decode cX5_mixTile 29 = .ok (.invokevirtual 119, 3) := by decide +kernel
theorem dX5_mixTile_32 : decode cX5_mixTile 32 = .ok (.invokestatic 168, 3) := by decide +kernel
theorem dX5_mixTile_35 : decode cX5_mixTile 35 = .ok (.lstore_n 1, 1) := by decide +kernel
theorem dX5_mixTile_36 : decode cX5_mixTile 36 = .ok (.iinc 5 1, 3) := by decide +kernel
theorem dX5_mixTile_39 : decode cX5_mixTile 39 = .ok (.goto (-24), 3) := by decide +kernel
theorem dX5_mixTile_42 : decode cX5_mixTile 42 = .ok (.lload_n 1, 1) := by decide +kernel
theorem dX5_mixTile_43 : decode cX5_mixTile 43 = .ok (.lreturn, 1) := by decide +kernel
theorem dX5_mixBest_0 : decode cX5_mixBest 0 = .ok (.aload_n 0, 1) := by decide +kernel
theorem dX5_mixBest_1 : decode cX5_mixBest 1 = .ok (.aload_n 3, 1) := by decide +kernel
theorem dX5_mixBest_2 : decode cX5_mixBest 2 = .ok (.iconst 1, 1) := by decide +kernel
theorem dX5_mixBest_3 : decode cX5_mixBest 3 = .ok (.invokevirtual 127, 3) := by decide +kernel
theorem dX5_mixBest_6 : decode cX5_mixBest 6 = .ok (.iconst 0, 1) := by decide +kernel
theorem dX5_mixBest_7 : decode cX5_mixBest 7 = .ok (.istore 4, 2) := by decide +kernel
theorem dX5_mixBest_9 : decode cX5_mixBest 9 = .ok (.iload 4, 2) := by decide +kernel
theorem dX5_mixBest_11 : decode cX5_mixBest 11 = .ok (.iconst 4, 1) := by decide +kernel
theorem dX5_mixBest_12 : decode cX5_mixBest 12 = .ok (.if_icmp .gt 23, 3) := by decide +kernel
theorem dX5_mixBest_15 : decode cX5_mixBest 15 = .ok (.lload_n 1, 1) := by decide +kernel
theorem dX5_mixBest_16 : decode cX5_mixBest 16 = .ok (.aload_n 0, 1) := by decide +kernel
theorem dX5_mixBest_17 : decode cX5_mixBest 17 = .ok (.getfield 26, 3) := by decide +kernel
theorem dX5_mixBest_20 : decode cX5_mixBest 20 = .ok (.iload 4, 2) := by decide +kernel
theorem dX5_mixBest_22 : decode cX5_mixBest 22 = .ok (.invokevirtual 131, 3) := by decide +kernel
theorem dX5_mixBest_25 : decode cX5_mixBest 25 = .ok (.invokestatic 168, 3) := by decide +kernel
theorem dX5_mixBest_28 : decode cX5_mixBest 28 = .ok (.lstore_n 1, 1) := by decide +kernel
theorem dX5_mixBest_29 : decode cX5_mixBest 29 = .ok (.iinc 4 1, 3) := by decide +kernel
theorem dX5_mixBest_32 : decode cX5_mixBest 32 = .ok (.goto (-23), 3) := by decide +kernel
theorem dX5_mixBest_35 : decode cX5_mixBest 35 = .ok (.lload_n 1, 1) := by decide +kernel
theorem dX5_mixBest_36 : decode cX5_mixBest 36 = .ok (.lreturn, 1) := by decide +kernel
theorem dX5_isWithin_0 : decode cX5_isWithin 0 = .ok (.iload_n 0, 1) := by decide +kernel
theorem dX5_isWithin_1 : decode cX5_isWithin 1 = .ok (.iload_n 1, 1) := by decide +kernel
theorem dX5_isWithin_2 : decode cX5_isWithin 2 = .ok (.if_icmp .lt 12, 3) := by decide +kernel
theorem dX5_isWithin_5 : decode cX5_isWithin 5 = .ok (.iload_n 0, 1) := by decide +kernel
theorem dX5_isWithin_6 : decode cX5_isWithin 6 = .ok (.iload_n 2, 1) := by decide +kernel
theorem dX5_isWithin_7 : decode cX5_isWithin 7 = .ok (.if_icmp .gt 7, 3) := by decide +kernel
theorem dX5_isWithin_10 : decode cX5_isWithin 10 = .ok (.iconst 1, 1) := by decide +kernel
theorem dX5_isWithin_11 : decode cX5_isWithin 11 = .ok (.goto 4, 3) := by decide +kernel
theorem dX5_isWithin_14 : decode cX5_isWithin 14 = .ok (.iconst 0, 1) := by decide +kernel
theorem dX5_isWithin_15 : decode cX5_isWithin 15 = .ok (.ireturn, 1) := by decide +kernel
theorem dX5_isSpacing_0 : decode cX5_isSpacing 0 = .ok (.iload_n 0, 1) := by decide +kernel
theorem dX5_isSpacing_1 : decode cX5_isSpacing 1 = .ok (.iconst 2, 1) := by decide +kernel
theorem dX5_isSpacing_2 : decode cX5_isSpacing 2 = .ok (.bipush 9, 2) := by decide +kernel
theorem dX5_isSpacing_4 : decode cX5_isSpacing 4 = .ok (.invokestatic 41, 3) := by decide +kernel
theorem dX5_isSpacing_7 : decode cX5_isSpacing 7 = .ok (.ireturn, 1) := by decide +kernel
theorem dX5_isLaidOut_0 : decode cX5_isLaidOut 0 = .ok (.iload_n 0, 1) := by decide +kernel
theorem dX5_isLaidOut_1 : decode cX5_isLaidOut 1 = .ok (.iconst 0, 1) := by decide +kernel
theorem dX5_isLaidOut_2 : decode cX5_isLaidOut 2 = .ok (.iconst 1, 1) := by decide +kernel
theorem dX5_isLaidOut_3 : decode cX5_isLaidOut 3 = .ok (.invokestatic 41, 3) := by decide +kernel
theorem dX5_isLaidOut_6 : decode cX5_isLaidOut 6 = .ok (.ifCond .eq 21, 3) := by decide +kernel
theorem dX5_isLaidOut_9 : decode cX5_isLaidOut 9 = .ok (.iload_n 1, 1) := by decide +kernel
theorem dX5_isLaidOut_10 : decode cX5_isLaidOut 10 = .ok (.invokestatic 120, 3) := by decide +kernel
theorem dX5_isLaidOut_13 : decode cX5_isLaidOut 13 = .ok (.ifCond .eq 14, 3) := by decide +kernel
theorem dX5_isLaidOut_16 : decode cX5_isLaidOut 16 = .ok (.iload_n 2, 1) := by decide +kernel
theorem dX5_isLaidOut_17 : decode cX5_isLaidOut 17 = .ok (.invokestatic 120, 3) := by decide +kernel
theorem dX5_isLaidOut_20 : decode cX5_isLaidOut 20 = .ok (.ifCond .eq 7, 3) := by decide +kernel
theorem dX5_isLaidOut_23 : decode cX5_isLaidOut 23 = .ok (.iconst 1, 1) := by decide +kernel
theorem dX5_isLaidOut_24 : decode cX5_isLaidOut 24 = .ok (.goto 4, 3) := by decide +kernel
theorem dX5_isLaidOut_27 : decode cX5_isLaidOut 27 = .ok (.iconst 0, 1) := by decide +kernel
theorem dX5_isLaidOut_28 : decode cX5_isLaidOut 28 = .ok (.ireturn, 1) := by decide +kernel
theorem dX5_isKnown_0 : decode cX5_isKnown 0 = .ok (.iload_n 1, 1) := by decide +kernel
theorem dX5_isKnown_1 : decode cX5_isKnown 1 = .ok (.ifCond .lt 15, 3) := by decide +kernel
theorem dX5_isKnown_4 : decode cX5_isKnown 4 = .ok (.iload_n 1, 1) := by decide +kernel
theorem dX5_isKnown_5 : decode cX5_isKnown 5 = .ok (.aload_n 0, 1) := by decide +kernel
theorem dX5_isKnown_6 : decode cX5_isKnown 6 = .ok (.getfield 69, 3) := by decide +kernel
theorem dX5_isKnown_9 : decode cX5_isKnown 9 = .ok (.if_icmp .ge 7, 3) := by decide +kernel
theorem dX5_isKnown_12 : decode cX5_isKnown 12 = .ok (.iconst 1, 1) := by decide +kernel
theorem dX5_isKnown_13 : decode cX5_isKnown 13 = .ok (.goto 4, 3) := by decide +kernel
theorem dX5_isKnown_16 : decode cX5_isKnown 16 = .ok (.iconst 0, 1) := by decide +kernel
theorem dX5_isKnown_17 : decode cX5_isKnown 17 = .ok (.ireturn, 1) := by decide +kernel
theorem dX5_isCrowded_0 : decode cX5_isCrowded 0 = .ok (.aload_n 0, 1) := by decide +kernel
theorem dX5_isCrowded_1 : decode cX5_isCrowded 1 = .ok (.getfield 69, 3) := by decide +kernel
theorem dX5_isCrowded_4 : decode cX5_isCrowded 4 = .ok (.iconst 4, 1) := by decide +kernel
theorem dX5_isCrowded_5 : decode cX5_isCrowded 5 = .ok (.if_icmp .lt 7, 3) := by decide +kernel
theorem dX5_isCrowded_8 : decode cX5_isCrowded 8 = .ok (.iconst 1, 1) := by decide +kernel
theorem dX5_isCrowded_9 : decode cX5_isCrowded 9 = .ok (.goto 4, 3) := by decide +kernel
theorem dX5_isCrowded_12 : decode cX5_isCrowded 12 = .ok (.iconst 0, 1) := by decide +kernel
theorem dX5_isCrowded_13 : decode cX5_isCrowded 13 = .ok (.ireturn, 1) := by decide +kernel
theorem dX5_thrownOfAll_0 : decode cX5_thrownOfAll 0 = .ok (.iconst 0, 1) := by decide +kernel
theorem dX5_thrownOfAll_1 : decode cX5_thrownOfAll 1 = .ok (.istore_n 1, 1) := by decide +kernel
theorem dX5_thrownOfAll_2 : decode cX5_thrownOfAll 2 = .ok (.iconst 0, 1) := by decide +kernel
theorem dX5_thrownOfAll_3 : decode cX5_thrownOfAll 3 = .ok (.istore_n 2, 1) := by decide +kernel
theorem dX5_thrownOfAll_4 : decode cX5_thrownOfAll 4 = .ok (.iload_n 2, 1) := by decide +kernel
theorem dX5_thrownOfAll_5 : decode cX5_thrownOfAll 5 = .ok (.aload_n 0, 1) := by decide +kernel
theorem dX5_thrownOfAll_6 : decode cX5_thrownOfAll 6 = .ok (.getfield 69, 3) := by decide +kernel
theorem dX5_thrownOfAll_9 : decode cX5_thrownOfAll 9 = .ok (.if_icmp .ge 21, 3) := by decide +kernel
theorem dX5_thrownOfAll_12 : decode cX5_thrownOfAll 12 = .ok (.iload_n 1, 1) := by decide +kernel
theorem dX5_thrownOfAll_13 : decode cX5_thrownOfAll 13 = .ok (.aload_n 0, 1) := by decide +kernel
theorem dX5_thrownOfAll_14 : decode cX5_thrownOfAll 14 = .ok (.getfield 37, 3) := by decide +kernel
theorem dX5_thrownOfAll_17 : decode cX5_thrownOfAll 17 = .ok (.iload_n 2, 1) := by decide +kernel
theorem dX5_thrownOfAll_18 : decode cX5_thrownOfAll 18 = .ok (.aaload, 1) := by decide +kernel
theorem dX5_thrownOfAll_19 : decode cX5_thrownOfAll 19 = .ok (.invokevirtual 98, 3) := by decide +kernel
theorem dX5_thrownOfAll_22 : decode cX5_thrownOfAll 22 = .ok (.iadd, 1) := by decide +kernel
theorem dX5_thrownOfAll_23 : decode cX5_thrownOfAll 23 = .ok (.istore_n 1, 1) := by decide +kernel
theorem dX5_thrownOfAll_24 : decode cX5_thrownOfAll 24 = .ok (.iinc 2 1, 3) := by decide +kernel
theorem dX5_thrownOfAll_27 : decode cX5_thrownOfAll 27 = .ok (.goto (-23), 3) := by decide +kernel
theorem dX5_thrownOfAll_30 : decode cX5_thrownOfAll 30 = .ok (.iload_n 1, 1) := by decide +kernel
theorem dX5_thrownOfAll_31 : decode cX5_thrownOfAll 31 = .ok (.ireturn, 1) := by decide +kernel
theorem dX5_findBest_0 : decode cX5_findBest 0 = .ok (.aload_n 0, 1) := by decide +kernel
theorem dX5_findBest_1 : decode cX5_findBest 1 = .ok (.getfield 26, 3) := by decide +kernel
theorem dX5_findBest_4 : decode cX5_findBest 4 = .ok (.invokevirtual 180, 3) := by decide +kernel
theorem dX5_findBest_7 : decode cX5_findBest 7 = .ok (.aload_n 1, 1) := by decide +kernel
theorem dX5_findBest_8 : decode cX5_findBest 8 = .ok (.invokevirtual 98, 3) := by decide +kernel
theorem dX5_findBest_11 : decode cX5_findBest 11 = .ok (.istore_n 3, 1) := by decide +kernel
theorem dX5_findBest_12 : decode cX5_findBest 12 = .ok (.iload_n 3, 1) := by decide +kernel
theorem dX5_findBest_13 : decode cX5_findBest 13 = .ok (.ifCond .ne 4, 3) := by decide +kernel
theorem dX5_findBest_16 : decode cX5_findBest 16 = .ok (.return_, 1) := by decide +kernel
theorem dX5_findBest_17 : decode cX5_findBest 17 = .ok (.iconst 0, 1) := by decide +kernel
theorem dX5_findBest_18 : decode cX5_findBest 18 = .ok (.istore 4, 2) := by decide +kernel
theorem dX5_findBest_20 : decode cX5_findBest 20 = .ok (.iload 4, 2) := by decide +kernel
theorem dX5_findBest_22 : decode cX5_findBest 22 = .ok (.iconst 1, 1) := by decide +kernel
theorem dX5_findBest_23 : decode cX5_findBest 23 = .ok (.if_icmp .gt 86, 3) := by decide +kernel
theorem dX5_findBest_26 : decode cX5_findBest 26 = .ok (.iconst 2, 1) := by decide +kernel
theorem dX5_findBest_27 : decode cX5_findBest 27 = .ok (.istore 5, 2) := by decide +kernel
theorem dX5_findBest_29 : decode cX5_findBest 29 = .ok (.iload 5, 2) := by decide +kernel
theorem dX5_findBest_31 : decode cX5_findBest 31 = .ok (.bipush 9, 2) := by decide +kernel
theorem dX5_findBest_33 : decode cX5_findBest 33 = .ok (.if_icmp .gt 70, 3) := by decide +kernel
theorem dX5_findBest_36 : decode cX5_findBest 36 = .ok (.iconst 2, 1) := by decide +kernel
theorem dX5_findBest_37 : decode cX5_findBest 37 = .ok (.istore 6, 2) := by decide +kernel
theorem dX5_findBest_39 : decode cX5_findBest 39 = .ok (.iload 6, 2) := by decide +kernel
theorem dX5_findBest_41 : decode cX5_findBest 41 = .ok (.bipush 9, 2) := by decide +kernel
theorem dX5_findBest_43 : decode cX5_findBest 43 = .ok (.if_icmp .gt 54, 3) := by decide +kernel
theorem dX5_findBest_46 : decode cX5_findBest 46 = .ok (.iload_n 3, 1) := by decide +kernel
theorem dX5_findBest_47 : decode cX5_findBest 47 = .ok (.iload_n 2, 1) := by decide +kernel
theorem dX5_findBest_48 : decode cX5_findBest 48 = .ok (.iload 5, 2) := by decide +kernel
theorem dX5_findBest_50 : decode cX5_findBest 50 = .ok (.imul, 1) := by decide +kernel
theorem dX5_findBest_51 : decode cX5_findBest 51 = .ok (.iload 6, 2) := by decide +kernel
theorem dX5_findBest_53 : decode cX5_findBest 53 = .ok (.imul, 1) := by decide +kernel
theorem dX5_findBest_54 : decode cX5_findBest 54 = .ok (.if_icmp .lt 37, 3) := by decide +kernel
theorem dX5_findBest_57 : decode cX5_findBest 57 = .ok (.aload_n 0, 1) := by decide +kernel
theorem dX5_findBest_58 : decode cX5_findBest 58 = .ok (.getfield 19, 3) := by decide +kernel
theorem dX5_findBest_61 : decode cX5_findBest 61 = .ok (.aload_n 1, 1) := by decide +kernel
theorem dX5_findBest_62 : decode cX5_findBest 62 = .ok (.iload 4, 2) := by decide +kernel
theorem dX5_findBest_64 : decode cX5_findBest 64 = .ok (.iload 5, 2) := by decide +kernel
theorem dX5_findBest_66 : decode cX5_findBest 66 = .ok (.iload 6, 2) := by decide +kernel
theorem dX5_findBest_68 : decode cX5_findBest 68 = .ok (.invokevirtual 112, 3) := by decide +kernel
theorem dX5_findBest_71 : decode cX5_findBest 71 = .ok (.aload_n 0, 1) := by decide +kernel
theorem dX5_findBest_72 : decode cX5_findBest 72 = .ok (.getfield 26, 3) := by decide +kernel
theorem dX5_findBest_75 : decode cX5_findBest 75 = .ok (.iload 4, 2) := by decide +kernel
theorem dX5_findBest_77 : decode cX5_findBest 77 = .ok (.iload 5, 2) := by decide +kernel
theorem dX5_findBest_79 : decode cX5_findBest 79 = .ok (.iload 6, 2) := by decide +kernel
theorem dX5_findBest_81 : decode cX5_findBest 81 = .ok (.aload_n 0, 1) := by decide +kernel
theorem dX5_findBest_82 : decode cX5_findBest 82 = .ok (.getfield 19, 3) := by decide +kernel
theorem dX5_findBest_85 : decode cX5_findBest 85 = .ok (.invokevirtual 183, 3) := by decide +kernel
theorem dX5_findBest_88 : decode cX5_findBest 88 = .ok (.invokevirtual 187, 3) := by decide +kernel
theorem dX5_findBest_91 : decode cX5_findBest 91 = .ok (.iinc 6 1, 3) := by decide +kernel
theorem dX5_findBest_94 : decode cX5_findBest 94 = .ok (.goto (-55), 3) := by decide +kernel
theorem dX5_findBest_97 : decode cX5_findBest 97 = .ok (.iinc 5 1, 3) := by decide +kernel
theorem dX5_findBest_100 : decode cX5_findBest 100 = .ok (.goto (-71), 3) := by decide +kernel
theorem dX5_findBest_103 : decode cX5_findBest 103 = .ok (.iinc 4 1, 3) := by decide +kernel
theorem dX5_findBest_106 : decode cX5_findBest 106 = .ok (.goto (-86), 3) := by decide +kernel
theorem dX5_findBest_109 : decode cX5_findBest 109 = .ok (.return_, 1) := by decide +kernel
theorem dX5_numberInField_0 : decode cX5_numberInField 0 = .ok (.iload_n 0, 1) := by decide +kernel
theorem dX5_numberInField_1 : decode cX5_numberInField 1 = .ok (.iconst 3, 1) := by decide +kernel
theorem dX5_numberInField_2 : decode cX5_numberInField 2 = .ok (.iload_n 1, 1) := by decide +kernel
theorem dX5_numberInField_3 : decode cX5_numberInField 3 = .ok (.imul, 1) := by decide +kernel
theorem dX5_numberInField_4 : decode cX5_numberInField 4 = .ok (.iadd, 1) := by decide +kernel
theorem dX5_numberInField_5 : decode cX5_numberInField 5 = .ok (.ireturn, 1) := by decide +kernel
theorem dX5_bitsOfField_0 : decode cX5_bitsOfField 0 = .ok (.iconst 0, 1) := by decide +kernel
theorem dX5_bitsOfField_1 : decode cX5_bitsOfField 1 = .ok (.istore_n 2, 1) := by decide +kernel
theorem dX5_bitsOfField_2 : decode cX5_bitsOfField 2 = .ok (.iconst 0, 1) := by decide +kernel
theorem dX5_bitsOfField_3 : decode cX5_bitsOfField 3 = .ok (.istore_n 3, 1) := by decide +kernel
theorem dX5_bitsOfField_4 : decode cX5_bitsOfField 4 = .ok (.iload_n 3, 1) := by decide +kernel
theorem dX5_bitsOfField_5 : decode cX5_bitsOfField 5 = .ok (.iload_n 1, 1) := by decide +kernel
theorem dX5_bitsOfField_6 : decode cX5_bitsOfField 6 = .ok (.if_icmp .ge 35, 3) := by decide +kernel
theorem dX5_bitsOfField_9 : decode cX5_bitsOfField 9 = .ok (.iconst 0, 1) := by decide +kernel
theorem dX5_bitsOfField_10 : decode cX5_bitsOfField 10 = .ok (.istore 4, 2) := by decide +kernel
theorem dX5_bitsOfField_12 : decode cX5_bitsOfField 12 = .ok (.iload 4, 2) := by decide +kernel
theorem dX5_bitsOfField_14 : decode cX5_bitsOfField 14 = .ok (.iload_n 0, 1) := by decide +kernel
theorem dX5_bitsOfField_15 : decode cX5_bitsOfField 15 = .ok (.if_icmp .ge 20, 3) := by decide +kernel
theorem dX5_bitsOfField_18 : decode cX5_bitsOfField 18 = .ok (.iload_n 2, 1) := by decide +kernel
theorem dX5_bitsOfField_19 : decode cX5_bitsOfField 19 = .ok (.iconst 1, 1) := by decide +kernel
theorem dX5_bitsOfField_20 : decode cX5_bitsOfField 20 = .ok (.iload 4, 2) := by decide +kernel
theorem dX5_bitsOfField_22 : decode cX5_bitsOfField 22 = .ok (.iload_n 3, 1) := by decide +kernel
theorem dX5_bitsOfField_23 : decode cX5_bitsOfField 23 = .ok (.invokestatic 191, 3) := by decide +kernel
theorem dX5_bitsOfField_26 : decode cX5_bitsOfField 26 = .ok (.ishl, 1) := by decide +kernel
theorem dX5_bitsOfField_27 : decode cX5_bitsOfField 27 = .ok (.ior, 1) := by decide +kernel
theorem dX5_bitsOfField_28 : decode cX5_bitsOfField 28 = .ok (.istore_n 2, 1) := by decide +kernel
theorem dX5_bitsOfField_29 : decode cX5_bitsOfField 29 = .ok (.iinc 4 1, 3) := by decide +kernel
theorem dX5_bitsOfField_32 : decode cX5_bitsOfField 32 = .ok (.goto (-20), 3) := by decide +kernel
theorem dX5_bitsOfField_35 : decode cX5_bitsOfField 35 = .ok (.iinc 3 1, 3) := by decide +kernel
theorem dX5_bitsOfField_38 : decode cX5_bitsOfField 38 = .ok (.goto (-34), 3) := by decide +kernel
theorem dX5_bitsOfField_41 : decode cX5_bitsOfField 41 = .ok (.iload_n 2, 1) := by decide +kernel
theorem dX5_bitsOfField_42 : decode cX5_bitsOfField 42 = .ok (.ireturn, 1) := by decide +kernel
theorem dX5_hasFailed_0 : decode cX5_hasFailed 0 = .ok (.iload_n 0, 1) := by decide +kernel
theorem dX5_hasFailed_1 : decode cX5_hasFailed 1 = .ok (.iload_n 1, 1) := by decide +kernel
theorem dX5_hasFailed_2 : decode cX5_hasFailed 2 = .ok (.ishr, 1) := by decide +kernel
theorem dX5_hasFailed_3 : decode cX5_hasFailed 3 = .ok (.iconst 1, 1) := by decide +kernel
theorem dX5_hasFailed_4 : decode cX5_hasFailed 4 = .ok (.iand, 1) := by decide +kernel
theorem dX5_hasFailed_5 : decode cX5_hasFailed 5 = .ok (.ifCond .eq 7, 3) := by decide +kernel
theorem dX5_hasFailed_8 : decode cX5_hasFailed 8 = .ok (.iconst 1, 1) := by decide +kernel
theorem dX5_hasFailed_9 : decode cX5_hasFailed 9 = .ok (.goto 4, 3) := by decide +kernel
theorem dX5_hasFailed_12 : decode cX5_hasFailed 12 = .ok (.iconst 0, 1) := by decide +kernel
theorem dX5_hasFailed_13 : decode cX5_hasFailed 13 = .ok (.ireturn, 1) := by decide +kernel
theorem dX5_layField_0 : decode cX5_layField 0 = .ok (.aload_n 0, 1) := by decide +kernel
theorem dX5_layField_1 : decode cX5_layField 1 = .ok (.getfield 19, 3) := by decide +kernel
theorem dX5_layField_4 : decode cX5_layField 4 = .ok (.iload 4, 2) := by decide +kernel
theorem dX5_layField_6 : decode cX5_layField 6 = .ok (.iconst 1, 1) := by decide +kernel
theorem dX5_layField_7 : decode cX5_layField 7 = .ok (.isub, 1) := by decide +kernel
theorem dX5_layField_8 : decode cX5_layField 8 = .ok (.iload_n 2, 1) := by decide +kernel
theorem dX5_layField_9 : decode cX5_layField 9 = .ok (.imul, 1) := by decide +kernel
theorem dX5_layField_10 : decode cX5_layField 10 = .ok (.iconst 1, 1) := by decide +kernel
theorem dX5_layField_11 : decode cX5_layField 11 = .ok (.iadd, 1) := by decide +kernel
theorem dX5_layField_12 : decode cX5_layField 12 = .ok (.iload 5, 2) := by decide +kernel
theorem dX5_layField_14 : decode cX5_layField 14 = .ok (.iconst 1, 1) := by decide +kernel
theorem dX5_layField_15 : decode cX5_layField 15 = .ok (.isub, 1) := by decide +kernel
theorem dX5_layField_16 : decode cX5_layField 16 = .ok (.iload_n 3, 1) := by decide +kernel
theorem dX5_layField_17 : decode cX5_layField 17 = .ok (.imul, 1) := by decide +kernel
theorem dX5_layField_18 : decode cX5_layField 18 = .ok (.iconst 1, 1) := by decide +kernel
theorem dX5_layField_19 : decode cX5_layField 19 = .ok (.iadd, 1) := by decide +kernel
theorem dX5_layField_20 : decode cX5_layField 20 = .ok (.invokevirtual 194, 3) := by decide +kernel
theorem dX5_layField_23 : decode cX5_layField 23 = .ok (.iconst 0, 1) := by decide +kernel
theorem dX5_layField_24 : decode cX5_layField 24 = .ok (.istore 7, 2) := by decide +kernel
theorem dX5_layField_26 : decode cX5_layField 26 = .ok (.iload 7, 2) := by decide +kernel
theorem dX5_layField_28 : decode cX5_layField 28 = .ok (.iload 5, 2) := by decide +kernel
theorem dX5_layField_30 : decode cX5_layField 30 = .ok (.if_icmp .ge 56, 3) := by decide +kernel
theorem dX5_layField_33 : decode cX5_layField 33 = .ok (.iconst 0, 1) := by decide +kernel
theorem dX5_layField_34 : decode cX5_layField 34 = .ok (.istore 8, 2) := by decide +kernel
theorem dX5_layField_36 : decode cX5_layField 36 = .ok (.iload 8, 2) := by decide +kernel
theorem dX5_layField_38 : decode cX5_layField 38 = .ok (.iload 4, 2) := by decide +kernel
theorem dX5_layField_40 : decode cX5_layField 40 = .ok (.if_icmp .ge 40, 3) := by decide +kernel
theorem dX5_layField_43 : decode cX5_layField 43 = .ok (.iload 6, 2) := by decide +kernel
theorem dX5_layField_45 : decode cX5_layField 45 = .ok (.iload 8, 2) := by decide +kernel
theorem dX5_layField_47 : decode cX5_layField 47 = .ok (.iload 7, 2) := by decide +kernel
theorem dX5_layField_49 : decode cX5_layField 49 = .ok (.invokestatic 191, 3) := by decide +kernel
theorem dX5_layField_52 : decode cX5_layField 52 = .ok (.invokestatic 197, 3) := by decide +kernel
theorem dX5_layField_55 : decode cX5_layField 55 = .ok (.ifCond .ne 19, 3) := by decide +kernel
theorem dX5_layField_58 : decode cX5_layField 58 = .ok (.aload_n 0, 1) := by decide +kernel
theorem dX5_layField_59 : decode cX5_layField 59 = .ok (.getfield 19, 3) := by decide +kernel
theorem dX5_layField_62 : decode cX5_layField 62 = .ok (.aload_n 1, 1) := by decide +kernel
theorem dX5_layField_63 : decode cX5_layField 63 = .ok (.iload 8, 2) := by decide +kernel
theorem dX5_layField_65 : decode cX5_layField 65 = .ok (.iload_n 2, 1) := by decide +kernel
theorem dX5_layField_66 : decode cX5_layField 66 = .ok (.imul, 1) := by decide +kernel
theorem dX5_layField_67 : decode cX5_layField 67 = .ok (.iload 7, 2) := by decide +kernel
theorem dX5_layField_69 : decode cX5_layField 69 = .ok (.iload_n 3, 1) := by decide +kernel
theorem dX5_layField_70 : decode cX5_layField 70 = .ok (.imul, 1) := by decide +kernel
theorem dX5_layField_71 : decode cX5_layField 71 = .ok (.invokevirtual 201, 3) := by decide +kernel
theorem dX5_layField_74 : decode cX5_layField 74 = .ok (.iinc 8 1, 3) := by decide +kernel
theorem dX5_layField_77 : decode cX5_layField 77 = .ok (.goto (-41), 3) := by decide +kernel
theorem dX5_layField_80 : decode cX5_layField 80 = .ok (.iinc 7 1, 3) := by decide +kernel
theorem dX5_layField_83 : decode cX5_layField 83 = .ok (.goto (-57), 3) := by decide +kernel
theorem dX5_layField_86 : decode cX5_layField 86 = .ok (.return_, 1) := by decide +kernel
theorem dX5_tellMissed_0 : decode cX5_tellMissed 0 = .ok (.ldc 204, 2) := by decide +kernel
theorem dX5_tellMissed_2 : decode cX5_tellMissed 2 = .ok (.istore 8, 2) := by decide +kernel
theorem dX5_tellMissed_4 : decode cX5_tellMissed 4 = .ok (.iconst (-1), 1) := by decide +kernel
theorem dX5_tellMissed_5 : decode cX5_tellMissed 5 = .ok (.istore 9, 2) := by decide +kernel
theorem dX5_tellMissed_7 : decode cX5_tellMissed 7 = .ok (.iconst 0, 1) := by decide +kernel
theorem dX5_tellMissed_8 : decode cX5_tellMissed 8 = .ok (.istore 10, 2) := by decide +kernel
theorem dX5_tellMissed_10 : decode cX5_tellMissed 10 = .ok (.iload 10, 2) := by decide +kernel
theorem dX5_tellMissed_12 : decode cX5_tellMissed 12 = .ok (.iload 5, 2) := by decide +kernel
theorem dX5_tellMissed_14 : decode cX5_tellMissed 14 = .ok (.if_icmp .ge 77, 3) := by decide +kernel
theorem dX5_tellMissed_17 : decode cX5_tellMissed 17 = .ok (.iconst 0, 1) := by decide +kernel
theorem dX5_tellMissed_18 : decode cX5_tellMissed 18 = .ok (.istore 11, 2) := by decide +kernel
theorem dX5_tellMissed_20 : decode cX5_tellMissed 20 = .ok (.iload 11, 2) := by decide +kernel
theorem dX5_tellMissed_22 : decode cX5_tellMissed 22 = .ok (.iload 4, 2) := by decide +kernel
theorem dX5_tellMissed_24 : decode cX5_tellMissed 24 = .ok (.if_icmp .ge 61, 3) := by decide +kernel
theorem dX5_tellMissed_27 : decode cX5_tellMissed 27 = .ok (.iload 11, 2) := by decide +kernel
theorem dX5_tellMissed_29 : decode cX5_tellMissed 29 = .ok (.iload 10, 2) := by decide +kernel
theorem dX5_tellMissed_31 : decode cX5_tellMissed 31 = .ok (.invokestatic 191, 3) := by decide +kernel
theorem dX5_tellMissed_34 : decode cX5_tellMissed 34 = .ok (.istore 12, 2) := by decide +kernel
theorem dX5_tellMissed_36 : decode cX5_tellMissed 36 = .ok (.aload_n 0, 1) := by decide +kernel
theorem dX5_tellMissed_37 : decode cX5_tellMissed 37 = .ok (.getfield 19, 3) := by decide +kernel
theorem dX5_tellMissed_40 : decode cX5_tellMissed 40 = .ok (.aload_n 1, 1) := by decide +kernel
theorem dX5_tellMissed_41 : decode cX5_tellMissed 41 = .ok (.iload 11, 2) := by decide +kernel
theorem dX5_tellMissed_43 : decode cX5_tellMissed 43 = .ok (.iload_n 2, 1) := by decide +kernel
theorem dX5_tellMissed_44 : decode cX5_tellMissed 44 = .ok (.imul, 1) := by decide +kernel
theorem dX5_tellMissed_45 : decode cX5_tellMissed 45 = .ok (.iload 10, 2) := by decide +kernel
theorem dX5_tellMissed_47 : decode cX5_tellMissed 47 = .ok (.iload_n 3, 1) := by decide +kernel
theorem dX5_tellMissed_48 : decode cX5_tellMissed 48 = .ok (.imul, 1) := by decide +kernel
theorem dX5_tellMissed_49 : decode cX5_tellMissed 49 = .ok (.invokevirtual 205, 3) := by decide +kernel
theorem dX5_tellMissed_52 : decode cX5_tellMissed 52 = .ok (.istore 13, 2) := by decide +kernel
theorem dX5_tellMissed_54 : decode cX5_tellMissed 54 = .ok (.iload 6, 2) := by decide +kernel
theorem dX5_tellMissed_56 : decode cX5_tellMissed 56 = .ok (.iload 12, 2) := by decide +kernel
theorem dX5_tellMissed_58 : decode cX5_tellMissed 58 = .ok (.invokestatic 197, 3) := by decide +kernel
theorem dX5_tellMissed_61 : decode cX5_tellMissed 61 = .ok (.ifCond .ne 18, 3) := by decide +kernel
theorem dX5_tellMissed_64 : decode cX5_tellMissed 64 = .ok (.iload 13, 2) := by decide +kernel
theorem dX5_tellMissed_66 : decode cX5_tellMissed 66 = .ok (.iload 9, 2) := by decide +kernel
theorem dX5_tellMissed_68 : decode cX5_tellMissed 68 = .ok (.if_icmp .le 11, 3) := by decide +kernel
theorem dX5_tellMissed_71 : decode cX5_tellMissed 71 = .ok (.iload 13, 2) := by decide +kernel
theorem dX5_tellMissed_73 : decode cX5_tellMissed 73 = .ok (.istore 9, 2) := by decide +kernel
theorem dX5_tellMissed_75 : decode cX5_tellMissed 75 = .ok (.iload 12, 2) := by decide +kernel
theorem dX5_tellMissed_77 : decode cX5_tellMissed 77 = .ok (.istore 8, 2) := by decide +kernel
theorem dX5_tellMissed_79 : decode cX5_tellMissed 79 = .ok (.iinc 11 1, 3) := by decide +kernel
theorem dX5_tellMissed_82 : decode cX5_tellMissed 82 = .ok (.goto (-62), 3) := by decide +kernel
theorem dX5_tellMissed_85 : decode cX5_tellMissed 85 = .ok (.iinc 10 1, 3) := by decide +kernel
theorem dX5_tellMissed_88 : decode cX5_tellMissed 88 = .ok (.goto (-78), 3) := by decide +kernel
theorem dX5_tellMissed_91 : decode cX5_tellMissed 91 = .ok (.iload 8, 2) := by decide +kernel
theorem dX5_tellMissed_93 : decode cX5_tellMissed 93 = .ok (.ldc 204, 2) := by decide +kernel
theorem dX5_tellMissed_95 : decode cX5_tellMissed 95 = .ok (.if_icmp .ne 6, 3) := by decide +kernel
theorem dX5_tellMissed_98 : decode cX5_tellMissed 98 = .ok (.ldc 204, 2) := by decide +kernel
theorem dX5_tellMissed_100 : decode cX5_tellMissed 100 = .ok (.ireturn, 1) := by decide +kernel
theorem dX5_tellMissed_101 : decode cX5_tellMissed 101 = .ok (.iload 7, 2) := by decide +kernel
theorem dX5_tellMissed_103 : decode cX5_tellMissed 103 = .ok (.bipush 10, 2) := by decide +kernel
theorem dX5_tellMissed_105 : decode cX5_tellMissed 105 = .ok (.if_icmp .ne 8, 3) := by decide +kernel
theorem dX5_tellMissed_108 : decode cX5_tellMissed 108 = .ok (.iload 8, 2) := by decide +kernel
theorem dX5_tellMissed_110 : decode cX5_tellMissed 110 = .ok (.goto 13, 3) := by decide +kernel
theorem dX5_tellMissed_113 : decode cX5_tellMissed 113 = .ok (.aload_n 0, 1) := by decide +kernel
theorem dX5_tellMissed_114 : decode cX5_tellMissed 114 = .ok (.getfield 19, 3) := by decide +kernel
theorem dX5_tellMissed_117 : decode cX5_tellMissed 117 = .ok (.invokevirtual 209, 3) := by decide +kernel
theorem dX5_tellMissed_120 : decode cX5_tellMissed 120 = .ok (.iload 9, 2) := by decide +kernel
theorem dX5_tellMissed_122 : decode cX5_tellMissed 122 = .ok (.isub, 1) := by decide +kernel
theorem dX5_tellMissed_123 : decode cX5_tellMissed 123 = .ok (.ireturn, 1) := by decide +kernel
