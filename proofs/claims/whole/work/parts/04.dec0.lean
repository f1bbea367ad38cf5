theorem dX0_init_0 : decode cX0_init 0 = .ok (.aload_n 0, 1) := by decide +kernel
theorem dX0_init_1 : decode cX0_init 1 = .ok (.invokespecial 3, 3) := by decide +kernel
theorem dX0_init_4 : decode cX0_init 4 = .ok (.return_, 1) := by decide +kernel
theorem dX0_forget_0 : decode cX0_forget 0 = .ok (.aload_n 0, 1) := by decide +kernel
theorem dX0_forget_1 : decode cX0_forget 1 = .ok (.iconst 0, 1) := by decide +kernel
theorem dX0_forget_2 : decode cX0_forget 2 = .ok (.putfield 9, 3) := by decide +kernel
theorem dX0_forget_5 : decode cX0_forget 5 = .ok (.return_, 1) := by decide +kernel
theorem dX0_weigh_0 : decode cX0_weigh 0 = .ok (.aload_n 0, 1) := by decide +kernel
theorem dX0_weigh_1 : decode cX0_weigh 1 = .ok (.getfield 9, 3) := by decide +kernel
theorem dX0_weigh_4 : decode cX0_weigh 4 = .ok (.ifCond .eq 16, 3) := by decide +kernel
theorem dX0_weigh_7 : decode cX0_weigh 7 = .ok (.aload_n 0, 1) := by decide +kernel
theorem dX0_weigh_8 : decode cX0_weigh 8 = .ok (.iload_n 1, 1) := by decide +kernel
theorem dX0_weigh_9 : decode cX0_weigh 9 = .ok (.iload_n 2, 1) := by decide +kernel
theorem dX0_weigh_10 : decode cX0_weigh 10 = .ok (.iload_n 3, 1) := by decide +kernel
theorem dX0_weigh_11 : decode cX0_weigh 11 = .ok (.aload 4, 2) := by decide +kernel
theorem dX0_weigh_13 : decode cX0_weigh 13 = .ok (.invokevirtual 15, 3) := by decide +kernel
theorem dX0_weigh_16 : decode cX0_weigh 16 = .ok (.ifCond .ne 4, 3) := by decide +kernel
theorem dX0_weigh_19 : decode cX0_weigh 19 = .ok (.return_, 1) := by decide +kernel
theorem dX0_weigh_20 : decode cX0_weigh 20 = .ok (.aload_n 0, 1) := by decide +kernel
theorem dX0_weigh_21 : decode cX0_weigh 21 = .ok (.iconst 1, 1) := by decide +kernel
theorem dX0_weigh_22 : decode cX0_weigh 22 = .ok (.putfield 9, 3) := by decide +kernel
theorem dX0_weigh_25 : decode cX0_weigh 25 = .ok (.aload_n 0, 1) := by decide +kernel
theorem dX0_weigh_26 : decode cX0_weigh 26 = .ok (.iload_n 1, 1) := by decide +kernel
theorem dX0_weigh_27 : decode cX0_weigh 27 = .ok (.putfield 19, 3) := by decide +kernel
theorem dX0_weigh_30 : decode cX0_weigh 30 = .ok (.aload_n 0, 1) := by decide +kernel
theorem dX0_weigh_31 : decode cX0_weigh 31 = .ok (.iload_n 2, 1) := by decide +kernel
theorem dX0_weigh_32 : decode cX0_weigh 32 = .ok (.putfield 23, 3) := by decide +kernel
theorem dX0_weigh_35 : decode cX0_weigh 35 = .ok (.aload_n 0, 1) := by decide +kernel
theorem dX0_weigh_36 : decode cX0_weigh 36 = .ok (.iload_n 3, 1) := by decide +kernel
theorem dX0_weigh_37 : decode cX0_weigh 37 = .ok (.putfield 26, 3) := by decide +kernel
theorem dX0_weigh_40 : decode cX0_weigh 40 = .ok (.aload_n 0, 1) := by decide +kernel
theorem dX0_weigh_41 : decode cX0_weigh 41 = .ok (.aload 4, 2) := by decide +kernel
theorem dX0_weigh_43 : decode cX0_weigh 43 = .ok (.invokevirtual 29, 3) := by decide +kernel
theorem dX0_weigh_46 : decode cX0_weigh 46 = .ok (.putfield 35, 3) := by decide +kernel
theorem dX0_weigh_49 : decode cX0_weigh 49 = .ok (.aload_n 0, 1) := by decide +kernel
theorem dX0_weigh_50 : decode cX0_weigh 50 = .ok (.aload 4, 2) := by decide +kernel
theorem dX0_weigh_52 : decode cX0_weigh 52 = .ok (.invokevirtual 37, 3) := by decide +kernel
theorem dX0_weigh_55 : decode cX0_weigh 55 = .ok (.putfield 40, 3) := by decide +kernel
theorem dX0_weigh_58 : decode cX0_weigh 58 = .ok (.return_, 1) := by decide +kernel
theorem dX0_tell_0 : decode cX0_tell 0 = .ok (.aload_n 0, 1) := by decide +kernel
theorem dX0_tell_1 : decode cX0_tell 1 = .ok (.getfield 9, 3) := by decide +kernel
theorem dX0_tell_4 : decode cX0_tell 4 = .ok (.ifCond .ne 6, 3) := by decide +kernel
theorem dX0_tell_7 : decode cX0_tell 7 = .ok (.ldc 42, 2) := by decide +kernel
theorem dX0_tell_9 : decode cX0_tell 9 = .ok (.ireturn, 1) := by decide +kernel
theorem dX0_tell_10 : decode cX0_tell 10 = .ok (.iload_n 1, 1) := by decide +kernel
theorem dX0_tell_11 : decode cX0_tell 11 = .ok (.tableswitch 58 0 4 #[33, 38, 43, 48, 53], 33) := by decide +kernel
theorem dX0_tell_44 : decode cX0_tell 44 = .ok (.aload_n 0, 1) := by decide +kernel
theorem dX0_tell_45 : decode cX0_tell 45 = .ok (.getfield 19, 3) := by decide +kernel
theorem dX0_tell_48 : decode cX0_tell 48 = .ok (.ireturn, 1) := by decide +kernel
theorem dX0_tell_49 : decode cX0_tell 49 = .ok (.aload_n 0, 1) := by decide +kernel
theorem dX0_tell_50 : decode cX0_tell 50 = .ok (.getfield 23, 3) := by decide +kernel
theorem dX0_tell_53 : decode cX0_tell 53 = .ok (.ireturn, 1) := by decide +kernel
theorem dX0_tell_54 : decode cX0_tell 54 = .ok (.aload_n 0, 1) := by decide +kernel
theorem dX0_tell_55 : decode cX0_tell 55 = .ok (.getfield 26, 3) := by decide +kernel
theorem dX0_tell_58 : decode cX0_tell 58 = .ok (.ireturn, 1) := by decide +kernel
theorem dX0_tell_59 : decode cX0_tell 59 = .ok (.aload_n 0, 1) := by decide +kernel
theorem dX0_tell_60 : decode cX0_tell 60 = .ok (.getfield 35, 3) := by decide +kernel
theorem dX0_tell_63 : decode cX0_tell 63 = .ok (.ireturn, 1) := by decide +kernel
theorem dX0_tell_64 : decode cX0_tell 64 = .ok (.aload_n 0, 1) := by decide +kernel
theorem dX0_tell_65 : decode cX0_tell 65 = .ok (.getfield 40, 3) := by decide +kernel
theorem dX0_tell_68 : decode cX0_tell 68 = .ok (.ireturn, 1) := by decide +kernel
theorem dX0_tell_69 : decode cX0_tell 69 = .ok (.ldc 43, 2) := by decide +kernel
theorem dX0_tell_71 : decode cX0_tell 71 = .ok (.ireturn, 1) := by decide +kernel
theorem dX0_isBetter_0 : decode cX0_isBetter 0 = .ok (.aload_n 0, 1) := by decide +kernel
theorem dX0_isBetter_1 : decode cX0_isBetter 1 = .ok (.getfield 35, 3) := by decide +kernel
theorem dX0_isBetter_4 : decode cX0_isBetter 4 = .ok (.i2l, 1) := by decide +kernel
theorem dX0_isBetter_5 : decode cX0_isBetter 5 = .ok (.aload 4, 2) := by decide +kernel
theorem dX0_isBetter_7 : decode cX0_isBetter 7 = .ok (.invokevirtual 37, 3) := by decide +kernel
theorem dX0_isBetter_10 : decode cX0_isBetter 10 = .ok (.i2l, 1) := by decide +kernel
theorem dX0_isBetter_11 : decode cX0_isBetter 11 = .ok (.lmul, 1) := by decide +kernel
theorem dX0_isBetter_12 : decode cX0_isBetter 12 = .ok (.lstore 5, 2) := by decide +kernel
theorem dX0_isBetter_14 : decode cX0_isBetter 14 = .ok (.aload 4, 2) := by decide +kernel
theorem dX0_isBetter_16 : decode cX0_isBetter 16 = .ok (.invokevirtual 29, 3) := by decide +kernel
theorem dX0_isBetter_19 : decode cX0_isBetter 19 = .ok (.i2l, 1) := by decide +kernel
theorem dX0_isBetter_20 : decode cX0_isBetter 20 = .ok (.aload_n 0, 1) := by decide +kernel
theorem dX0_isBetter_21 : decode cX0_isBetter 21 = .ok (.getfield 40, 3) := by decide +kernel
theorem dX0_isBetter_24 : decode cX0_isBetter 24 = .ok (.i2l, 1) := by decide +kernel
theorem dX0_isBetter_25 : decode cX0_isBetter 25 = .ok (.lmul, 1) := by decide +kernel
theorem dX0_isBetter_26 : decode cX0_isBetter 26 = .ok (.lstore 7, 2) := by decide +kernel
theorem dX0_isBetter_28 : decode cX0_isBetter 28 = .ok (.lload 7, 2) := by decide +kernel
theorem dX0_isBetter_30 : decode cX0_isBetter 30 = .ok (.lload 5, 2) := by decide +kernel
theorem dX0_isBetter_32 : decode cX0_isBetter 32 = .ok (.lcmp, 1) := by decide +kernel
theorem dX0_isBetter_33 : decode cX0_isBetter 33 = .ok (.ifCond .eq 17, 3) := by decide +kernel
theorem dX0_isBetter_36 : decode cX0_isBetter 36 = .ok (.lload 7, 2) := by decide +kernel
theorem dX0_isBetter_38 : decode cX0_isBetter 38 = .ok (.lload 5, 2) := by decide +kernel
theorem dX0_isBetter_40 : decode cX0_isBetter 40 = .ok (.lcmp, 1) := by decide +kernel
theorem dX0_isBetter_41 : decode cX0_isBetter 41 = .ok (.ifCond .le 7, 3) := by decide +kernel
theorem dX0_isBetter_44 : decode cX0_isBetter 44 = .ok (.iconst 1, 1) := by decide +kernel
theorem dX0_isBetter_45 : decode cX0_isBetter 45 = .ok (.goto 4, 3) := by decide +kernel
theorem dX0_isBetter_48 : decode cX0_isBetter 48 = .ok (.iconst 0, 1) := by decide +kernel
theorem dX0_isBetter_49 : decode cX0_isBetter 49 = .ok (.ireturn, 1) := by decide +kernel
theorem dX0_isBetter_50 : decode cX0_isBetter 50 = .ok (.iload_n 2, 1) := by decide +kernel
theorem dX0_isBetter_51 : decode cX0_isBetter 51 = .ok (.iload_n 3, 1) := by decide +kernel
theorem dX0_isBetter_52 : decode cX0_isBetter 52 = .ok (.imul, 1) := by decide +kernel
theorem dX0_isBetter_53 : decode cX0_isBetter 53 = .ok (.aload_n 0, 1) := by decide +kernel
theorem dX0_isBetter_54 : decode cX0_isBetter 54 = .ok (.getfield 23, 3) := by decide +kernel
theorem dX0_isBetter_57 : decode cX0_isBetter 57 = .ok (.aload_n 0, 1) := by decide +kernel
theorem dX0_isBetter_58 : decode cX0_isBetter 58 = .ok (.getfield 26, 3) := by decide +kernel
theorem dX0_isBetter_61 : decode cX0_isBetter 61 = .ok (.imul, 1) := by decide +kernel
theorem dX0_isBetter_62 : decode cX0_isBetter 62 = .ok (.if_icmp .eq 24, 3) := by decide +kernel
theorem dX0_isBetter_65 : decode cX0_isBetter 65 = .ok (.iload_n 2, 1) := by decide +kernel
theorem dX0_isBetter_66 : decode cX0_isBetter 66 = .ok (.iload_n 3, 1) := by decide +kernel
theorem dX0_isBetter_67 : decode cX0_isBetter 67 = .ok (.imul, 1) := by decide +kernel
theorem dX0_isBetter_68 : decode cX0_isBetter 68 = .ok (.aload_n 0, 1) := by decide +kernel
theorem dX0_isBetter_69 : decode cX0_isBetter 69 = .ok (.getfield 23, 3) := by decide +kernel
theorem dX0_isBetter_72 : decode cX0_isBetter 72 = .ok (.aload_n 0, 1) := by decide +kernel
theorem dX0_isBetter_73 : decode cX0_isBetter 73 = .ok (.getfield 26, 3) := by decide +kernel
theorem dX0_isBetter_76 : decode cX0_isBetter 76 = .ok (.imul, 1) := by decide +kernel
theorem dX0_isBetter_77 : decode cX0_isBetter 77 = .ok (.if_icmp .le 7, 3) := by decide +kernel
theorem dX0_isBetter_80 : decode cX0_isBetter 80 = .ok (.iconst 1, 1) := by decide +kernel
theorem dX0_isBetter_81 : decode cX0_isBetter 81 = .ok (.goto 4, 3) := by decide +kernel
theorem dX0_isBetter_84 : decode cX0_isBetter 84 = .ok (.iconst 0, 1) := by decide +kernel
theorem dX0_isBetter_85 : decode cX0_isBetter 85 = .ok (.ireturn, 1) := by decide +kernel
theorem dX0_isBetter_86 : decode cX0_isBetter 86 = .ok (.iload_n 2, 1) := by decide +kernel
theorem dX0_isBetter_87 : decode cX0_isBetter 87 = .ok (.aload_n 0, 1) := by decide +kernel
theorem dX0_isBetter_88 : decode cX0_isBetter 88 = .ok (.getfield 23, 3) := by decide +kernel
theorem dX0_isBetter_91 : decode cX0_isBetter 91 = .ok (.if_icmp .eq 19, 3) := by decide +kernel
theorem dX0_isBetter_94 : decode cX0_isBetter 94 = .ok (.iload_n 2, 1) := by decide +kernel
theorem dX0_isBetter_95 : decode cX0_isBetter 95 = .ok (.aload_n 0, 1) := by decide +kernel
theorem dX0_isBetter_96 : decode cX0_isBetter 96 = .ok (.getfield 23, 3) := by decide +kernel
theorem dX0_isBetter_99 : decode cX0_isBetter 99 = .ok (.if_icmp .ge 7, 3) := by decide +kernel
theorem dX0_isBetter_102 : decode cX0_isBetter 102 = .ok (.iconst 1, 1) := by decide +kernel
theorem dX0_isBetter_103 : decode cX0_isBetter 103 = .ok (.goto 20, 3) := by decide +kernel
theorem dX0_isBetter_106 : decode cX0_isBetter 106 = .ok (.iconst 0, 1) := by decide +kernel
theorem dX0_isBetter_107 : decode cX0_isBetter 107 = .ok (.goto 16, 3) := by decide +kernel
theorem dX0_isBetter_110 : decode cX0_isBetter 110 = .ok (.iload_n 1, 1) := by decide +kernel
theorem dX0_isBetter_111 : decode cX0_isBetter 111 = .ok (.aload_n 0, 1) := by decide +kernel
theorem dX0_isBetter_112 : decode cX0_isBetter 112 = .ok (.getfield 19, 3) := by decide +kernel
theorem dX0_isBetter_115 : decode cX0_isBetter 115 = .ok (.if_icmp .ge 7, 3) := by decide +kernel
theorem dX0_isBetter_118 : decode cX0_isBetter 118 = .ok (.iconst 1, 1) := by decide +kernel
theorem dX0_isBetter_119 : decode cX0_isBetter 119 = .ok (.goto 4, 3) := by decide +kernel
theorem dX0_isBetter_122 : decode cX0_isBetter 122 = .ok (.iconst 0, 1) := by decide +kernel
theorem dX0_isBetter_123 : decode cX0_isBetter 123 = .ok (.ireturn, 1) := by decide +kernel
theorem dX1_init_0 : decode cX1_init 0 = .ok (.aload_n 0, 1) := by decide +kernel
theorem dX1_init_1 : decode cX1_init 1 = .ok (.invokespecial 3, 3) := by decide +kernel
theorem dX1_init_4 : decode cX1_init 4 = .ok (.aload_n 0, 1) := by decide +kernel
theorem dX1_init_5 : decode cX1_init 5 = .ok (.sipush 361, 3) := by decide +kernel
theorem dX1_init_8 : decode cX1_init 8 = .ok (.newarray .int, 2) := by decide +kernel
theorem dX1_init_10 : decode cX1_init 10 = .ok (.putfield 11, 3) := by decide +kernel
theorem dX1_init_13 : decode cX1_init 13 = .ok (.aload_n 0, 1) := by decide +kernel
theorem dX1_init_14 : decode cX1_init 14 = .ok (.sipush 561, 3) := by decide +kernel
theorem dX1_init_17 : decode cX1_init 17 = .ok (.newarray .int, 2) := by decide +kernel
theorem dX1_init_19 : decode cX1_init 19 = .ok (.putfield 15, 3) := by decide +kernel
theorem dX1_init_22 : decode cX1_init 22 = .ok (.aload_n 0, 1) := by decide +kernel
theorem dX1_init_23 : decode cX1_init 23 = .ok (.new 18, 3) := by decide +kernel
theorem dX1_init_26 : decode cX1_init 26 = .ok (.dup, 1) := by decide +kernel
theorem dX1_init_27 : decode cX1_init 27 = .ok (.invokespecial 20, 3) := by decide +kernel
theorem dX1_init_30 : decode cX1_init 30 = .ok (.putfield 21, 3) := by decide +kernel
theorem dX1_init_33 : decode cX1_init 33 = .ok (.aload_n 0, 1) := by decide +kernel
theorem dX1_init_34 : decode cX1_init 34 = .ok (.iconst 1, 1) := by decide +kernel
theorem dX1_init_35 : decode cX1_init 35 = .ok (.putfield 25, 3) := by decide +kernel
theorem dX1_init_38 : decode cX1_init 38 = .ok (.aload_n 0, 1) := by decide +kernel
theorem dX1_init_39 : decode cX1_init 39 = .ok (.iconst 1, 1) := by decide +kernel
theorem dX1_init_40 : decode cX1_init 40 = .ok (.putfield 29, 3) := by decide +kernel
theorem dX1_init_43 : decode cX1_init 43 = .ok (.return_, 1) := by decide +kernel
theorem dX1_clear_0 : decode cX1_clear 0 = .ok (.aload_n 0, 1) := by decide +kernel
theorem dX1_clear_1 : decode cX1_clear 1 = .ok (.iconst 1, 1) := by decide +kernel
theorem dX1_clear_2 : decode cX1_clear 2 = .ok (.bipush 19, 2) := by decide +kernel
theorem dX1_clear_4 : decode cX1_clear 4 = .ok (.iload_n 1, 1) := by decide +kernel
theorem dX1_clear_5 : decode cX1_clear 5 = .ok (.invokestatic 32, 3) := by decide +kernel
theorem dX1_clear_8 : decode cX1_clear 8 = .ok (.invokestatic 38, 3) := by decide +kernel
theorem dX1_clear_11 : decode cX1_clear 11 = .ok (.putfield 25, 3) := by decide +kernel
theorem dX1_clear_14 : decode cX1_clear 14 = .ok (.aload_n 0, 1) := by decide +kernel
theorem dX1_clear_15 : decode cX1_clear 15 = .ok (.iconst 1, 1) := by decide +kernel
theorem dX1_clear_16 : decode cX1_clear 16 = .ok (.bipush 19, 2) := by decide +kernel
theorem dX1_clear_18 : decode cX1_clear 18 = .ok (.iload_n 2, 1) := by decide +kernel
theorem dX1_clear_19 : decode cX1_clear 19 = .ok (.invokestatic 32, 3) := by decide +kernel
theorem dX1_clear_22 : decode cX1_clear 22 = .ok (.invokestatic 38, 3) := by decide +kernel
theorem dX1_clear_25 : decode cX1_clear 25 = .ok (.putfield 29, 3) := by decide +kernel
theorem dX1_clear_28 : decode cX1_clear 28 = .ok (.iconst 0, 1) := by decide +kernel
theorem dX1_clear_29 : decode cX1_clear 29 = .ok (.istore_n 3, 1) := by decide +kernel
theorem dX1_clear_30 : decode cX1_clear 30 = .ok (.iload_n 3, 1) := by decide +kernel
theorem dX1_clear_31 : decode cX1_clear 31 = .ok (.aload_n 0, 1) := by decide +kernel
theorem dX1_clear_32 : decode cX1_clear 32 = .ok (.invokevirtual 41, 3) := by decide +kernel
theorem dX1_clear_35 : decode cX1_clear 35 = .ok (.if_icmp .ge 16, 3) := by decide +kernel
theorem dX1_clear_38 : decode cX1_clear 38 = .ok (.aload_n 0, 1) := by decide +kernel
theorem dX1_clear_39 : decode cX1_clear 39 = .ok (.getfield 11, 3) := by decide +kernel
theorem dX1_clear_42 : decode cX1_clear 42 = .ok (.iload_n 3, 1) := by decide +kernel
theorem dX1_clear_43 : decode cX1_clear 43 = .ok (.iconst 0, 1) := by decide +kernel
theorem dX1_clear_44 : decode cX1_clear 44 = .ok (.iastore, 1) := by decide +kernel
theorem dX1_clear_45 : decode cX1_clear 45 = .ok (.iinc 3 1, 3) := by decide +kernel
theorem dX1_clear_48 : decode cX1_clear 48 = .ok (.goto (-18), 3) := by decide +kernel
theorem dX1_clear_51 : decode cX1_clear 51 = .ok (.return_, 1) := by decide +kernel
theorem dX1_layTile_0 : decode cX1_layTile 0 = .ok (.aload_n 0, 1) := by decide +kernel
theorem dX1_layTile_1 : decode cX1_layTile 1 = .ok (.iload_n 3, 1) := by decide +kernel
theorem dX1_layTile_2 : decode cX1_layTile 2 = .ok (.iload_n 2, 1) := by decide +kernel
theorem dX1_layTile_3 : decode cX1_layTile 3 = .ok (.iconst 1, 1) := by decide +kernel
theorem dX1_layTile_4 : decode cX1_layTile 4 = .ok (.if_icmp .ne 10, 3) := by decide +kernel
theorem dX1_layTile_7 : decode cX1_layTile 7 = .ok (.iconst 2, 1) := by decide +kernel
theorem dX1_layTile_8 : decode cX1_layTile 8 = .ok (.iload 4, 2) := by decide +kernel
theorem dX1_layTile_10 : decode cX1_layTile 10 = .ok (.imul, 1) := by decide +kernel
theorem dX1_layTile_11 : decode cX1_layTile 11 = .ok (.goto 5, 3) := by decide +kernel
theorem dX1_layTile_14 : decode cX1_layTile 14 = .ok (.iload 4, 2) := by decide +kernel
theorem dX1_layTile_16 : decode cX1_layTile 16 = .ok (.invokevirtual 45, 3) := by decide +kernel
theorem dX1_layTile_19 : decode cX1_layTile 19 = .ok (.aload_n 0, 1) := by decide +kernel
theorem dX1_layTile_20 : decode cX1_layTile 20 = .ok (.aload_n 1, 1) := by decide +kernel
theorem dX1_layTile_21 : decode cX1_layTile 21 = .ok (.iconst 0, 1) := by decide +kernel
theorem dX1_layTile_22 : decode cX1_layTile 22 = .ok (.iconst 0, 1) := by decide +kernel
theorem dX1_layTile_23 : decode cX1_layTile 23 = .ok (.invokevirtual 49, 3) := by decide +kernel
theorem dX1_layTile_26 : decode cX1_layTile 26 = .ok (.iload_n 2, 1) := by decide +kernel
theorem dX1_layTile_27 : decode cX1_layTile 27 = .ok (.iconst 1, 1) := by decide +kernel
theorem dX1_layTile_28 : decode cX1_layTile 28 = .ok (.if_icmp .ne 13, 3) := by decide +kernel
theorem dX1_layTile_31 : decode cX1_layTile 31 = .ok (.aload_n 0, 1) := by decide +kernel
theorem dX1_layTile_32 : decode cX1_layTile 32 = .ok (.aload_n 1, 1) := by decide +kernel
theorem dX1_layTile_33 : decode cX1_layTile 33 = .ok (.iload_n 3, 1) := by decide +kernel
theorem dX1_layTile_34 : decode cX1_layTile 34 = .ok (.iconst 2, 1) := by decide +kernel
theorem dX1_layTile_35 : decode cX1_layTile 35 = .ok (.idiv, 1) := by decide +kernel
theorem dX1_layTile_36 : decode cX1_layTile 36 = .ok (.iload 4, 2) := by decide +kernel
theorem dX1_layTile_38 : decode cX1_layTile 38 = .ok (.invokevirtual 49, 3) := by decide +kernel
theorem dX1_layTile_41 : decode cX1_layTile 41 = .ok (.return_, 1) := by decide +kernel
theorem dX1_layInTurns_0 : decode cX1_layInTurns 0 = .ok (.aload_n 0, 1) := by decide +kernel
theorem dX1_layInTurns_1 : decode cX1_layInTurns 1 = .ok (.iconst 2, 1) := by decide +kernel
theorem dX1_layInTurns_2 : decode cX1_layInTurns 2 = .ok (.iload_n 3, 1) := by decide +kernel
theorem dX1_layInTurns_3 : decode cX1_layInTurns 3 = .ok (.imul, 1) := by decide +kernel
theorem dX1_layInTurns_4 : decode cX1_layInTurns 4 = .ok (.iconst 2, 1) := by decide +kernel
theorem dX1_layInTurns_5 : decode cX1_layInTurns 5 = .ok (.iload 4, 2) := by decide +kernel
theorem dX1_layInTurns_7 : decode cX1_layInTurns 7 = .ok (.imul, 1) := by decide +kernel
theorem dX1_layInTurns_8 : decode cX1_layInTurns 8 = .ok (.invokevirtual 45, 3) := by decide +kernel
theorem dX1_layInTurns_11 : decode cX1_layInTurns 11 = .ok (.aload_n 0, 1) := by decide +kernel
theorem dX1_layInTurns_12 : decode cX1_layInTurns 12 = .ok (.aload_n 1, 1) := by decide +kernel
theorem dX1_layInTurns_13 : decode cX1_layInTurns 13 = .ok (.iconst 0, 1) := by decide +kernel
theorem dX1_layInTurns_14 : decode cX1_layInTurns 14 = .ok (.iconst 0, 1) := by decide +kernel
theorem dX1_layInTurns_15 : decode cX1_layInTurns 15 = .ok (.invokevirtual 49, 3) := by decide +kernel
theorem dX1_layInTurns_18 : decode cX1_layInTurns 18 = .ok (.aload_n 0, 1) := by decide +kernel
theorem dX1_layInTurns_19 : decode cX1_layInTurns 19 = .ok (.aload_n 1, 1) := by decide +kernel
theorem dX1_layInTurns_20 : decode cX1_layInTurns 20 = .ok (.iload_n 3, 1) := by decide +kernel
theorem dX1_layInTurns_21 : decode cX1_layInTurns 21 = .ok (.iload 4, 2) := by decide +kernel
theorem dX1_layInTurns_23 : decode cX1_layInTurns 23 = .ok (.invokevirtual 49, 3) := by decide +kernel
theorem dX1_layInTurns_26 : decode cX1_layInTurns 26 = .ok (.aload_n 0, 1) := by decide +kernel
theorem dX1_layInTurns_27 : decode cX1_layInTurns 27 = .ok (.aload_n 2, 1) := by decide +kernel
theorem dX1_layInTurns_28 : decode cX1_layInTurns 28 = .ok (.iload_n 3, 1) := by decide +kernel
theorem dX1_layInTurns_29 : decode cX1_layInTurns 29 = .ok (.iconst 0, 1) := by decide +kernel
theorem dX1_layInTurns_30 : decode cX1_layInTurns 30 = .ok (.invokevirtual 49, 3) := by decide +kernel
theorem dX1_layInTurns_33 : decode cX1_layInTurns 33 = .ok (.aload_n 0, 1) := by decide +kernel
theorem dX1_layInTurns_34 : decode cX1_layInTurns 34 = .ok (.aload_n 2, 1) := by decide +kernel
theorem dX1_layInTurns_35 : decode cX1_layInTurns 35 = .ok (.iconst 0, 1) := by decide +kernel
theorem dX1_layInTurns_36 : decode cX1_layInTurns 36 = .ok (.iload 4, 2) := by decide +kernel
theorem dX1_layInTurns_38 : decode cX1_layInTurns 38 = .ok (.invokevirtual 49, 3) := by decide +kernel
theorem dX1_layInTurns_41 : decode cX1_layInTurns 41 = .ok (.return_, 1) := by decide +kernel
theorem dX1_addWrapped_0 : decode cX1_addWrapped 0 = .ok (.aload_n 1, 1) := by decide +kernel
theorem dX1_addWrapped_1 : decode cX1_addWrapped 1 = .ok (.invokevirtual 53, 3) := by decide +kernel
theorem dX1_addWrapped_4 : decode cX1_addWrapped 4 = .ok (.istore 4, 2) := by decide +kernel
theorem dX1_addWrapped_6 : decode cX1_addWrapped 6 = .ok (.iload 4, 2) := by decide +kernel
theorem dX1_addWrapped_8 : decode cX1_addWrapped 8 = .ok (.ineg, 1) := by decide +kernel
theorem dX1_addWrapped_9 : decode cX1_addWrapped 9 = .ok (.istore 5, 2) := by decide +kernel
theorem dX1_addWrapped_11 : decode cX1_addWrapped 11 = .ok (.iload 5, 2) := by decide +kernel
theorem dX1_addWrapped_13 : decode cX1_addWrapped 13 = .ok (.iload 4, 2) := by decide +kernel
theorem dX1_addWrapped_15 : decode cX1_addWrapped 15 = .ok (.if_icmp .gt 55, 3) := by decide +kernel
theorem dX1_addWrapped_18 : decode cX1_addWrapped 18 = .ok (.iload 4, 2) := by decide +kernel
theorem dX1_addWrapped_20 : decode cX1_addWrapped 20 = .ok (.ineg, 1) := by decide +kernel
theorem dX1_addWrapped_21 : decode cX1_addWrapped 21 = .ok (.istore 6, 2) := by decide +kernel
theorem dX1_addWrapped_23 : decode cX1_addWrapped 23 = .ok (.iload 6, 2) := by decide +kernel
theorem dX1_addWrapped_25 : decode cX1_addWrapped 25 = .ok (.iload 4, 2) := by decide +kernel
theorem dX1_addWrapped_27 : decode cX1_addWrapped 27 = .ok (.if_icmp .gt 37, 3) := by decide +kernel
theorem dX1_addWrapped_30 : decode cX1_addWrapped 30 = .ok (.aload_n 0, 1) := by decide +kernel
theorem dX1_addWrapped_31 : decode cX1_addWrapped 31 = .ok (.getfield 11, 3) := by decide +kernel
theorem dX1_addWrapped_34 : decode cX1_addWrapped 34 = .ok (.aload_n 0, 1) := by decide +kernel
theorem dX1_addWrapped_35 : decode cX1_addWrapped 35 = .ok (.iload_n 2, 1) := by decide +kernel
theorem dX1_addWrapped_36 : decode cX1_addWrapped 36 = .ok (.iload 6, 2) := by decide +kernel
theorem dX1_addWrapped_38 : decode cX1_addWrapped 38 = .ok (.iadd, 1) := by decide +kernel
theorem dX1_addWrapped_39 : decode cX1_addWrapped 39 = .ok (.iload_n 3, 1) := by decide +kernel
theorem dX1_addWrapped_40 : decode cX1_addWrapped 40 = .ok (.iload 5, 2) := by decide +kernel
theorem dX1_addWrapped_42 : decode cX1_addWrapped 42 = .ok (.iadd, 1) := by decide +kernel
theorem dX1_addWrapped_43 : decode cX1_addWrapped 43 = .ok (.invokevirtual 58, 3) := by decide +kernel
theorem dX1_addWrapped_46 : decode cX1_addWrapped 46 = .ok (.dup2, 1) := by decide +kernel
theorem dX1_addWrapped_47 : decode cX1_addWrapped 47 = .ok (.iaload, 1) := by decide +kernel
theorem dX1_addWrapped_48 : decode cX1_addWrapped 48 = .ok (.aload_n 1, 1) := by decide +kernel
theorem dX1_addWrapped_49 : decode cX1_addWrapped 49 = .ok (.iload 6, 2) := by decide +kernel
theorem dX1_addWrapped_51 : decode cX1_addWrapped 51 = .ok (.iload 5, 2) := by decide +kernel
theorem dX1_addWrapped_53 : decode cX1_addWrapped 53 = .ok (.invokevirtual 61, 3) := by decide +kernel
theorem dX1_addWrapped_56 : decode cX1_addWrapped 56 = .ok (.iadd, 1) := by decide +kernel
theorem dX1_addWrapped_57 : decode cX1_addWrapped 57 = .ok (.iastore, 1) := by decide +kernel
theorem dX1_addWrapped_58 : decode cX1_addWrapped 58 = .ok (.iinc 6 1, 3) := by decide +kernel
theorem dX1_addWrapped_61 : decode cX1_addWrapped 61 = .ok (.goto (-38), 3) := by decide +kernel
theorem dX1_addWrapped_64 : decode cX1_addWrapped 64 = .ok (.iinc 5 1, 3) := by decide +kernel
theorem dX1_addWrapped_67 : decode cX1_addWrapped 67 = .ok (.goto (-56), 3) := by decide +kernel
theorem dX1_addWrapped_70 : decode cX1_addWrapped 70 = .ok (.return_, 1) := by decide +kernel
theorem dX1_addWithin_0 : decode cX1_addWithin 0 = .ok (.iconst 0, 1) := by decide +kernel
theorem dX1_addWithin_1 : decode cX1_addWithin 1 = .ok (.istore 4, 2) := by decide +kernel
theorem dX1_addWithin_3 : decode cX1_addWithin 3 = .ok (.iload 4, 2) := by decide +kernel
theorem dX1_addWithin_5 : decode cX1_addWithin 5 = .ok (.aload_n 0, 1) := by decide +kernel
theorem dX1_addWithin_6 : decode cX1_addWithin 6 = .ok (.getfield 29, 3) := by decide +kernel
theorem dX1_addWithin_9 : decode cX1_addWithin 9 = .ok (.if_icmp .ge 57, 3) := by decide +kernel
theorem dX1_addWithin_12 : decode cX1_addWithin 12 = .ok (.iconst 0, 1) := by decide +kernel
theorem dX1_addWithin_13 : decode cX1_addWithin 13 = .ok (.istore 5, 2) := by decide +kernel
theorem dX1_addWithin_15 : decode cX1_addWithin 15 = .ok (.iload 5, 2) := by decide +kernel
theorem dX1_addWithin_17 : decode cX1_addWithin 17 = .ok (.aload_n 0, 1) := by decide +kernel
theorem dX1_addWithin_18 : decode cX1_addWithin 18 = .ok (.getfield 25, 3) := by decide +kernel
theorem dX1_addWithin_21 : decode cX1_addWithin 21 = .ok (.if_icmp .ge 39, 3) := by decide +kernel
theorem dX1_addWithin_24 : decode cX1_addWithin 24 = .ok (.aload_n 0, 1) := by decide +kernel
theorem dX1_addWithin_25 : decode cX1_addWithin 25 = .ok (.getfield 11, 3) := by decide +kernel
theorem dX1_addWithin_28 : decode cX1_addWithin 28 = .ok (.iload 4, 2) := by decide +kernel
theorem dX1_addWithin_30 : decode cX1_addWithin 30 = .ok (.aload_n 0, 1) := by decide +kernel
theorem dX1_addWithin_31 : decode cX1_addWithin 31 = .ok (.getfield 25, 3) := by decide +kernel
theorem dX1_addWithin_34 : decode cX1_addWithin 34 = .ok (.imul, 1) := by decide +kernel
theorem dX1_addWithin_35 : decode cX1_addWithin 35 = .ok (.iload 5, 2) := by decide +kernel
theorem dX1_addWithin_37 : decode cX1_addWithin 37 = .ok (.iadd, 1) := by decide +kernel
theorem dX1_addWithin_38 : decode cX1_addWithin 38 = .ok (.dup2, 1) := by decide +kernel
theorem dX1_addWithin_39 : decode cX1_addWithin 39 = .ok (.iaload, 1) := by decide +kernel
theorem dX1_addWithin_40 : decode cX1_addWithin 40 = .ok (.aload_n 1, 1) := by decide +kernel
theorem dX1_addWithin_41 : decode cX1_addWithin 41 = .ok (.iload 5, 2) := by decide +kernel
theorem dX1_addWithin_43 : decode cX1_addWithin 43 = .ok (.iload_n 2, 1) := by decide +kernel
theorem dX1_addWithin_44 : decode cX1_addWithin 44 = .ok (.isub, 1) := by decide +kernel
theorem dX1_addWithin_45 : decode cX1_addWithin 45 = .ok (.iload 4, 2) := by decide +kernel
theorem dX1_addWithin_47 : decode cX1_addWithin 47 = .ok (.iload_n 3, 1) := by decide +kernel
theorem dX1_addWithin_48 : decode cX1_addWithin 48 = .ok (.isub, 1) := by decide +kernel
theorem dX1_addWithin_49 : decode cX1_addWithin 49 = .ok (.invokevirtual 61, 3) := by decide +kernel
theorem dX1_addWithin_52 : decode cX1_addWithin 52 = .ok (.iadd, 1) := by decide +kernel
theorem dX1_addWithin_53 : decode cX1_addWithin 53 = .ok (.iastore, 1) := by decide +kernel
theorem dX1_addWithin_54 : decode cX1_addWithin 54 = .ok (.iinc 5 1, 3) := by decide +kernel
theorem dX1_addWithin_57 : decode cX1_addWithin 57 = .ok (.goto (-42), 3) := by decide +kernel
theorem dX1_addWithin_60 : decode cX1_addWithin 60 = .ok (.iinc 4 1, 3) := by decide +kernel
theorem dX1_addWithin_63 : decode cX1_addWithin 63 = .ok (.goto (-60), 3) := by decide +kernel
theorem dX1_addWithin_66 : decode cX1_addWithin 66 = .ok (.return_, 1) := by decide +kernel
theorem dX1_shareWithin_0 : decode cX1_shareWithin 0 = .ok (.iconst 0, 1) := by decide +kernel
theorem dX1_shareWithin_1 : decode cX1_shareWithin 1 = .ok (.istore 4, 2) := by decide +kernel
theorem dX1_shareWithin_3 : decode cX1_shareWithin 3 = .ok (.iconst 0, 1) := by decide +kernel
theorem dX1_shareWithin_4 : decode cX1_shareWithin 4 = .ok (.istore 5, 2) := by decide +kernel
theorem dX1_shareWithin_6 : decode cX1_shareWithin 6 = .ok (.iload 5, 2) := by decide +kernel
theorem dX1_shareWithin_8 : decode cX1_shareWithin 8 = .ok (.aload_n 0, 1) := by decide +kernel
theorem dX1_shareWithin_9 : decode cX1_shareWithin 9 = .ok (.getfield 29, 3) := by decide +kernel
theorem dX1_shareWithin_12 : decode cX1_shareWithin 12 = .ok (.if_icmp .ge 44, 3) := by decide +kernel
theorem dX1_shareWithin_15 : decode cX1_shareWithin 15 = .ok (.iconst 0, 1) := by decide +kernel
theorem dX1_shareWithin_16 : decode cX1_shareWithin 16 = .ok (.istore 6, 2) := by decide +kernel
theorem dX1_shareWithin_18 : decode cX1_shareWithin 18 = .ok (.iload 6, 2) := by decide +kernel
theorem dX1_shareWithin_20 : decode cX1_shareWithin 20 = .ok (.aload_n 0, 1) := by decide +kernel
theorem dX1_shareWithin_21 : decode cX1_shareWithin 21 = .ok (.getfield 25, 3) := by decide +kernel
theorem dX1_shareWithin_24 : decode cX1_shareWithin 24 = .ok (.if_icmp .ge 26, 3) := by decide +kernel
theorem dX1_shareWithin_27 : decode cX1_shareWithin 27 = .ok (.iload 4, 2) := by decide +kernel
theorem dX1_shareWithin_29 : decode cX1_shareWithin 29 = .ok (.aload_n 1, 1) := by decide +kernel
theorem dX1_shareWithin_30 : decode cX1_shareWithin 30 = .ok (.iload 6, 2) := by decide +kernel
theorem dX1_shareWithin_32 : decode cX1_shareWithin 32 = .ok (.iload_n 2, 1) := by decide +kernel
theorem dX1_shareWithin_33 : decode cX1_shareWithin 33 = .ok (.isub, 1) := by decide +kernel
theorem dX1_shareWithin_34 : decode cX1_shareWithin 34 = .ok (.iload 5, 2) := by decide +kernel
theorem dX1_shareWithin_36 : decode cX1_shareWithin 36 = .ok (.iload_n 3, 1) := by decide +kernel
theorem dX1_shareWithin_37 : decode cX1_shareWithin 37 = .ok (.isub, 1) := by decide +kernel
theorem dX1_shareWithin_38 : decode cX1_shareWithin 38 = .ok (.invokevirtual 61, 3) := by decide +kernel
theorem dX1_shareWithin_41 : decode cX1_shareWithin 41 = .ok (.iadd, 1) := by decide +kernel
theorem dX1_shareWithin_42 : decode cX1_shareWithin 42 = .ok (.istore 4, 2) := by decide +kernel
theorem dX1_shareWithin_44 : decode cX1_shareWithin 44 = .ok (.iinc 6 1, 3) := by decide +kernel
theorem dX1_shareWithin_47 : decode cX1_shareWithin 47 = .ok (.goto (-29), 3) := by decide +kernel
theorem dX1_shareWithin_50 : decode cX1_shareWithin 50 = .ok (.iinc 5 1, 3) := by decide +kernel
theorem dX1_shareWithin_53 : decode cX1_shareWithin 53 = .ok (.goto (-47), 3) := by decide +kernel
theorem dX1_shareWithin_56 : decode cX1_shareWithin 56 = .ok (.iload 4, 2) := by decide +kernel
theorem dX1_shareWithin_58 : decode cX1_shareWithin 58 = .ok (.ireturn, 1) := by decide +kernel
theorem dX1_wrappedAt_0 : decode cX1_wrappedAt 0 = .ok (.aload_n 0, 1) := by decide +kernel
theorem dX1_wrappedAt_1 : decode cX1_wrappedAt 1 = .ok (.getfield 11, 3) := by decide +kernel
theorem dX1_wrappedAt_4 : decode cX1_wrappedAt 4 = .ok (.aload_n 0, 1) := by decide +kernel
theorem dX1_wrappedAt_5 : decode cX1_wrappedAt 5 = .ok (.iload_n 1, 1) := by decide +kernel
theorem dX1_wrappedAt_6 : decode cX1_wrappedAt 6 = .ok (.iload_n 2, 1) := by decide +kernel
theorem dX1_wrappedAt_7 : decode cX1_wrappedAt 7 = .ok (.invokevirtual 58, 3) := by decide +kernel
theorem dX1_wrappedAt_10 : decode cX1_wrappedAt 10 = .ok (.iaload, 1) := by decide +kernel
theorem dX1_wrappedAt_11 : decode cX1_wrappedAt 11 = .ok (.ireturn, 1) := by decide +kernel
theorem dX1_tell_0 : decode cX1_tell 0 = .ok (.iload_n 1, 1) := by decide +kernel
theorem dX1_tell_1 : decode cX1_tell 1 = .ok (.tableswitch 152 0 7 #[47, 52, 57, 67, 72, 92, 112, 132], 47) := by decide +kernel
theorem dX1_tell_48 : decode cX1_tell 48 = .ok (.aload_n 0, 1) := by decide +kernel
theorem dX1_tell_49 : decode cX1_tell 49 = .ok (.invokevirtual 41, 3) := by decide +kernel
theorem dX1_tell_52 : decode cX1_tell 52 = .ok (.ireturn, 1) := by decide +kernel
theorem dX1_tell_53 : decode cX1_tell 53 = .ok (.aload_n 0, 1) := by decide +kernel
theorem dX1_tell_54 : decode cX1_tell 54 = .ok (.invokevirtual 64, 3) := by decide +kernel
theorem dX1_tell_57 : decode cX1_tell 57 = .ok (.ireturn, 1) := by decide +kernel
theorem dX1_tell_58 : decode cX1_tell 58 = .ok (.aload_n 0, 1) := by decide +kernel
theorem dX1_tell_59 : decode cX1_tell 59 = .ok (.getfield 11, 3) := by decide +kernel
theorem dX1_tell_62 : decode cX1_tell 62 = .ok (.aload_n 0, 1) := by decide +kernel
theorem dX1_tell_63 : decode cX1_tell 63 = .ok (.invokevirtual 67, 3) := by decide +kernel
theorem dX1_tell_66 : decode cX1_tell 66 = .ok (.iaload, 1) := by decide +kernel
theorem dX1_tell_67 : decode cX1_tell 67 = .ok (.ireturn, 1) := by decide +kernel
theorem dX1_tell_68 : decode cX1_tell 68 = .ok (.aload_n 0, 1) := by decide +kernel
theorem dX1_tell_69 : decode cX1_tell 69 = .ok (.invokevirtual 70, 3) := by decide +kernel
theorem dX1_tell_72 : decode cX1_tell 72 = .ok (.ireturn, 1) := by decide +kernel
theorem dX1_tell_73 : decode cX1_tell 73 = .ok (.aload_n 0, 1) := by decide +kernel
theorem dX1_tell_74 : decode cX1_tell 74 = .ok (.invokevirtual 64, 3) := by decide +kernel
theorem dX1_tell_77 : decode cX1_tell 77 = .ok (.ifCond .ne 8, 3) := by decide +kernel
theorem dX1_tell_80 : decode cX1_tell 80 = .ok (.ldc 73, 2) := by decide +kernel
theorem dX1_tell_82 : decode cX1_tell 82 = .ok (.goto 10, 3) := by decide +kernel
theorem dX1_tell_85 : decode cX1_tell 85 = .ok (.aload_n 0, 1) := by decide +kernel
theorem dX1_tell_86 : decode cX1_tell 86 = .ok (.invokevirtual 74, 3) := by decide +kernel
theorem dX1_tell_89 : decode cX1_tell 89 = .ok (.invokevirtual 78, 3) := by decide +kernel
theorem dX1_tell_92 : decode cX1_tell 92 = .ok (.ireturn, 1) := by decide +kernel
theorem dX1_tell_93 : decode cX1_tell 93 = .ok (.aload_n 0, 1) := by decide +kernel
theorem dX1_tell_94 : decode cX1_tell 94 = .ok (.invokevirtual 64, 3) := by decide +kernel
theorem dX1_tell_97 : decode cX1_tell 97 = .ok (.ifCond .ne 8, 3) := by decide +kernel
theorem dX1_tell_100 : decode cX1_tell 100 = .ok (.ldc 73, 2) := by decide +kernel
theorem dX1_tell_102 : decode cX1_tell 102 = .ok (.goto 10, 3) := by decide +kernel
theorem dX1_tell_105 : decode cX1_tell 105 = .ok (.aload_n 0, 1) := by decide +kernel
theorem dX1_tell_106 : decode cX1_tell 106 = .ok (.invokevirtual 74, 3) := by decide +kernel
theorem dX1_tell_109 : decode cX1_tell 109 = .ok (.invokevirtual 81, 3) := by decide +kernel
theorem dX1_tell_112 : decode cX1_tell 112 = .ok (.ireturn, 1) := by decide +kernel
theorem dX1_tell_113 : decode cX1_tell 113 = .ok (.aload_n 0, 1) := by decide +kernel
theorem dX1_tell_114 : decode cX1_tell 114 = .ok (.invokevirtual 64, 3) := by decide +kernel
theorem dX1_tell_117 : decode cX1_tell 117 = .ok (.ifCond .ne 8, 3) := by decide +kernel
theorem dX1_tell_120 : decode cX1_tell 120 = .ok (.ldc 73, 2) := by decide +kernel
theorem dX1_tell_122 : decode cX1_tell 122 = .ok (.goto 10, 3) := by decide +kernel
theorem dX1_tell_125 : decode cX1_tell 125 = .ok (.aload_n 0, 1) := by decide +kernel
theorem dX1_tell_126 : decode cX1_tell 126 = .ok (.invokevirtual 84, 3) := by decide +kernel
theorem dX1_tell_129 : decode cX1_tell 129 = .ok (.invokevirtual 78, 3) := by decide +kernel
theorem dX1_tell_132 : decode cX1_tell 132 = .ok (.ireturn, 1) := by decide +kernel
theorem dX1_tell_133 : decode cX1_tell 133 = .ok (.aload_n 0, 1) := by decide +kernel
theorem dX1_tell_134 : decode cX1_tell 134 = .ok (.invokevirtual 64, 3) := by decide +kernel
theorem dX1_tell_137 : decode cX1_tell 137 = .ok (.ifCond .ne 8, 3) := by decide +kernel
theorem dX1_tell_140 : decode cX1_tell 140 = .ok (.ldc 73, 2) := by decide +kernel
theorem dX1_tell_142 : decode cX1_tell 142 = .ok (.goto 10, 3) := by decide +kernel
theorem dX1_tell_145 : decode cX1_tell 145 = .ok (.aload_n 0, 1) := by decide +kernel
theorem dX1_tell_146 : decode cX1_tell 146 = .ok (.invokevirtual 84, 3) := by decide +kernel
theorem dX1_tell_149 : decode cX1_tell 149 = .ok (.invokevirtual 81, 3) := by decide +kernel
theorem dX1_tell_152 : decode cX1_tell 152 = .ok (.ireturn, 1) := by decide +kernel
theorem dX1_tell_153 : decode cX1_tell 153 = .ok (.ldc 87, 2) := by decide +kernel
theorem dX1_tell_155 : decode cX1_tell 155 = .ok (.ireturn, 1) := by decide +kernel
theorem dX1_total_0 : decode cX1_total 0 = .ok (.iconst 0, 1) := by decide +kernel
theorem dX1_total_1 : decode cX1_total 1 = .ok (.istore_n 1, 1) := by decide +kernel
theorem dX1_total_2 : decode cX1_total 2 = .ok (.iconst 0, 1) := by decide +kernel
theorem dX1_total_3 : decode cX1_total 3 = .ok (.istore_n 2, 1) := by decide +kernel
theorem dX1_total_4 : decode cX1_total 4 = .ok (.iload_n 2, 1) := by decide +kernel
theorem dX1_total_5 : decode cX1_total 5 = .ok (.aload_n 0, 1) := by decide +kernel
theorem dX1_total_6 : decode cX1_total 6 = .ok (.invokevirtual 41, 3) := by decide +kernel
theorem dX1_total_9 : decode cX1_total 9 = .ok (.if_icmp .ge 18, 3) := by decide +kernel
theorem dX1_total_12 : decode cX1_total 12 = .ok (.iload_n 1, 1) := by decide +kernel
theorem dX1_total_13 : decode cX1_total 13 = .ok (.aload_n 0, 1) := by decide +kernel
theorem dX1_total_14 : decode cX1_total 14 = .ok (.getfield 11, 3) := by decide +kernel
theorem dX1_total_17 : decode cX1_total 17 = .ok (.iload_n 2, 1) := by decide +kernel
theorem dX1_total_18 : decode cX1_total 18 = .ok (.iaload, 1) := by decide +kernel
theorem dX1_total_19 : decode cX1_total 19 = .ok (.iadd, 1) := by decide +kernel
theorem dX1_total_20 : decode cX1_total 20 = .ok (.istore_n 1, 1) := by decide +kernel
theorem dX1_total_21 : decode cX1_total 21 = .ok (.iinc 2 1, 3) := by decide +kernel
theorem dX1_total_24 : decode cX1_total 24 = .ok (.goto (-20), 3) := by decide +kernel
theorem dX1_total_27 : decode cX1_total 27 = .ok (.iload_n 1, 1) := by decide +kernel
theorem dX1_total_28 : decode cX1_total 28 = .ok (.ireturn, 1) := by decide +kernel
theorem dX1_even_0 : decode cX1_even 0 = .ok (.aload_n 0, 1) := by decide +kernel
theorem dX1_even_1 : decode cX1_even 1 = .ok (.invokevirtual 41, 3) := by decide +kernel
theorem dX1_even_4 : decode cX1_even 4 = .ok (.istore_n 1, 1) := by decide +kernel
theorem dX1_even_5 : decode cX1_even 5 = .ok (.aload_n 0, 1) := by decide +kernel
theorem dX1_even_6 : decode cX1_even 6 = .ok (.invokevirtual 64, 3) := by decide +kernel
theorem dX1_even_9 : decode cX1_even 9 = .ok (.istore_n 2, 1) := by decide +kernel
theorem dX1_even_10 : decode cX1_even 10 = .ok (.iconst 0, 1) := by decide +kernel
theorem dX1_even_11 : decode cX1_even 11 = .ok (.istore_n 3, 1) := by decide +kernel
theorem dX1_even_12 : decode cX1_even 12 = .ok (.iconst 0, 1) := by decide +kernel
theorem dX1_even_13 : decode cX1_even 13 = .ok (.istore 4, 2) := by decide +kernel
theorem dX1_even_15 : decode cX1_even 15 = .ok (.iload 4, 2) := by decide +kernel
theorem dX1_even_17 : decode cX1_even 17 = .ok (.iload_n 1, 1) := by decide +kernel
theorem dX1_even_18 : decode cX1_even 18 = .ok (.if_icmp .ge 26, 3) := by decide +kernel
theorem dX1_even_21 : decode cX1_even 21 = .ok (.iload_n 3, 1) := by decide +kernel
theorem dX1_even_22 : decode cX1_even 22 = .ok (.iload_n 1, 1) := by decide +kernel
theorem dX1_even_23 : decode cX1_even 23 = .ok (.aload_n 0, 1) := by decide +kernel
theorem dX1_even_24 : decode cX1_even 24 = .ok (.getfield 11, 3) := by decide +kernel
theorem dX1_even_27 : decode cX1_even 27 = .ok (.iload 4, 2) := by decide +kernel
theorem dX1_even_29 : decode cX1_even 29 = .ok (.iaload, 1) := by decide +kernel
theorem dX1_even_30 : decode cX1_even 30 = .ok (.imul, 1) := by decide +kernel
theorem dX1_even_31 : decode cX1_even 31 = .ok (.iload_n 2, 1) := by decide +kernel
theorem dX1_even_32 : decode cX1_even 32 = .ok (.isub, 1) := by decide +kernel
theorem dX1_even_33 : decode cX1_even 33 = .ok (.invokestatic 88, 3) := by decide +kernel
theorem dX1_even_36 : decode cX1_even 36 = .ok (.iadd, 1) := by decide +kernel
theorem dX1_even_37 : decode cX1_even 37 = .ok (.istore_n 3, 1) := by decide +kernel
theorem dX1_even_38 : decode cX1_even 38 = .ok (.iinc 4 1, 3) := by decide +kernel
theorem dX1_even_41 : decode cX1_even 41 = .ok (.goto (-26), 3) := by decide +kernel
theorem dX1_even_44 : decode cX1_even 44 = .ok (.aload_n 0, 1) := by decide +kernel
theorem dX1_even_45 : decode cX1_even 45 = .ok (.getfield 21, 3) := by decide +kernel
theorem dX1_even_48 : decode cX1_even 48 = .ok (.iload_n 1, 1) := by decide +kernel
theorem dX1_even_49 : decode cX1_even 49 = .ok (.iload_n 2, 1) := by decide +kernel
theorem dX1_even_50 : decode cX1_even 50 = .ok (.imul, 1) := by decide +kernel
theorem dX1_even_51 : decode cX1_even 51 = .ok (.iload_n 3, 1) := by decide +kernel
theorem dX1_even_52 : decode cX1_even 52 = .ok (.isub, 1) := by decide +kernel
theorem dX1_even_53 : decode cX1_even 53 = .ok (.iload_n 1, 1) := by decide +kernel
theorem dX1_even_54 : decode cX1_even 54 = .ok (.iload_n 2, 1) := by decide +kernel
theorem dX1_even_55 : decode cX1_even 55 = .ok (.imul, 1) := by decide +kernel
theorem dX1_even_56 : decode cX1_even 56 = .ok (.invokevirtual 92, 3) := by decide +kernel
theorem dX1_even_59 : decode cX1_even 59 = .ok (.aload_n 0, 1) := by decide +kernel
theorem dX1_even_60 : decode cX1_even 60 = .ok (.getfield 21, 3) := by decide +kernel
theorem dX1_even_63 : decode cX1_even 63 = .ok (.areturn, 1) := by decide +kernel
theorem dX1_driestX_0 : decode cX1_driestX 0 = .ok (.aload_n 0, 1) := by decide +kernel
theorem dX1_driestX_1 : decode cX1_driestX 1 = .ok (.invokevirtual 67, 3) := by decide +kernel
theorem dX1_driestX_4 : decode cX1_driestX 4 = .ok (.aload_n 0, 1) := by decide +kernel
theorem dX1_driestX_5 : decode cX1_driestX 5 = .ok (.getfield 25, 3) := by decide +kernel
theorem dX1_driestX_8 : decode cX1_driestX 8 = .ok (.invokestatic 95, 3) := by decide +kernel
theorem dX1_driestX_11 : decode cX1_driestX 11 = .ok (.ireturn, 1) := by decide +kernel
theorem dX1_driestY_0 : decode cX1_driestY 0 = .ok (.aload_n 0, 1) := by decide +kernel
theorem dX1_driestY_1 : decode cX1_driestY 1 = .ok (.invokevirtual 67, 3) := by decide +kernel
theorem dX1_driestY_4 : decode cX1_driestY 4 = .ok (.aload_n 0, 1) := by decide +kernel
theorem dX1_driestY_5 : decode cX1_driestY 5 = .ok (.getfield 25, 3) := by decide +kernel
theorem dX1_driestY_8 : decode cX1_driestY 8 = .ok (.invokestatic 98, 3) := by decide +kernel
theorem dX1_driestY_11 : decode cX1_driestY 11 = .ok (.ireturn, 1) := by decide +kernel
theorem dX1_many_0 : decode cX1_many 0 = .ok (.aload_n 0, 1) := by decide +kernel
theorem dX1_many_1 : decode cX1_many 1 = .ok (.getfield 25, 3) := by decide +kernel
theorem dX1_many_4 : decode cX1_many 4 = .ok (.aload_n 0, 1) := by decide +kernel
theorem dX1_many_5 : decode cX1_many 5 = .ok (.getfield 29, 3) := by decide +kernel
theorem dX1_many_8 : decode cX1_many 8 = .ok (.imul, 1) := by decide +kernel
theorem dX1_many_9 : decode cX1_many 9 = .ok (.ireturn, 1) := by decide +kernel
theorem dX1_wrappedPlace_0 : decode cX1_wrappedPlace 0 = .ok (.iload_n 2, 1) := by decide +kernel
theorem dX1_wrappedPlace_1 : decode cX1_wrappedPlace 1 = .ok (.aload_n 0, 1) := by decide +kernel
theorem dX1_wrappedPlace_2 : decode cX1_wrappedPlace 2 = .ok (.getfield 29, 3) := by decide +kernel
theorem dX1_wrappedPlace_5 : decode cX1_wrappedPlace 5 = .ok (.invokestatic 95, 3) := by decide +kernel
theorem dX1_wrappedPlace_8 : decode cX1_wrappedPlace 8 = .ok (.aload_n 0, 1) := by decide +kernel
theorem dX1_wrappedPlace_9 : decode cX1_wrappedPlace 9 = .ok (.getfield 25, 3) := by decide +kernel
theorem dX1_wrappedPlace_12 : decode cX1_wrappedPlace 12 = .ok (.imul, 1) := by decide +kernel
theorem dX1_wrappedPlace_13 : decode cX1_wrappedPlace 13 = .ok (.iload_n 1, 1) := by decide +kernel
theorem dX1_wrappedPlace_14 : decode cX1_wrappedPlace 14 = .ok (.aload_n 0, 1) := by decide +kernel
theorem dX1_wrappedPlace_15 : decode cX1_wrappedPlace 15 = .ok (.getfield 25, 3) := by decide +kernel
theorem dX1_wrappedPlace_18 : decode cX1_wrappedPlace 18 = .ok (.invokestatic 95, 3) := by decide +kernel
theorem dX1_wrappedPlace_21 : decode cX1_wrappedPlace 21 = .ok (.iadd, 1) := by decide +kernel
theorem dX1_wrappedPlace_22 : decode cX1_wrappedPlace 22 = .ok (.ireturn, 1) := by decide +kernel
theorem dX1_driestPlace_0 : decode cX1_driestPlace 0 = .ok (.iconst 0, 1) := by decide +kernel
theorem dX1_driestPlace_1 : decode cX1_driestPlace 1 = .ok (.istore_n 1, 1) := by decide +kernel
theorem dX1_driestPlace_2 : decode cX1_driestPlace 2 = .ok (.iconst 1, 1) := by decide +kernel
theorem dX1_driestPlace_3 : decode cX1_driestPlace 3 = .ok (.istore_n 2, 1) := by decide +kernel
theorem dX1_driestPlace_4 : decode cX1_driestPlace 4 = .ok (.iload_n 2, 1) := by decide +kernel
theorem dX1_driestPlace_5 : decode cX1_driestPlace 5 = .ok (.aload_n 0, 1) := by decide +kernel
theorem dX1_driestPlace_6 : decode cX1_driestPlace 6 = .ok (.invokevirtual 41, 3) := by decide +kernel
theorem dX1_driestPlace_9 : decode cX1_driestPlace 9 = .ok (.if_icmp .ge 26, 3) := by decide +kernel
theorem dX1_driestPlace_12 : decode cX1_driestPlace 12 = .ok (.aload_n 0, 1) := by decide +kernel
theorem dX1_driestPlace_13 : decode cX1_driestPlace 13 = .ok (.getfield 11, 3) := by decide +kernel
theorem dX1_driestPlace_16 : decode cX1_driestPlace 16 = .ok (.iload_n 2, 1) := by decide +kernel
theorem dX1_driestPlace_17 : decode cX1_driestPlace 17 = .ok (.iaload, 1) := by decide +kernel
theorem dX1_driestPlace_18 : decode cX1_driestPlace 18 = .ok (.aload_n 0, 1) := by decide +kernel
theorem dX1_driestPlace_19 : decode cX1_driestPlace 19 = .ok (.getfield 11, 3) := by decide +kernel
theorem dX1_driestPlace_22 : decode cX1_driestPlace 22 = .ok (.iload_n 1, 1) := by decide +kernel
theorem dX1_driestPlace_23 : decode cX1_driestPlace 23 = .ok (.iaload, 1) := by decide +kernel
theorem dX1_driestPlace_24 : decode cX1_driestPlace 24 = .ok (.if_icmp .ge 5, 3) := by decide +kernel
theorem dX1_driestPlace_27 : decode cX1_driestPlace 27 = .ok (.iload_n 2, 1) := by decide +kernel
theorem dX1_driestPlace_28 : decode cX1_driestPlace 28 = .ok (.istore_n 1, 1) := by decide +kernel
theorem dX1_driestPlace_29 : decode cX1_driestPlace 29 = .ok (.iinc 2 1, 3) := by decide +kernel
theorem dX1_driestPlace_32 : decode cX1_driestPlace 32 = .ok (.goto (-28), 3) := by decide +kernel
theorem dX1_driestPlace_35 : decode cX1_driestPlace 35 = .ok (.iload_n 1, 1) := by decide +kernel
theorem dX1_driestPlace_36 : decode cX1_driestPlace 36 = .ok (.ireturn, 1) := by decide +kernel
theorem dX1_greatest_0 : decode cX1_greatest 0 = .ok (.iconst 0, 1) := by decide +kernel
theorem dX1_greatest_1 : decode cX1_greatest 1 = .ok (.istore_n 1, 1) := by decide +kernel
theorem dX1_greatest_2 : decode cX1_greatest 2 = .ok (.iconst 0, 1) := by decide +kernel
theorem dX1_greatest_3 : decode cX1_greatest 3 = .ok (.istore_n 2, 1) := by decide +kernel
theorem dX1_greatest_4 : decode cX1_greatest 4 = .ok (.iload_n 2, 1) := by decide +kernel
theorem dX1_greatest_5 : decode cX1_greatest 5 = .ok (.aload_n 0, 1) := by decide +kernel
theorem dX1_greatest_6 : decode cX1_greatest 6 = .ok (.invokevirtual 41, 3) := by decide +kernel
theorem dX1_greatest_9 : decode cX1_greatest 9 = .ok (.if_icmp .ge 20, 3) := by decide +kernel
theorem dX1_greatest_12 : decode cX1_greatest 12 = .ok (.iload_n 1, 1) := by decide +kernel
theorem dX1_greatest_13 : decode cX1_greatest 13 = .ok (.aload_n 0, 1) := by decide +kernel
theorem dX1_greatest_14 : decode cX1_greatest 14 = .ok (.getfield 11, 3) := by decide +kernel
theorem dX1_greatest_17 : decode cX1_greatest 17 = .ok (.iload_n 2, 1) := by decide +kernel
theorem dX1_greatest_18 : decode cX1_greatest 18 = .ok (.iaload, 1) := by decide +kernel
theorem dX1_greatest_19 : decode cX1_greatest 19 = .ok (.invokestatic 38, 3) := by decide +kernel
theorem dX1_greatest_22 : decode cX1_greatest 22 = .ok (.istore_n 1, 1) := by decide +kernel
theorem dX1_greatest_23 : decode cX1_greatest 23 = .ok (.iinc 2 1, 3) := by decide +kernel
theorem dX1_greatest_26 : decode cX1_greatest 26 = .ok (.goto (-22), 3) := by decide +kernel
theorem dX1_greatest_29 : decode cX1_greatest 29 = .ok (.iload_n 1, 1) := by decide +kernel
theorem dX1_greatest_30 : decode cX1_greatest 30 = .ok (.ireturn, 1) := by decide +kernel
theorem dX1_low_0 : decode cX1_low 0 = .ok (.aload_n 0, 1) := by decide +kernel
theorem dX1_low_1 : decode cX1_low 1 = .ok (.invokevirtual 41, 3) := by decide +kernel
theorem dX1_low_4 : decode cX1_low 4 = .ok (.iconst 3, 1) := by decide +kernel
theorem dX1_low_5 : decode cX1_low 5 = .ok (.iadd, 1) := by decide +kernel
theorem dX1_low_6 : decode cX1_low 6 = .ok (.iconst 4, 1) := by decide +kernel
theorem dX1_low_7 : decode cX1_low 7 = .ok (.idiv, 1) := by decide +kernel
theorem dX1_low_8 : decode cX1_low 8 = .ok (.istore_n 1, 1) := by decide +kernel
theorem dX1_low_9 : decode cX1_low 9 = .ok (.aload_n 0, 1) := by decide +kernel
theorem dX1_low_10 : decode cX1_low 10 = .ok (.getfield 21, 3) := by decide +kernel
theorem dX1_low_13 : decode cX1_low 13 = .ok (.aload_n 0, 1) := by decide +kernel
theorem dX1_low_14 : decode cX1_low 14 = .ok (.invokevirtual 41, 3) := by decide +kernel
theorem dX1_low_17 : decode cX1_low 17 = .ok (.aload_n 0, 1) := by decide +kernel
theorem dX1_low_18 : decode cX1_low 18 = .ok (.iload_n 1, 1) := by decide +kernel
theorem dX1_low_19 : decode cX1_low 19 = .ok (.invokevirtual 101, 3) := by decide +kernel
theorem dX1_low_22 : decode cX1_low 22 = .ok (.imul, 1) := by decide +kernel
theorem dX1_low_23 : decode cX1_low 23 = .ok (.iload_n 1, 1) := by decide +kernel
theorem dX1_low_24 : decode cX1_low 24 = .ok (.aload_n 0, 1) := by decide +kernel
theorem dX1_low_25 : decode cX1_low 25 = .ok (.invokevirtual 64, 3) := by decide +kernel
theorem dX1_low_28 : decode cX1_low 28 = .ok (.imul, 1) := by decide +kernel
theorem dX1_low_29 : decode cX1_low 29 = .ok (.invokevirtual 92, 3) := by decide +kernel
theorem dX1_low_32 : decode cX1_low 32 = .ok (.aload_n 0, 1) := by decide +kernel
theorem dX1_low_33 : decode cX1_low 33 = .ok (.getfield 21, 3) := by decide +kernel
theorem dX1_low_36 : decode cX1_low 36 = .ok (.areturn, 1) := by decide +kernel
theorem dX1_driestTogether_0 : decode cX1_driestTogether 0 = .ok (.aload_n 0, 1) := by decide +kernel
theorem dX1_driestTogether_1 : decode cX1_driestTogether 1 = .ok (.invokevirtual 104, 3) := by decide +kernel
theorem dX1_driestTogether_4 : decode cX1_driestTogether 4 = .ok (.iconst 0, 1) := by decide +kernel
theorem dX1_driestTogether_5 : decode cX1_driestTogether 5 = .ok (.istore_n 2, 1) := by decide +kernel
theorem dX1_driestTogether_6 : decode cX1_driestTogether 6 = .ok (.iload_n 1, 1) := by decide +kernel
theorem dX1_driestTogether_7 : decode cX1_driestTogether 7 = .ok (.istore_n 3, 1) := by decide +kernel
theorem dX1_driestTogether_8 : decode cX1_driestTogether 8 = .ok (.iconst 0, 1) := by decide +kernel
theorem dX1_driestTogether_9 : decode cX1_driestTogether 9 = .ok (.istore 4, 2) := by decide +kernel
theorem dX1_driestTogether_11 : decode cX1_driestTogether 11 = .ok (.iload 4, 2) := by decide +kernel
theorem dX1_driestTogether_13 : decode cX1_driestTogether 13 = .ok (.sipush 560, 3) := by decide +kernel
theorem dX1_driestTogether_16 : decode cX1_driestTogether 16 = .ok (.if_icmp .gt 39, 3) := by decide +kernel
theorem dX1_driestTogether_19 : decode cX1_driestTogether 19 = .ok (.iload_n 3, 1) := by decide +kernel
theorem dX1_driestTogether_20 : decode cX1_driestTogether 20 = .ok (.ifCond .le 35, 3) := by decide +kernel
theorem dX1_driestTogether_23 : decode cX1_driestTogether 23 = .ok (.iload_n 3, 1) := by decide +kernel
theorem dX1_driestTogether_24 : decode cX1_driestTogether 24 = .ok (.aload_n 0, 1) := by decide +kernel
theorem dX1_driestTogether_25 : decode cX1_driestTogether 25 = .ok (.getfield 15, 3) := by decide +kernel
theorem dX1_driestTogether_28 : decode cX1_driestTogether 28 = .ok (.iload 4, 2) := by decide +kernel
theorem dX1_driestTogether_30 : decode cX1_driestTogether 30 = .ok (.iaload, 1) := by decide +kernel
theorem dX1_driestTogether_31 : decode cX1_driestTogether 31 = .ok (.invokestatic 32, 3) := by decide +kernel
theorem dX1_driestTogether_34 : decode cX1_driestTogether 34 = .ok (.istore 5, 2) := by decide +kernel
theorem dX1_driestTogether_36 : decode cX1_driestTogether 36 = .ok (.iload_n 2, 1) := by decide +kernel
theorem dX1_driestTogether_37 : decode cX1_driestTogether 37 = .ok (.iload 5, 2) := by decide +kernel
theorem dX1_driestTogether_39 : decode cX1_driestTogether 39 = .ok (.iload 4, 2) := by decide +kernel
theorem dX1_driestTogether_41 : decode cX1_driestTogether 41 = .ok (.imul, 1) := by decide +kernel
theorem dX1_driestTogether_42 : decode cX1_driestTogether 42 = .ok (.iadd, 1) := by decide +kernel
theorem dX1_driestTogether_43 : decode cX1_driestTogether 43 = .ok (.istore_n 2, 1) := by decide +kernel
theorem dX1_driestTogether_44 : decode cX1_driestTogether 44 = .ok (.iload_n 3, 1) := by decide +kernel
theorem dX1_driestTogether_45 : decode cX1_driestTogether 45 = .ok (.iload 5, 2) := by decide +kernel
theorem dX1_driestTogether_47 : decode cX1_driestTogether 47 = .ok (.isub, 1) := by decide +kernel
theorem dX1_driestTogether_48 : decode cX1_driestTogether 48 = .ok (.istore_n 3, 1) := by decide +kernel
theorem dX1_driestTogether_49 : decode cX1_driestTogether 49 = .ok (.iinc 4 1, 3) := by decide +kernel
theorem dX1_driestTogether_52 : decode cX1_driestTogether 52 = .ok (.goto (-41), 3) := by decide +kernel
theorem dX1_driestTogether_55 : decode cX1_driestTogether 55 = .ok (.iload_n 2, 1) := by decide +kernel
theorem dX1_driestTogether_56 : decode cX1_driestTogether 56 = .ok (.ireturn, 1) := by decide +kernel
theorem dX1_tallyDepths_0 : decode cX1_tallyDepths 0 = .ok (.aload_n 0, 1) := by decide +kernel
theorem dX1_tallyDepths_1 : decode cX1_tallyDepths 1 = .ok (.getfield 15, 3) := by decide +kernel
theorem dX1_tallyDepths_4 : decode cX1_tallyDepths 4 = .ok (.iconst 0, 1) := by decide +kernel
theorem dX1_tallyDepths_5 : decode cX1_tallyDepths 5 = .ok (.invokestatic 107, 3) := by decide +kernel
theorem dX1_tallyDepths_8 : decode cX1_tallyDepths 8 = .ok (.iconst 0, 1) := by decide +kernel
theorem dX1_tallyDepths_9 : decode cX1_tallyDepths 9 = .ok (.istore_n 1, 1) := by decide +kernel
theorem dX1_tallyDepths_10 : decode cX1_tallyDepths 10 = .ok (.iload_n 1, 1) := by decide +kernel
theorem dX1_tallyDepths_11 : decode cX1_tallyDepths 11 = .ok (.aload_n 0, 1) := by decide +kernel
theorem dX1_tallyDepths_12 : decode cX1_tallyDepths 12 = .ok (.invokevirtual 41, 3) := by decide +kernel
theorem dX1_tallyDepths_15 : decode cX1_tallyDepths 15 = .ok (.if_icmp .ge 40, 3) := by decide +kernel
theorem dX1_tallyDepths_18 : decode cX1_tallyDepths 18 = .ok (.aload_n 0, 1) := by decide +kernel
theorem dX1_tallyDepths_19 : decode cX1_tallyDepths 19 = .ok (.getfield 11, 3) := by decide +kernel
theorem dX1_tallyDepths_22 : decode cX1_tallyDepths 22 = .ok (.iload_n 1, 1) := by decide +kernel
theorem dX1_tallyDepths_23 : decode cX1_tallyDepths 23 = .ok (.iaload, 1) := by decide +kernel
theorem dX1_tallyDepths_24 : decode cX1_tallyDepths 24 = .ok (.iconst 0, 1) := by decide +kernel
theorem dX1_tallyDepths_25 : decode cX1_tallyDepths 25 = .ok (.sipush 560, 3) := by decide +kernel
theorem dX1_tallyDepths_28 : decode cX1_tallyDepths 28 = .ok (.invokestatic 113, 3) := by decide +kernel
theorem dX1_tallyDepths_31 : decode cX1_tallyDepths 31 = .ok (.ifCond .eq 18, 3) := by decide +kernel
theorem dX1_tallyDepths_34 : decode cX1_tallyDepths 34 = .ok (.aload_n 0, 1) := by decide +kernel
theorem dX1_tallyDepths_35 : decode cX1_tallyDepths 35 = .ok (.getfield 15, 3) := by decide +kernel
theorem dX1_tallyDepths_38 : decode cX1_tallyDepths 38 = .ok (.aload_n 0, 1) := by decide +kernel
theorem dX1_tallyDepths_39 : decode cX1_tallyDepths 39 = .ok (.getfield 11, 3) := by decide +kernel
theorem dX1_tallyDepths_42 : decode cX1_tallyDepths 42 = .ok (.iload_n 1, 1) := by decide +kernel
theorem dX1_tallyDepths_43 : decode cX1_tallyDepths 43 = .ok (.iaload, 1) := by decide +kernel
theorem dX1_tallyDepths_44 : decode cX1_tallyDepths 44 = .ok (.dup2, 1) := by decide +kernel
theorem dX1_tallyDepths_45 : decode cX1_tallyDepths 45 = .ok (.iaload, 1) := by decide +kernel
theorem dX1_tallyDepths_46 : decode cX1_tallyDepths 46 = .ok (.iconst 1, 1) := by decide +kernel
theorem dX1_tallyDepths_47 : decode cX1_tallyDepths 47 = .ok (.iadd, 1) := by decide +kernel
theorem dX1_tallyDepths_48 : decode cX1_tallyDepths 48 = .ok (.iastore, 1) := by decide +kernel
theorem dX1_tallyDepths_49 : decode cX1_tallyDepths 49 = .ok (.iinc 1 1, 3) := by decide +kernel
theorem dX1_tallyDepths_52 : decode cX1_tallyDepths 52 = .ok (.goto (-42), 3) := by decide +kernel
theorem dX1_tallyDepths_55 : decode cX1_tallyDepths 55 = .ok (.return_, 1) := by decide +kernel
theorem dX2_init_0 : decode cX2_init 0 = .ok (.aload_n 0, 1) := by decide +kernel
theorem dX2_init_1 : decode cX2_init 1 = .ok (.invokespecial 3, 3) := by decide +kernel
theorem dX2_init_4 : decode cX2_init 4 = .ok (.aload_n 0, 1) := by decide +kernel
theorem dX2_init_5 : decode cX2_init 5 = .ok (.bipush 49, 2) := by decide +kernel
theorem dX2_init_7 : decode cX2_init 7 = .ok (.newarray .int, 2) := by decide +kernel
theorem dX2_init_9 : decode cX2_init 9 = .ok (.putfield 11, 3) := by decide +kernel
theorem dX2_init_12 : decode cX2_init 12 = .ok (.aload_n 0, 1) := by decide +kernel
theorem dX2_init_13 : decode cX2_init 13 = .ok (.iconst 3, 1) := by decide +kernel
theorem dX2_init_14 : decode cX2_init 14 = .ok (.putfield 15, 3) := by decide +kernel
theorem dX2_init_17 : decode cX2_init 17 = .ok (.return_, 1) := by decide +kernel
theorem dX2_reach_0 : decode cX2_reach 0 = .ok (.aload_n 0, 1) := by decide +kernel
theorem dX2_reach_1 : decode cX2_reach 1 = .ok (.getfield 15, 3) := by decide +kernel
theorem dX2_reach_4 : decode cX2_reach 4 = .ok (.iconst 1, 1) := by decide +kernel
theorem dX2_reach_5 : decode cX2_reach 5 = .ok (.isub, 1) := by decide +kernel
theorem dX2_reach_6 : decode cX2_reach 6 = .ok (.iconst 2, 1) := by decide +kernel
theorem dX2_reach_7 : decode cX2_reach 7 = .ok (.idiv, 1) := by decide +kernel
theorem dX2_reach_8 : decode cX2_reach 8 = .ok (.ireturn, 1) := by decide +kernel
theorem dX2_depthAt_0 : decode cX2_depthAt 0 = .ok (.aload_n 0, 1) := by decide +kernel
theorem dX2_depthAt_1 : decode cX2_depthAt 1 = .ok (.getfield 15, 3) := by decide +kernel
theorem dX2_depthAt_4 : decode cX2_depthAt 4 = .ok (.iconst 1, 1) := by decide +kernel
theorem dX2_depthAt_5 : decode cX2_depthAt 5 = .ok (.isub, 1) := by decide +kernel
theorem dX2_depthAt_6 : decode cX2_depthAt 6 = .ok (.iconst 2, 1) := by decide +kernel
theorem dX2_depthAt_7 : decode cX2_depthAt 7 = .ok (.idiv, 1) := by decide +kernel
theorem dX2_depthAt_8 : decode cX2_depthAt 8 = .ok (.istore_n 3, 1) := by decide +kernel
theorem dX2_depthAt_9 : decode cX2_depthAt 9 = .ok (.iload_n 1, 1) := by decide +kernel
theorem dX2_depthAt_10 : decode cX2_depthAt 10 = .ok (.iload_n 3, 1) := by decide +kernel
theorem dX2_depthAt_11 : decode cX2_depthAt 11 = .ok (.ineg, 1) := by decide +kernel
theorem dX2_depthAt_12 : decode cX2_depthAt 12 = .ok (.if_icmp .lt 19, 3) := by decide +kernel
theorem dX2_depthAt_15 : decode cX2_depthAt 15 = .ok (.iload_n 1, 1) := by decide +kernel
theorem dX2_depthAt_16 : decode cX2_depthAt 16 = .ok (.iload_n 3, 1) := by decide +kernel
theorem dX2_depthAt_17 : decode cX2_depthAt 17 = .ok (.if_icmp .gt 14, 3) := by decide +kernel
theorem dX2_depthAt_20 : decode cX2_depthAt 20 = .ok (.iload_n 2, 1) := by decide +kernel
theorem dX2_depthAt_21 : decode cX2_depthAt 21 = .ok (.iload_n 3, 1) := by decide +kernel
theorem dX2_depthAt_22 : decode cX2_depthAt 22 = .ok (.ineg, 1) := by decide +kernel
theorem dX2_depthAt_23 : decode cX2_depthAt 23 = .ok (.if_icmp .lt 8, 3) := by decide +kernel
theorem dX2_depthAt_26 : decode cX2_depthAt 26 = .ok (.iload_n 2, 1) := by decide +kernel
theorem dX2_depthAt_27 : decode cX2_depthAt 27 = .ok (.iload_n 3, 1) := by decide +kernel
theorem dX2_depthAt_28 : decode cX2_depthAt 28 = .ok (.if_icmp .le 5, 3) := by decide +kernel
theorem dX2_depthAt_31 : decode cX2_depthAt 31 = .ok (.iconst 0, 1) := by decide +kernel
theorem dX2_depthAt_32 : decode cX2_depthAt 32 = .ok (.ireturn, 1) := by decide +kernel
theorem dX2_depthAt_33 : decode cX2_depthAt 33 = .ok (.aload_n 0, 1) := by decide +kernel
theorem dX2_depthAt_34 : decode cX2_depthAt 34 = .ok (.getfield 11, 3) := by decide +kernel
theorem dX2_depthAt_37 : decode cX2_depthAt 37 = .ok (.iload_n 3, 1) := by decide +kernel
theorem dX2_depthAt_38 : decode cX2_depthAt 38 = .ok (.iload_n 2, 1) := by decide +kernel
theorem dX2_depthAt_39 : decode cX2_depthAt 39 = .ok (.isub, 1) := by decide +kernel
theorem dX2_depthAt_40 : decode cX2_depthAt 40 = .ok (.aload_n 0, 1) := by decide +kernel
theorem dX2_depthAt_41 : decode cX2_depthAt 41 = .ok (.getfield 15, 3) := by decide +kernel
theorem dX2_depthAt_44 : decode cX2_depthAt 44 = .ok (.imul, 1) := by decide +kernel
theorem dX2_depthAt_45 : decode cX2_depthAt 45 = .ok (.iload_n 3, 1) := by decide +kernel
theorem dX2_depthAt_46 : decode cX2_depthAt 46 = .ok (.iadd, 1) := by decide +kernel
theorem dX2_depthAt_47 : decode cX2_depthAt 47 = .ok (.iload_n 1, 1) := by decide +kernel
theorem dX2_depthAt_48 : decode cX2_depthAt 48 = .ok (.iadd, 1) := by decide +kernel
theorem dX2_depthAt_49 : decode cX2_depthAt 49 = .ok (.iaload, 1) := by decide +kernel
theorem dX2_depthAt_50 : decode cX2_depthAt 50 = .ok (.ireturn, 1) := by decide +kernel
theorem dX2_read_0 : decode cX2_read 0 = .ok (.aload_n 0, 1) := by decide +kernel
theorem dX2_read_1 : decode cX2_read 1 = .ok (.iload_n 2, 1) := by decide +kernel
theorem dX2_read_2 : decode cX2_read 2 = .ok (.invokevirtual 19, 3) := by decide +kernel
theorem dX2_read_5 : decode cX2_read 5 = .ok (.iconst 0, 1) := by decide +kernel
theorem dX2_read_6 : decode cX2_read 6 = .ok (.istore_n 3, 1) := by decide +kernel
theorem dX2_read_7 : decode cX2_read 7 = .ok (.iload_n 3, 1) := by decide +kernel
theorem dX2_read_8 : decode cX2_read 8 = .ok (.aload_n 0, 1) := by decide +kernel
theorem dX2_read_9 : decode cX2_read 9 = .ok (.getfield 15, 3) := by decide +kernel
theorem dX2_read_12 : decode cX2_read 12 = .ok (.if_icmp .ge 67, 3) := by decide +kernel
theorem dX2_read_15 : decode cX2_read 15 = .ok (.iconst 0, 1) := by decide +kernel
theorem dX2_read_16 : decode cX2_read 16 = .ok (.istore 4, 2) := by decide +kernel
theorem dX2_read_18 : decode cX2_read 18 = .ok (.iload 4, 2) := by decide +kernel
theorem dX2_read_20 : decode cX2_read 20 = .ok (.aload_n 0, 1) := by decide +kernel
theorem dX2_read_21 : decode cX2_read 21 = .ok (.getfield 15, 3) := by decide +kernel
theorem dX2_read_24 : decode cX2_read 24 = .ok (.if_icmp .ge 49, 3) := by decide +kernel
theorem dX2_read_27 : decode cX2_read 27 = .ok (.aload_n 1, 1) := by decide +kernel
theorem dX2_read_28 : decode cX2_read 28 = .ok (.iload_n 3, 1) := by decide +kernel
theorem dX2_read_29 : decode cX2_read 29 = .ok (.aload_n 0, 1) := by decide +kernel
theorem dX2_read_30 : decode cX2_read 30 = .ok (.getfield 15, 3) := by decide +kernel
theorem dX2_read_33 : decode cX2_read 33 = .ok (.iconst 1, 1) := by decide +kernel
theorem dX2_read_34 : decode cX2_read 34 = .ok (.iadd, 1) := by decide +kernel
theorem dX2_read_35 : decode cX2_read 35 = .ok (.imul, 1) := by decide +kernel
theorem dX2_read_36 : decode cX2_read 36 = .ok (.iload 4, 2) := by decide +kernel
theorem dX2_read_38 : decode cX2_read 38 = .ok (.iadd, 1) := by decide +kernel
theorem dX2_read_39 : decode cX2_read 39 = .ok (.invokevirtual 23, 3) := by decide +kernel
theorem dX2_read_42 : decode cX2_read 42 = .ok (.istore 5, 2) := by decide +kernel
theorem dX2_read_44 : decode cX2_read 44 = .ok (.aload_n 0, 1) := by decide +kernel
theorem dX2_read_45 : decode cX2_read 45 = .ok (.getfield 11, 3) := by decide +kernel
theorem dX2_read_48 : decode cX2_read 48 = .ok (.iload_n 3, 1) := by decide +kernel
theorem dX2_read_49 : decode cX2_read 49 = .ok (.aload_n 0, 1) := by decide +kernel
theorem dX2_read_50 : decode cX2_read 50 = .ok (.getfield 15, 3) := by decide +kernel
theorem dX2_read_53 : decode cX2_read 53 = .ok (.imul, 1) := by decide +kernel
theorem dX2_read_54 : decode cX2_read 54 = .ok (.iload 4, 2) := by decide +kernel
theorem dX2_read_56 : decode cX2_read 56 = .ok (.iadd, 1) := by decide +kernel
theorem dX2_read_57 : decode cX2_read 57 = .ok (.iconst 0, 1) := by decide +kernel
theorem dX2_read_58 : decode cX2_read 58 = .ok (.iload 5, 2) := by decide +kernel
theorem dX2_read_60 : decode cX2_read 60 = .ok (.invokestatic 29, 3) := by decide +kernel
theorem dX2_read_63 : decode cX2_read 63 = .ok (.invokestatic 32, 3) := by decide +kernel
theorem dX2_read_66 : decode cX2_read 66 = .ok (.iastore, 1) := by decide +kernel
theorem dX2_read_67 : decode cX2_read 67 = .ok (.iinc 4 1, 3) := by decide +kernel
theorem dX2_read_70 : decode cX2_read 70 = .ok (.goto (-52), 3) := by decide +kernel
theorem dX2_read_73 : decode cX2_read 73 = .ok (.iinc 3 1, 3) := by decide +kernel
theorem dX2_read_76 : decode cX2_read 76 = .ok (.goto (-69), 3) := by decide +kernel
theorem dX2_read_79 : decode cX2_read 79 = .ok (.return_, 1) := by decide +kernel
theorem dX2_copyTurned_0 : decode cX2_copyTurned 0 = .ok (.aload_n 0, 1) := by decide +kernel
theorem dX2_copyTurned_1 : decode cX2_copyTurned 1 = .ok (.aload_n 1, 1) := by decide +kernel
theorem dX2_copyTurned_2 : decode cX2_copyTurned 2 = .ok (.getfield 15, 3) := by decide +kernel
theorem dX2_copyTurned_5 : decode cX2_copyTurned 5 = .ok (.invokevirtual 19, 3) := by decide +kernel
theorem dX2_copyTurned_8 : decode cX2_copyTurned 8 = .ok (.aload_n 0, 1) := by decide +kernel
theorem dX2_copyTurned_9 : decode cX2_copyTurned 9 = .ok (.invokevirtual 38, 3) := by decide +kernel
theorem dX2_copyTurned_12 : decode cX2_copyTurned 12 = .ok (.istore 4, 2) := by decide +kernel
theorem dX2_copyTurned_14 : decode cX2_copyTurned 14 = .ok (.iload 4, 2) := by decide +kernel
theorem dX2_copyTurned_16 : decode cX2_copyTurned 16 = .ok (.ineg, 1) := by decide +kernel
theorem dX2_copyTurned_17 : decode cX2_copyTurned 17 = .ok (.istore 5, 2) := by decide +kernel
theorem dX2_copyTurned_19 : decode cX2_copyTurned 19 = .ok (.iload 5, 2) := by decide +kernel
theorem dX2_copyTurned_21 : decode cX2_copyTurned 21 = .ok (.iload 4, 2) := by decide +kernel
theorem dX2_copyTurned_23 : decode cX2_copyTurned 23 = .ok (.if_icmp .gt 54, 3) := by decide +kernel
theorem dX2_copyTurned_26 : decode cX2_copyTurned 26 = .ok (.iload 4, 2) := by decide +kernel
theorem dX2_copyTurned_28 : decode cX2_copyTurned 28 = .ok (.ineg, 1) := by decide +kernel
theorem dX2_copyTurned_29 : decode cX2_copyTurned 29 = .ok (.istore 6, 2) := by decide +kernel
theorem dX2_copyTurned_31 : decode cX2_copyTurned 31 = .ok (.iload 6, 2) := by decide +kernel
theorem dX2_copyTurned_33 : decode cX2_copyTurned 33 = .ok (.iload 4, 2) := by decide +kernel
theorem dX2_copyTurned_35 : decode cX2_copyTurned 35 = .ok (.if_icmp .gt 36, 3) := by decide +kernel
theorem dX2_copyTurned_38 : decode cX2_copyTurned 38 = .ok (.aload_n 0, 1) := by decide +kernel
theorem dX2_copyTurned_39 : decode cX2_copyTurned 39 = .ok (.iload 6, 2) := by decide +kernel
theorem dX2_copyTurned_41 : decode cX2_copyTurned 41 = .ok (.iload 5, 2) := by decide +kernel
theorem dX2_copyTurned_43 : decode cX2_copyTurned 43 = .ok (.aload_n 1, 1) := by decide +kernel
theorem dX2_copyTurned_44 : decode cX2_copyTurned 44 = .ok (.iload_n 2, 1) := by decide +kernel
theorem dX2_copyTurned_45 : decode cX2_copyTurned 45 = .ok (.iload_n 3, 1) := by decide +kernel
theorem dX2_copyTurned_46 : decode cX2_copyTurned 46 = .ok (.ifCond .eq 9, 3) := by decide +kernel
theorem dX2_copyTurned_49 : decode cX2_copyTurned 49 = .ok (.iload 6, 2) := by decide +kernel
theorem dX2_copyTurned_51 : decode cX2_copyTurned 51 = .ok (.ineg, 1) := by decide +kernel
theorem dX2_copyTurned_52 : decode cX2_copyTurned 52 = .ok (.goto 5, 3) := by decide +kernel
theorem dX2_copyTurned_55 : decode cX2_copyTurned 55 = .ok (.iload 6, 2) := by decide +kernel
theorem dX2_copyTurned_57 : decode cX2_copyTurned 57 = .ok (.iload 5, 2) := by decide +kernel
theorem dX2_copyTurned_59 : decode cX2_copyTurned 59 = .ok (.invokevirtual 42, 3) := by decide +kernel
theorem dX2_copyTurned_62 : decode cX2_copyTurned 62 = .ok (.invokevirtual 46, 3) := by decide +kernel
theorem dX2_copyTurned_65 : decode cX2_copyTurned 65 = .ok (.iinc 6 1, 3) := by decide +kernel
theorem dX2_copyTurned_68 : decode cX2_copyTurned 68 = .ok (.goto (-37), 3) := by decide +kernel
theorem dX2_copyTurned_71 : decode cX2_copyTurned 71 = .ok (.iinc 5 1, 3) := by decide +kernel
theorem dX2_copyTurned_74 : decode cX2_copyTurned 74 = .ok (.goto (-55), 3) := by decide +kernel
theorem dX2_copyTurned_77 : decode cX2_copyTurned 77 = .ok (.return_, 1) := by decide +kernel
theorem dX2_copyBent_0 : decode cX2_copyBent 0 = .ok (.aload_n 0, 1) := by decide +kernel
theorem dX2_copyBent_1 : decode cX2_copyBent 1 = .ok (.aload_n 1, 1) := by decide +kernel
theorem dX2_copyBent_2 : decode cX2_copyBent 2 = .ok (.getfield 15, 3) := by decide +kernel
theorem dX2_copyBent_5 : decode cX2_copyBent 5 = .ok (.invokevirtual 19, 3) := by decide +kernel
theorem dX2_copyBent_8 : decode cX2_copyBent 8 = .ok (.aload_n 0, 1) := by decide +kernel
theorem dX2_copyBent_9 : decode cX2_copyBent 9 = .ok (.invokevirtual 38, 3) := by decide +kernel
theorem dX2_copyBent_12 : decode cX2_copyBent 12 = .ok (.istore 4, 2) := by decide +kernel
theorem dX2_copyBent_14 : decode cX2_copyBent 14 = .ok (.iload 4, 2) := by decide +kernel
theorem dX2_copyBent_16 : decode cX2_copyBent 16 = .ok (.ineg, 1) := by decide +kernel
theorem dX2_copyBent_17 : decode cX2_copyBent 17 = .ok (.istore 5, 2) := by decide +kernel
theorem dX2_copyBent_19 : decode cX2_copyBent 19 = .ok (.iload 5, 2) := by decide +kernel
theorem dX2_copyBent_21 : decode cX2_copyBent 21 = .ok (.iload 4, 2) := by decide +kernel
theorem dX2_copyBent_23 : decode cX2_copyBent 23 = .ok (.if_icmp .gt 47, 3) := by decide +kernel
theorem dX2_copyBent_26 : decode cX2_copyBent 26 = .ok (.iload 4, 2) := by decide +kernel
theorem dX2_copyBent_28 : decode cX2_copyBent 28 = .ok (.ineg, 1) := by decide +kernel
theorem dX2_copyBent_29 : decode cX2_copyBent 29 = .ok (.istore 6, 2) := by decide +kernel
theorem dX2_copyBent_31 : decode cX2_copyBent 31 = .ok (.iload 6, 2) := by decide +kernel
theorem dX2_copyBent_33 : decode cX2_copyBent 33 = .ok (.iload 4, 2) := by decide +kernel
theorem dX2_copyBent_35 : decode cX2_copyBent 35 = .ok (.if_icmp .gt 29, 3) := by decide +kernel
theorem dX2_copyBent_38 : decode cX2_copyBent 38 = .ok (.aload_n 0, 1) := by decide +kernel
theorem dX2_copyBent_39 : decode cX2_copyBent 39 = .ok (.iload 6, 2) := by decide +kernel
theorem dX2_copyBent_41 : decode cX2_copyBent 41 = .ok (.iload 5, 2) := by decide +kernel
theorem dX2_copyBent_43 : decode cX2_copyBent 43 = .ok (.aload_n 1, 1) := by decide +kernel
theorem dX2_copyBent_44 : decode cX2_copyBent 44 = .ok (.iload 6, 2) := by decide +kernel
theorem dX2_copyBent_46 : decode cX2_copyBent 46 = .ok (.iload_n 2, 1) := by decide +kernel
theorem dX2_copyBent_47 : decode cX2_copyBent 47 = .ok (.isub, 1) := by decide +kernel
theorem dX2_copyBent_48 : decode cX2_copyBent 48 = .ok (.iload 5, 2) := by decide +kernel
theorem dX2_copyBent_50 : decode cX2_copyBent 50 = .ok (.iload_n 3, 1) := by decide +kernel
theorem dX2_copyBent_51 : decode cX2_copyBent 51 = .ok (.isub, 1) := by decide +kernel
theorem dX2_copyBent_52 : decode cX2_copyBent 52 = .ok (.invokevirtual 50, 3) := by decide +kernel
theorem dX2_copyBent_55 : decode cX2_copyBent 55 = .ok (.invokevirtual 46, 3) := by decide +kernel
theorem dX2_copyBent_58 : decode cX2_copyBent 58 = .ok (.iinc 6 1, 3) := by decide +kernel
theorem dX2_copyBent_61 : decode cX2_copyBent 61 = .ok (.goto (-30), 3) := by decide +kernel
theorem dX2_copyBent_64 : decode cX2_copyBent 64 = .ok (.iinc 5 1, 3) := by decide +kernel
theorem dX2_copyBent_67 : decode cX2_copyBent 67 = .ok (.goto (-48), 3) := by decide +kernel
theorem dX2_copyBent_70 : decode cX2_copyBent 70 = .ok (.return_, 1) := by decide +kernel
theorem dX2_tell_0 : decode cX2_tell 0 = .ok (.iload_n 1, 1) := by decide +kernel
theorem dX2_tell_1 : decode cX2_tell 1 = .ok (.tableswitch 70 0 4 #[35, 40, 45, 50, 55], 35) := by decide +kernel
theorem dX2_tell_36 : decode cX2_tell 36 = .ok (.aload_n 0, 1) := by decide +kernel
theorem dX2_tell_37 : decode cX2_tell 37 = .ok (.getfield 15, 3) := by decide +kernel
theorem dX2_tell_40 : decode cX2_tell 40 = .ok (.ireturn, 1) := by decide +kernel
theorem dX2_tell_41 : decode cX2_tell 41 = .ok (.aload_n 0, 1) := by decide +kernel
theorem dX2_tell_42 : decode cX2_tell 42 = .ok (.invokevirtual 53, 3) := by decide +kernel
theorem dX2_tell_45 : decode cX2_tell 45 = .ok (.ireturn, 1) := by decide +kernel
theorem dX2_tell_46 : decode cX2_tell 46 = .ok (.aload_n 0, 1) := by decide +kernel
theorem dX2_tell_47 : decode cX2_tell 47 = .ok (.invokevirtual 56, 3) := by decide +kernel
theorem dX2_tell_50 : decode cX2_tell 50 = .ok (.ireturn, 1) := by decide +kernel
theorem dX2_tell_51 : decode cX2_tell 51 = .ok (.aload_n 0, 1) := by decide +kernel
theorem dX2_tell_52 : decode cX2_tell 52 = .ok (.invokevirtual 59, 3) := by decide +kernel
theorem dX2_tell_55 : decode cX2_tell 55 = .ok (.ireturn, 1) := by decide +kernel
theorem dX2_tell_56 : decode cX2_tell 56 = .ok (.aload_n 0, 1) := by decide +kernel
theorem dX2_tell_57 : decode cX2_tell 57 = .ok (.iconst 0, 1) := by decide +kernel
theorem dX2_tell_58 : decode cX2_tell 58 = .ok (.iconst 1, 1) := by decide +kernel
theorem dX2_tell_59 : decode cX2_tell 59 = .ok (.invokevirtual 62, 3) := by decide +kernel
theorem dX2_tell_62 : decode cX2_tell 62 = .ok (.ifCond .eq 7, 3) := by decide +kernel
theorem dX2_tell_65 : decode cX2_tell 65 = .ok (.iconst 1, 1) := by decide +kernel
theorem dX2_tell_66 : decode cX2_tell 66 = .ok (.goto 4, 3) := by decide +kernel
theorem dX2_tell_69 : decode cX2_tell 69 = .ok (.iconst 0, 1) := by decide +kernel
theorem dX2_tell_70 : decode cX2_tell 70 = .ok (.ireturn, 1) := by decide +kernel
theorem dX2_tell_71 : decode cX2_tell 71 = .ok (.ldc 66, 2) := by decide +kernel
theorem dX2_tell_73 : decode cX2_tell 73 = .ok (.ireturn, 1) := by decide +kernel
theorem dX2_thrown_0 : decode cX2_thrown 0 = .ok (.iconst 0, 1) := by decide +kernel
theorem dX2_thrown_1 : decode cX2_thrown 1 = .ok (.istore_n 1, 1) := by decide +kernel
theorem dX2_thrown_2 : decode cX2_thrown 2 = .ok (.iconst 0, 1) := by decide +kernel
theorem dX2_thrown_3 : decode cX2_thrown 3 = .ok (.istore_n 2, 1) := by decide +kernel
theorem dX2_thrown_4 : decode cX2_thrown 4 = .ok (.iload_n 2, 1) := by decide +kernel
theorem dX2_thrown_5 : decode cX2_thrown 5 = .ok (.aload_n 0, 1) := by decide +kernel
theorem dX2_thrown_6 : decode cX2_thrown 6 = .ok (.getfield 15, 3) := by decide +kernel
theorem dX2_thrown_9 : decode cX2_thrown 9 = .ok (.aload_n 0, 1) := by decide +kernel
theorem dX2_thrown_10 : decode cX2_thrown 10 = .ok (.getfield 15, 3) := by decide +kernel
theorem dX2_thrown_13 : decode cX2_thrown 13 = .ok (.imul, 1) := by decide +kernel
theorem dX2_thrown_14 : decode cX2_thrown 14 = .ok (.if_icmp .ge 18, 3) := by decide +kernel
theorem dX2_thrown_17 : decode cX2_thrown 17 = .ok (.iload_n 1, 1) := by decide +kernel
theorem dX2_thrown_18 : decode cX2_thrown 18 = .ok (.aload_n 0, 1) := by decide +kernel
theorem dX2_thrown_19 : decode cX2_thrown 19 = .ok (.getfield 11, 3) := by decide +kernel
theorem dX2_thrown_22 : decode cX2_thrown 22 = .ok (.iload_n 2, 1) := by decide +kernel
theorem dX2_thrown_23 : decode cX2_thrown 23 = .ok (.iaload, 1) := by decide +kernel
theorem dX2_thrown_24 : decode cX2_thrown 24 = .ok (.iadd, 1) := by decide +kernel
theorem dX2_thrown_25 : decode cX2_thrown 25 = .ok (.istore_n 1, 1) := by decide +kernel
theorem dX2_thrown_26 : decode cX2_thrown 26 = .ok (.iinc 2 1, 3) := by decide +kernel
theorem dX2_thrown_29 : decode cX2_thrown 29 = .ok (.goto (-25), 3) := by decide +kernel
theorem dX2_thrown_32 : decode cX2_thrown 32 = .ok (.iload_n 1, 1) := by decide +kernel
theorem dX2_thrown_33 : decode cX2_thrown 33 = .ok (.ireturn, 1) := by decide +kernel
theorem dX2_resize_0 : decode cX2_resize 0 = .ok (.aload_n 0, 1) := by decide +kernel
theorem dX2_resize_1 : decode cX2_resize 1 = .ok (.iconst 1, 1) := by decide +kernel
theorem dX2_resize_2 : decode cX2_resize 2 = .ok (.bipush 7, 2) := by decide +kernel
theorem dX2_resize_4 : decode cX2_resize 4 = .ok (.iload_n 1, 1) := by decide +kernel
theorem dX2_resize_5 : decode cX2_resize 5 = .ok (.invokestatic 67, 3) := by decide +kernel
theorem dX2_resize_8 : decode cX2_resize 8 = .ok (.invokestatic 32, 3) := by decide +kernel
theorem dX2_resize_11 : decode cX2_resize 11 = .ok (.putfield 15, 3) := by decide +kernel
theorem dX2_resize_14 : decode cX2_resize 14 = .ok (.return_, 1) := by decide +kernel
theorem dX2_put_0 : decode cX2_put 0 = .ok (.aload_n 0, 1) := by decide +kernel
theorem dX2_put_1 : decode cX2_put 1 = .ok (.invokevirtual 38, 3) := by decide +kernel
theorem dX2_put_4 : decode cX2_put 4 = .ok (.istore 4, 2) := by decide +kernel
theorem dX2_put_6 : decode cX2_put 6 = .ok (.iload_n 1, 1) := by decide +kernel
theorem dX2_put_7 : decode cX2_put 7 = .ok (.iload 4, 2) := by decide +kernel
theorem dX2_put_9 : decode cX2_put 9 = .ok (.ineg, 1) := by decide +kernel
theorem dX2_put_10 : decode cX2_put 10 = .ok (.iload 4, 2) := by decide +kernel
theorem dX2_put_12 : decode cX2_put 12 = .ok (.invokestatic 70, 3) := by decide +kernel
theorem dX2_put_15 : decode cX2_put 15 = .ok (.ifCond .eq 35, 3) := by decide +kernel
theorem dX2_put_18 : decode cX2_put 18 = .ok (.iload_n 2, 1) := by decide +kernel
theorem dX2_put_19 : decode cX2_put 19 = .ok (.iload 4, 2) := by decide +kernel
theorem dX2_put_21 : decode cX2_put 21 = .ok (.ineg, 1) := by decide +kernel
theorem dX2_put_22 : decode cX2_put 22 = .ok (.iload 4, 2) := by decide +kernel
theorem dX2_put_24 : decode cX2_put 24 = .ok (.invokestatic 70, 3) := by decide +kernel
theorem dX2_put_27 : decode cX2_put 27 = .ok (.ifCond .eq 23, 3) := by decide +kernel
theorem dX2_put_30 : decode cX2_put 30 = .ok (.aload_n 0, 1) := by decide +kernel
theorem dX2_put_31 : decode cX2_put 31 = .ok (.getfield 11, 3) := by decide +kernel
theorem dX2_put_34 : decode cX2_put 34 = .ok (.iload 4, 2) := by decide +kernel
theorem dX2_put_36 : decode cX2_put 36 = .ok (.iload_n 2, 1) := by decide +kernel
theorem dX2_put_37 : decode cX2_put 37 = .ok (.isub, 1) := by decide +kernel
theorem dX2_put_38 : decode cX2_put 38 = .ok (.aload_n 0, 1) := by decide +kernel
theorem dX2_put_39 : decode cX2_put 39 = .ok (.getfield 15, 3) := by decide +kernel
theorem dX2_put_42 : decode cX2_put 42 = .ok (.imul, 1) := by decide +kernel
theorem dX2_put_43 : decode cX2_put 43 = .ok (.iload 4, 2) := by decide +kernel
theorem dX2_put_45 : decode cX2_put 45 = .ok (.iadd, 1) := by decide +kernel
theorem dX2_put_46 : decode cX2_put 46 = .ok (.iload_n 1, 1) := by decide +kernel
theorem dX2_put_47 : decode cX2_put 47 = .ok (.iadd, 1) := by decide +kernel
theorem dX2_put_48 : decode cX2_put 48 = .ok (.iload_n 3, 1) := by decide +kernel
theorem dX2_put_49 : decode cX2_put 49 = .ok (.iastore, 1) := by decide +kernel
theorem dX2_put_50 : decode cX2_put 50 = .ok (.return_, 1) := by decide +kernel
theorem dX2_turnedAt_0 : decode cX2_turnedAt 0 = .ok (.iload_n 1, 1) := by decide +kernel
theorem dX2_turnedAt_1 : decode cX2_turnedAt 1 = .ok (.tableswitch 52 1 3 #[27, 35, 44], 27) := by decide +kernel
theorem dX2_turnedAt_28 : decode cX2_turnedAt 28 = .ok (.aload_n 0, 1) := by decide +kernel
theorem dX2_turnedAt_29 : decode cX2_turnedAt 29 = .ok (.iload_n 3, 1) := by decide +kernel
theorem dX2_turnedAt_30 : decode cX2_turnedAt 30 = .ok (.iload_n 2, 1) := by decide +kernel
theorem dX2_turnedAt_31 : decode cX2_turnedAt 31 = .ok (.ineg, 1) := by decide +kernel
theorem dX2_turnedAt_32 : decode cX2_turnedAt 32 = .ok (.invokevirtual 50, 3) := by decide +kernel
theorem dX2_turnedAt_35 : decode cX2_turnedAt 35 = .ok (.ireturn, 1) := by decide +kernel
theorem dX2_turnedAt_36 : decode cX2_turnedAt 36 = .ok (.aload_n 0, 1) := by decide +kernel
theorem dX2_turnedAt_37 : decode cX2_turnedAt 37 = .ok (.iload_n 2, 1) := by decide +kernel
theorem dX2_turnedAt_38 : decode cX2_turnedAt 38 = .ok (.ineg, 1) := by decide +kernel
theorem dX2_turnedAt_39 : decode cX2_turnedAt 39 = .ok (.iload_n 3, 1) := by decide +kernel
theorem dX2_turnedAt_40 : decode cX2_turnedAt 40 = .ok (.ineg, 1) := by decide +kernel
theorem dX2_turnedAt_41 : decode cX2_turnedAt 41 = .ok (.invokevirtual 50, 3) := by decide +kernel
theorem dX2_turnedAt_44 : decode cX2_turnedAt 44 = .ok (.ireturn, 1) := by decide +kernel
theorem dX2_turnedAt_45 : decode cX2_turnedAt 45 = .ok (.aload_n 0, 1) := by decide +kernel
theorem dX2_turnedAt_46 : decode cX2_turnedAt 46 = .ok (.iload_n 3, 1) := by decide +kernel
theorem dX2_turnedAt_47 : decode cX2_turnedAt 47 = .ok (.ineg, 1) := by decide +kernel
theorem dX2_turnedAt_48 : decode cX2_turnedAt 48 = .ok (.iload_n 2, 1) := by decide +kernel
theorem dX2_turnedAt_49 : decode cX2_turnedAt 49 = .ok (.invokevirtual 50, 3) := by decide +kernel
theorem dX2_turnedAt_52 : decode cX2_turnedAt 52 = .ok (.ireturn, 1) := by decide +kernel
theorem dX2_turnedAt_53 : decode cX2_turnedAt 53 = .ok (.aload_n 0, 1) := by decide +kernel
theorem dX2_turnedAt_54 : decode cX2_turnedAt 54 = .ok (.iload_n 2, 1) := by decide +kernel
theorem dX2_turnedAt_55 : decode cX2_turnedAt 55 = .ok (.iload_n 3, 1) := by decide +kernel
theorem dX2_turnedAt_56 : decode cX2_turnedAt 56 = .ok (.invokevirtual 50, 3) := by decide +kernel
theorem dX2_turnedAt_59 : decode cX2_turnedAt 59 = .ok (.ireturn, 1) := by decide +kernel
theorem dX2_greatest_0 : decode cX2_greatest 0 = .ok (.iconst 0, 1) := by decide +kernel
theorem dX2_greatest_1 : decode cX2_greatest 1 = .ok (.istore_n 1, 1) := by decide +kernel
theorem dX2_greatest_2 : decode cX2_greatest 2 = .ok (.iconst 0, 1) := by decide +kernel
theorem dX2_greatest_3 : decode cX2_greatest 3 = .ok (.istore_n 2, 1) := by decide +kernel
theorem dX2_greatest_4 : decode cX2_greatest 4 = .ok (.iload_n 2, 1) := by decide +kernel
theorem dX2_greatest_5 : decode cX2_greatest 5 = .ok (.aload_n 0, 1) := by decide +kernel
theorem dX2_greatest_6 : decode cX2_greatest 6 = .ok (.getfield 15, 3) := by decide +kernel
theorem dX2_greatest_9 : decode cX2_greatest 9 = .ok (.aload_n 0, 1) := by decide +kernel
theorem dX2_greatest_10 : decode cX2_greatest 10 = .ok (.getfield 15, 3) := by decide +kernel
theorem dX2_greatest_13 : decode cX2_greatest 13 = .ok (.imul, 1) := by decide +kernel
theorem dX2_greatest_14 : decode cX2_greatest 14 = .ok (.if_icmp .ge 20, 3) := by decide +kernel
theorem dX2_greatest_17 : decode cX2_greatest 17 = .ok (.iload_n 1, 1) := by decide +kernel
theorem dX2_greatest_18 : decode cX2_greatest 18 = .ok (.aload_n 0, 1) := by decide +kernel
theorem dX2_greatest_19 : decode cX2_greatest 19 = .ok (.getfield 11, 3) := by decide +kernel
theorem dX2_greatest_22 : decode cX2_greatest 22 = .ok (.iload_n 2, 1) := by decide +kernel
theorem dX2_greatest_23 : decode cX2_greatest 23 = .ok (.iaload, 1) := by decide +kernel
theorem dX2_greatest_24 : decode cX2_greatest 24 = .ok (.invokestatic 32, 3) := by decide +kernel
theorem dX2_greatest_27 : decode cX2_greatest 27 = .ok (.istore_n 1, 1) := by decide +kernel
theorem dX2_greatest_28 : decode cX2_greatest 28 = .ok (.iinc 2 1, 3) := by decide +kernel
theorem dX2_greatest_31 : decode cX2_greatest 31 = .ok (.goto (-27), 3) := by decide +kernel
theorem dX2_greatest_34 : decode cX2_greatest 34 = .ok (.iload_n 1, 1) := by decide +kernel
theorem dX2_greatest_35 : decode cX2_greatest 35 = .ok (.ireturn, 1) := by decide +kernel
theorem dX2_leastTurn_0 : decode cX2_leastTurn 0 = .ok (.iconst 1, 1) := by decide +kernel
theorem dX2_leastTurn_1 : decode cX2_leastTurn 1 = .ok (.istore_n 1, 1) := by decide +kernel
theorem dX2_leastTurn_2 : decode cX2_leastTurn 2 = .ok (.iload_n 1, 1) := by decide +kernel
theorem dX2_leastTurn_3 : decode cX2_leastTurn 3 = .ok (.iconst 4, 1) := by decide +kernel
theorem dX2_leastTurn_4 : decode cX2_leastTurn 4 = .ok (.if_icmp .ge 20, 3) := by decide +kernel
theorem dX2_leastTurn_7 : decode cX2_leastTurn 7 = .ok (.aload_n 0, 1) := by decide +kernel
theorem dX2_leastTurn_8 : decode cX2_leastTurn 8 = .ok (.iload_n 1, 1) := by decide +kernel
theorem dX2_leastTurn_9 : decode cX2_leastTurn 9 = .ok (.iconst 0, 1) := by decide +kernel
theorem dX2_leastTurn_10 : decode cX2_leastTurn 10 = .ok (.invokevirtual 62, 3) := by decide +kernel
theorem dX2_leastTurn_13 : decode cX2_leastTurn 13 = .ok (.ifCond .eq 5, 3) := by decide +kernel
theorem dX2_leastTurn_16 : decode cX2_leastTurn 16 = .ok (.iload_n 1, 1) := by decide +kernel
theorem dX2_leastTurn_17 : decode cX2_leastTurn 17 = .ok (.ireturn, 1) := by decide +kernel
theorem dX2_leastTurn_18 : decode cX2_leastTurn 18 = .ok (.iinc 1 1, 3) := by decide +kernel
theorem dX2_leastTurn_21 : decode cX2_leastTurn 21 = .ok (.goto (-19), 3) := by decide +kernel
theorem dX2_leastTurn_24 : decode cX2_leastTurn 24 = .ok (.iconst 4, 1) := by decide +kernel
theorem dX2_leastTurn_25 : decode cX2_leastTurn 25 = .ok (.ireturn, 1) := by decide +kernel
theorem dX2_isSame_0 : decode cX2_isSame 0 = .ok (.aload_n 0, 1) := by decide +kernel
theorem dX2_isSame_1 : decode cX2_isSame 1 = .ok (.invokevirtual 38, 3) := by decide +kernel
theorem dX2_isSame_4 : decode cX2_isSame 4 = .ok (.istore_n 3, 1) := by decide +kernel
theorem dX2_isSame_5 : decode cX2_isSame 5 = .ok (.iload_n 3, 1) := by decide +kernel
theorem dX2_isSame_6 : decode cX2_isSame 6 = .ok (.ineg, 1) := by decide +kernel
theorem dX2_isSame_7 : decode cX2_isSame 7 = .ok (.istore 4, 2) := by decide +kernel
theorem dX2_isSame_9 : decode cX2_isSame 9 = .ok (.iload 4, 2) := by decide +kernel
theorem dX2_isSame_11 : decode cX2_isSame 11 = .ok (.iload_n 3, 1) := by decide +kernel
theorem dX2_isSame_12 : decode cX2_isSame 12 = .ok (.if_icmp .gt 57, 3) := by decide +kernel
theorem dX2_isSame_15 : decode cX2_isSame 15 = .ok (.iload_n 3, 1) := by decide +kernel
theorem dX2_isSame_16 : decode cX2_isSame 16 = .ok (.ineg, 1) := by decide +kernel
theorem dX2_isSame_17 : decode cX2_isSame 17 = .ok (.istore 5, 2) := by decide +kernel
theorem dX2_isSame_19 : decode cX2_isSame 19 = .ok (.iload 5, 2) := by decide +kernel
theorem dX2_isSame_21 : decode cX2_isSame 21 = .ok (.iload_n 3, 1) := by decide +kernel
theorem dX2_isSame_22 : decode cX2_isSame 22 = .ok (.if_icmp .gt 41, 3) := by decide +kernel
theorem dX2_isSame_25 : decode cX2_isSame 25 = .ok (.aload_n 0, 1) := by decide +kernel
theorem dX2_isSame_26 : decode cX2_isSame 26 = .ok (.iload 5, 2) := by decide +kernel
theorem dX2_isSame_28 : decode cX2_isSame 28 = .ok (.iload 4, 2) := by decide +kernel
theorem dX2_isSame_30 : decode cX2_isSame 30 = .ok (.invokevirtual 50, 3) := by decide +kernel
theorem dX2_isSame_33 : decode cX2_isSame 33 = .ok (.aload_n 0, 1) := by decide +kernel
theorem dX2_isSame_34 : decode cX2_isSame 34 = .ok (.iload_n 1, 1) := by decide +kernel
theorem dX2_isSame_35 : decode cX2_isSame 35 = .ok (.iload_n 2, 1) := by decide +kernel
theorem dX2_isSame_36 : decode cX2_isSame 36 = .ok (.ifCond .eq 9, 3) := by decide +kernel
theorem dX2_isSame_39 : decode cX2_isSame 39 = .ok (.iload 5, 2) := by decide +kernel
theorem dX2_isSame_41 : decode cX2_isSame 41 = .ok (.ineg, 1) := by decide +kernel
theorem dX2_isSame_42 : decode cX2_isSame 42 = .ok (.goto 5, 3) := by decide +kernel
theorem dX2_isSame_45 : decode cX2_isSame 45 = .ok (.iload 5, 2) := by decide +kernel
theorem dX2_isSame_47 : decode cX2_isSame 47 = .ok (.iload 4, 2) := by decide +kernel
theorem dX2_isSame_49 : decode cX2_isSame 49 = .ok (.invokevirtual 42, 3) := by decide +kernel
theorem dX2_isSame_52 : decode cX2_isSame 52 = .ok (.if_icmp .eq 5, 3) := by decide +kernel
theorem dX2_isSame_55 : decode cX2_isSame 55 = .ok (.iconst 0, 1) := by decide +kernel
theorem dX2_isSame_56 : decode cX2_isSame 56 = .ok (.ireturn, 1) := by decide +kernel
theorem dX2_isSame_57 : decode cX2_isSame 57 = .ok (.iinc 5 1, 3) := by decide +kernel
theorem dX2_isSame_60 : decode cX2_isSame 60 = .ok (.goto (-41), 3) := by decide +kernel
theorem dX2_isSame_63 : decode cX2_isSame 63 = .ok (.iinc 4 1, 3) := by decide +kernel
theorem dX2_isSame_66 : decode cX2_isSame 66 = .ok (.goto (-57), 3) := by decide +kernel
theorem dX2_isSame_69 : decode cX2_isSame 69 = .ok (.iconst 1, 1) := by decide +kernel
theorem dX2_isSame_70 : decode cX2_isSame 70 = .ok (.ireturn, 1) := by decide +kernel
theorem dX3_init_0 : decode cX3_init 0 = .ok (.aload_n 0, 1) := by decide +kernel
theorem dX3_init_1 : decode cX3_init 1 = .ok (.invokespecial 1, 3) := by decide +kernel
theorem dX3_init_4 : decode cX3_init 4 = .ok (.aload_n 0, 1) := by decide +kernel
theorem dX3_init_5 : decode cX3_init 5 = .ok (.bipush 60, 2) := by decide +kernel
theorem dX3_init_7 : decode cX3_init 7 = .ok (.newarray .int, 2) := by decide +kernel
theorem dX3_init_9 : decode cX3_init 9 = .ok (.putfield 9, 3) := by decide +kernel
theorem dX3_init_12 : decode cX3_init 12 = .ok (.return_, 1) := by decide +kernel
theorem dX3_length_0 : decode cX3_length 0 = .ok (.aload_n 0, 1) := by decide +kernel
theorem dX3_length_1 : decode cX3_length 1 = .ok (.getfield 13, 3) := by decide +kernel
theorem dX3_length_4 : decode cX3_length 4 = .ok (.ireturn, 1) := by decide +kernel
theorem dX3_codeAt_0 : decode cX3_codeAt 0 = .ok (.iload_n 1, 1) := by decide +kernel
theorem dX3_codeAt_1 : decode cX3_codeAt 1 = .ok (.ifCond .lt 20, 3) := by decide +kernel
theorem dX3_codeAt_4 : decode cX3_codeAt 4 = .ok (.iload_n 1, 1) := by decide +kernel
theorem dX3_codeAt_5 : decode cX3_codeAt 5 = .ok (.aload_n 0, 1) := by decide +kernel
theorem dX3_codeAt_6 : decode cX3_codeAt 6 = .ok (.getfield 13, 3) := by decide +kernel
theorem dX3_codeAt_9 : decode cX3_codeAt 9 = .ok (.if_icmp .ge 12, 3) := by decide +kernel
theorem dX3_codeAt_12 : decode cX3_codeAt 12 = .ok (.aload_n 0, 1) := by decide +kernel
theorem dX3_codeAt_13 : decode cX3_codeAt 13 = .ok (.getfield 9, 3) := by decide +kernel
theorem dX3_codeAt_16 : decode cX3_codeAt 16 = .ok (.iload_n 1, 1) := by decide +kernel
theorem dX3_codeAt_17 : decode cX3_codeAt 17 = .ok (.iaload, 1) := by decide +kernel
theorem dX3_codeAt_18 : decode cX3_codeAt 18 = .ok (.goto 4, 3) := by decide +kernel
theorem dX3_codeAt_21 : decode cX3_codeAt 21 = .ok (.iconst 0, 1) := by decide +kernel
theorem dX3_codeAt_22 : decode cX3_codeAt 22 = .ok (.ireturn, 1) := by decide +kernel
theorem dX3_append_0 : decode cX3_append 0 = .ok (.aload_n 0, 1) := by decide +kernel
theorem dX3_append_1 : decode cX3_append 1 = .ok (.getfield 13, 3) := by decide +kernel
theorem dX3_append_4 : decode cX3_append 4 = .ok (.bipush 60, 2) := by decide +kernel
theorem dX3_append_6 : decode cX3_append 6 = .ok (.if_icmp .lt 5, 3) := by decide +kernel
theorem dX3_append_9 : decode cX3_append 9 = .ok (.iconst 0, 1) := by decide +kernel
theorem dX3_append_10 : decode cX3_append 10 = .ok (.ireturn, 1) := by decide +kernel
theorem dX3_append_11 : decode cX3_append 11 = .ok (.aload_n 0, 1) := by decide +kernel
theorem dX3_append_12 : decode cX3_append 12 = .ok (.getfield 9, 3) := by decide +kernel
theorem dX3_append_15 : decode cX3_append 15 = .ok (.aload_n 0, 1) := by decide +kernel
theorem dX3_append_16 : decode cX3_append 16 = .ok (.getfield 13, 3) := by decide +kernel
theorem dX3_append_19 : decode cX3_append 19 = .ok (.iload_n 1, 1) := by decide +kernel
theorem dX3_append_20 : decode cX3_append 20 = .ok (.iastore, 1) := by decide +kernel
theorem dX3_append_21 : decode cX3_append 21 = .ok (.aload_n 0, 1) := by decide +kernel
theorem dX3_append_22 : decode cX3_append 22 = .ok (.dup, 1) := by decide +kernel
theorem dX3_append_23 : decode cX3_append 23 = .ok (.getfield 13, 3) := by decide +kernel
theorem dX3_append_26 : decode cX3_append 26 = .ok (.iconst 1, 1) := by decide +kernel
theorem dX3_append_27 : decode cX3_append 27 = .ok (.iadd, 1) := by decide +kernel
theorem dX3_append_28 : decode cX3_append 28 = .ok (.putfield 13, 3) := by decide +kernel
theorem dX3_append_31 : decode cX3_append 31 = .ok (.iconst 1, 1) := by decide +kernel
theorem dX3_append_32 : decode cX3_append 32 = .ok (.ireturn, 1) := by decide +kernel
theorem dX3_clear_0 : decode cX3_clear 0 = .ok (.aload_n 0, 1) := by decide +kernel
theorem dX3_clear_1 : decode cX3_clear 1 = .ok (.iconst 0, 1) := by decide +kernel
theorem dX3_clear_2 : decode cX3_clear 2 = .ok (.putfield 13, 3) := by decide +kernel
theorem dX3_clear_5 : decode cX3_clear 5 = .ok (.return_, 1) := by decide +kernel
theorem dX3_firstFault_0 : decode cX3_firstFault 0 = .ok (.iconst 0, 1) := by decide +kernel
theorem dX3_firstFault_1 : decode cX3_firstFault 1 = .ok (.istore_n 1, 1) := by decide +kernel
theorem dX3_firstFault_2 : decode cX3_firstFault 2 = .ok (.getstatic 17, 3) := by decide +kernel
theorem dX3_firstFault_5 : decode cX3_firstFault 5 = .ok (.astore_n 2, 1) := by decide +kernel
theorem dX3_firstFault_6 : decode cX3_firstFault 6 = .ok (.aload_n 2, 1) := by decide +kernel
theorem dX3_firstFault_7 : decode cX3_firstFault 7 = .ok (.arraylength, 1) := by decide +kernel
theorem dX3_firstFault_8 : decode cX3_firstFault 8 = .ok (.istore_n 3, 1) := by decide +kernel
theorem dX3_firstFault_9 : decode cX3_firstFault 9 = .ok (.iconst 0, 1) := by decide +kernel
theorem dX3_firstFault_10 : decode cX3_firstFault 10 = .ok (.istore 4, 2) := by decide +kernel
theorem dX3_firstFault_12 : decode cX3_firstFault 12 = .ok (.iload 4, 2) := by decide +kernel
theorem dX3_firstFault_14 : decode cX3_firstFault 14 = .ok (.iload_n 3, 1) := by decide +kernel
theorem dX3_firstFault_15 : decode cX3_firstFault 15 = .ok (.if_icmp .ge 26, 3) := by decide +kernel
theorem dX3_firstFault_18 : decode cX3_firstFault 18 = .ok (.aload_n 2, 1) := by decide +kernel
theorem dX3_firstFault_19 : decode cX3_firstFault 19 = .ok (.iload 4, 2) := by decide +kernel
theorem dX3_firstFault_21 : decode cX3_firstFault 21 = .ok (.iaload, 1) := by decide +kernel
theorem dX3_firstFault_22 : decode cX3_firstFault 22 = .ok (.istore 5, 2) := by decide +kernel
theorem dX3_firstFault_24 : decode cX3_firstFault 24 = .ok (.iload_n 1, 1) := by decide +kernel
theorem dX3_firstFault_25 : decode cX3_firstFault 25 = .ok (.aload_n 0, 1) := by decide +kernel
theorem dX3_firstFault_26 : decode cX3_firstFault 26 = .ok (.iload 5, 2) := by decide +kernel
theorem dX3_firstFault_28 : decode cX3_firstFault 28 = .ok (.invokevirtual 20, 3) := by decide +kernel
theorem dX3_firstFault_31 : decode cX3_firstFault 31 = .ok (.invokestatic 24, 3) := by decide +kernel
theorem dX3_firstFault_34 : decode cX3_firstFault 34 = .ok (.istore_n 1, 1) := by decide +kernel
theorem dX3_firstFault_35 : decode cX3_firstFault 35 = .ok (.iinc 4 1, 3) := by decide +kernel
theorem dX3_firstFault_38 : decode cX3_firstFault 38 = .ok (.goto (-26), 3) := by decide +kernel
theorem dX3_firstFault_41 : decode cX3_firstFault 41 = .ok (.iload_n 1, 1) := by decide +kernel
theorem dX3_firstFault_42 : decode cX3_firstFault 42 = .ok (.ireturn, 1) := by decide +kernel
theorem dX3_sideOfHead_0 : decode cX3_sideOfHead 0 = .ok (.getstatic 17, 3) := by decide +kernel
theorem dX3_sideOfHead_3 : decode cX3_sideOfHead 3 = .ok (.astore_n 1, 1) := by decide +kernel
theorem dX3_sideOfHead_4 : decode cX3_sideOfHead 4 = .ok (.aload_n 1, 1) := by decide +kernel
theorem dX3_sideOfHead_5 : decode cX3_sideOfHead 5 = .ok (.arraylength, 1) := by decide +kernel
theorem dX3_sideOfHead_6 : decode cX3_sideOfHead 6 = .ok (.istore_n 2, 1) := by decide +kernel
theorem dX3_sideOfHead_7 : decode cX3_sideOfHead 7 = .ok (.iconst 0, 1) := by decide +kernel
theorem dX3_sideOfHead_8 : decode cX3_sideOfHead 8 = .ok (.istore_n 3, 1) := by decide +kernel
theorem dX3_sideOfHead_9 : decode cX3_sideOfHead 9 = .ok (.iload_n 3, 1) := by decide +kernel
theorem dX3_sideOfHead_10 : decode cX3_sideOfHead 10 = .ok (.iload_n 2, 1) := by decide +kernel
theorem dX3_sideOfHead_11 : decode cX3_sideOfHead 11 = .ok (.if_icmp .ge 42, 3) := by decide +kernel
theorem dX3_sideOfHead_14 : decode cX3_sideOfHead 14 = .ok (.aload_n 1, 1) := by decide +kernel
theorem dX3_sideOfHead_15 : decode cX3_sideOfHead 15 = .ok (.iload_n 3, 1) := by decide +kernel
theorem dX3_sideOfHead_16 : decode cX3_sideOfHead 16 = .ok (.iaload, 1) := by decide +kernel
theorem dX3_sideOfHead_17 : decode cX3_sideOfHead 17 = .ok (.istore 4, 2) := by decide +kernel
theorem dX3_sideOfHead_19 : decode cX3_sideOfHead 19 = .ok (.aload_n 0, 1) := by decide +kernel
theorem dX3_sideOfHead_20 : decode cX3_sideOfHead 20 = .ok (.getfield 13, 3) := by decide +kernel
theorem dX3_sideOfHead_23 : decode cX3_sideOfHead 23 = .ok (.iload 4, 2) := by decide +kernel
theorem dX3_sideOfHead_25 : decode cX3_sideOfHead 25 = .ok (.invokestatic 30, 3) := by decide +kernel
theorem dX3_sideOfHead_28 : decode cX3_sideOfHead 28 = .ok (.if_icmp .ne 19, 3) := by decide +kernel
theorem dX3_sideOfHead_31 : decode cX3_sideOfHead 31 = .ok (.aload_n 0, 1) := by decide +kernel
theorem dX3_sideOfHead_32 : decode cX3_sideOfHead 32 = .ok (.iload 4, 2) := by decide +kernel
theorem dX3_sideOfHead_34 : decode cX3_sideOfHead 34 = .ok (.invokevirtual 20, 3) := by decide +kernel
theorem dX3_sideOfHead_37 : decode cX3_sideOfHead 37 = .ok (.aload_n 0, 1) := by decide +kernel
theorem dX3_sideOfHead_38 : decode cX3_sideOfHead 38 = .ok (.getfield 13, 3) := by decide +kernel
theorem dX3_sideOfHead_41 : decode cX3_sideOfHead 41 = .ok (.if_icmp .ne 6, 3) := by decide +kernel
theorem dX3_sideOfHead_44 : decode cX3_sideOfHead 44 = .ok (.iload 4, 2) := by decide +kernel
theorem dX3_sideOfHead_46 : decode cX3_sideOfHead 46 = .ok (.ireturn, 1) := by decide +kernel
theorem dX3_sideOfHead_47 : decode cX3_sideOfHead 47 = .ok (.iinc 3 1, 3) := by decide +kernel
theorem dX3_sideOfHead_50 : decode cX3_sideOfHead 50 = .ok (.goto (-41), 3) := by decide +kernel
theorem dX3_sideOfHead_53 : decode cX3_sideOfHead 53 = .ok (.iconst 0, 1) := by decide +kernel
theorem dX3_sideOfHead_54 : decode cX3_sideOfHead 54 = .ok (.ireturn, 1) := by decide +kernel
theorem dX3_figure_0 : decode cX3_figure 0 = .ok (.iload_n 0, 1) := by decide +kernel
theorem dX3_figure_1 : decode cX3_figure 1 = .ok (.bipush 48, 2) := by decide +kernel
theorem dX3_figure_3 : decode cX3_figure 3 = .ok (.if_icmp .lt 14, 3) := by decide +kernel
theorem dX3_figure_6 : decode cX3_figure 6 = .ok (.iload_n 0, 1) := by decide +kernel
theorem dX3_figure_7 : decode cX3_figure 7 = .ok (.bipush 57, 2) := by decide +kernel
theorem dX3_figure_9 : decode cX3_figure 9 = .ok (.if_icmp .gt 8, 3) := by decide +kernel
theorem dX3_figure_12 : decode cX3_figure 12 = .ok (.iload_n 0, 1) := by decide +kernel
theorem dX3_figure_13 : decode cX3_figure 13 = .ok (.bipush 48, 2) := by decide +kernel
theorem dX3_figure_15 : decode cX3_figure 15 = .ok (.isub, 1) := by decide +kernel
theorem dX3_figure_16 : decode cX3_figure 16 = .ok (.ireturn, 1) := by decide +kernel
theorem dX3_figure_17 : decode cX3_figure 17 = .ok (.iload_n 0, 1) := by decide +kernel
theorem dX3_figure_18 : decode cX3_figure 18 = .ok (.bipush 97, 2) := by decide +kernel
theorem dX3_figure_20 : decode cX3_figure 20 = .ok (.if_icmp .lt 19, 3) := by decide +kernel
theorem dX3_figure_23 : decode cX3_figure 23 = .ok (.iload_n 0, 1) := by decide +kernel
theorem dX3_figure_24 : decode cX3_figure 24 = .ok (.bipush 122, 2) := by decide +kernel
theorem dX3_figure_26 : decode cX3_figure 26 = .ok (.if_icmp .gt 13, 3) := by decide +kernel
theorem dX3_figure_29 : decode cX3_figure 29 = .ok (.iload_n 0, 1) := by decide +kernel
theorem dX3_figure_30 : decode cX3_figure 30 = .ok (.bipush 97, 2) := by decide +kernel
theorem dX3_figure_32 : decode cX3_figure 32 = .ok (.isub, 1) := by decide +kernel
theorem dX3_figure_33 : decode cX3_figure 33 = .ok (.bipush 10, 2) := by decide +kernel
theorem dX3_figure_35 : decode cX3_figure 35 = .ok (.iadd, 1) := by decide +kernel
theorem dX3_figure_36 : decode cX3_figure 36 = .ok (.goto 4, 3) := by decide +kernel
theorem dX3_figure_39 : decode cX3_figure 39 = .ok (.iconst (-1), 1) := by decide +kernel
theorem dX3_figure_40 : decode cX3_figure 40 = .ok (.ireturn, 1) := by decide +kernel
theorem dX3_lettersOf_0 : decode cX3_lettersOf 0 = .ok (.iload_n 0, 1) := by decide +kernel
theorem dX3_lettersOf_1 : decode cX3_lettersOf 1 = .ok (.iload_n 0, 1) := by decide +kernel
theorem dX3_lettersOf_2 : decode cX3_lettersOf 2 = .ok (.iconst 1, 1) := by decide +kernel
theorem dX3_lettersOf_3 : decode cX3_lettersOf 3 = .ok (.iadd, 1) := by decide +kernel
theorem dX3_lettersOf_4 : decode cX3_lettersOf 4 = .ok (.imul, 1) := by decide +kernel
theorem dX3_lettersOf_5 : decode cX3_lettersOf 5 = .ok (.iconst 1, 1) := by decide +kernel
theorem dX3_lettersOf_6 : decode cX3_lettersOf 6 = .ok (.isub, 1) := by decide +kernel
theorem dX3_lettersOf_7 : decode cX3_lettersOf 7 = .ok (.ireturn, 1) := by decide +kernel
theorem dX3_fitting_0 : decode cX3_fitting 0 = .ok (.aload_n 0, 1) := by decide +kernel
theorem dX3_fitting_1 : decode cX3_fitting 1 = .ok (.getfield 13, 3) := by decide +kernel
theorem dX3_fitting_4 : decode cX3_fitting 4 = .ok (.iload_n 1, 1) := by decide +kernel
theorem dX3_fitting_5 : decode cX3_fitting 5 = .ok (.invokestatic 30, 3) := by decide +kernel
theorem dX3_fitting_8 : decode cX3_fitting 8 = .ok (.invokestatic 33, 3) := by decide +kernel
theorem dX3_fitting_11 : decode cX3_fitting 11 = .ok (.istore_n 2, 1) := by decide +kernel
theorem dX3_fitting_12 : decode cX3_fitting 12 = .ok (.iconst 0, 1) := by decide +kernel
theorem dX3_fitting_13 : decode cX3_fitting 13 = .ok (.istore_n 3, 1) := by decide +kernel
theorem dX3_fitting_14 : decode cX3_fitting 14 = .ok (.iconst 0, 1) := by decide +kernel
theorem dX3_fitting_15 : decode cX3_fitting 15 = .ok (.istore 4, 2) := by decide +kernel
theorem dX3_fitting_17 : decode cX3_fitting 17 = .ok (.iload 4, 2) := by decide +kernel
theorem dX3_fitting_19 : decode cX3_fitting 19 = .ok (.iload_n 2, 1) := by decide +kernel
theorem dX3_fitting_20 : decode cX3_fitting 20 = .ok (.if_icmp .ge 75, 3) := by decide +kernel
theorem dX3_fitting_23 : decode cX3_fitting 23 = .ok (.iload_n 3, 1) := by decide +kernel
theorem dX3_fitting_24 : decode cX3_fitting 24 = .ok (.iload_n 1, 1) := by decide +kernel
theorem dX3_fitting_25 : decode cX3_fitting 25 = .ok (.if_icmp .ne 23, 3) := by decide +kernel
theorem dX3_fitting_28 : decode cX3_fitting 28 = .ok (.aload_n 0, 1) := by decide +kernel
theorem dX3_fitting_29 : decode cX3_fitting 29 = .ok (.getfield 9, 3) := by decide +kernel
theorem dX3_fitting_32 : decode cX3_fitting 32 = .ok (.iload 4, 2) := by decide +kernel
theorem dX3_fitting_34 : decode cX3_fitting 34 = .ok (.iaload, 1) := by decide +kernel
theorem dX3_fitting_35 : decode cX3_fitting 35 = .ok (.bipush 47, 2) := by decide +kernel
theorem dX3_fitting_37 : decode cX3_fitting 37 = .ok (.if_icmp .ne 7, 3) := by decide +kernel
theorem dX3_fitting_40 : decode cX3_fitting 40 = .ok (.iconst 1, 1) := by decide +kernel
theorem dX3_fitting_41 : decode cX3_fitting 41 = .ok (.goto 25, 3) := by decide +kernel
theorem dX3_fitting_44 : decode cX3_fitting 44 = .ok (.iconst 0, 1) := by decide +kernel
theorem dX3_fitting_45 : decode cX3_fitting 45 = .ok (.goto 21, 3) := by decide +kernel
theorem dX3_fitting_48 : decode cX3_fitting 48 = .ok (.aload_n 0, 1) := by decide +kernel
theorem dX3_fitting_49 : decode cX3_fitting 49 = .ok (.getfield 9, 3) := by decide +kernel
theorem dX3_fitting_52 : decode cX3_fitting 52 = .ok (.iload 4, 2) := by decide +kernel
theorem dX3_fitting_54 : decode cX3_fitting 54 = .ok (.iaload, 1) := by decide +kernel
theorem dX3_fitting_55 : decode cX3_fitting 55 = .ok (.invokestatic 36, 3) := by decide +kernel
theorem dX3_fitting_58 : decode cX3_fitting 58 = .ok (.ifCond .lt 7, 3) := by decide +kernel
theorem dX3_fitting_61 : decode cX3_fitting 61 = .ok (.iconst 1, 1) := by decide +kernel
theorem dX3_fitting_62 : decode cX3_fitting 62 = .ok (.goto 4, 3) := by decide +kernel
theorem dX3_fitting_65 : decode cX3_fitting 65 = .ok (.iconst 0, 1) := by decide +kernel
theorem dX3_fitting_66 : decode cX3_fitting 66 = .ok (.istore 5, 2) := by decide +kernel
theorem dX3_fitting_68 : decode cX3_fitting 68 = .ok (.iload 5, 2) := by decide +kernel
theorem dX3_fitting_70 : decode cX3_fitting 70 = .ok (.ifCond .ne 6, 3) := by decide +kernel
theorem dX3_fitting_73 : decode cX3_fitting 73 = .ok (.iload 4, 2) := by decide +kernel
theorem dX3_fitting_75 : decode cX3_fitting 75 = .ok (.ireturn, 1) := by decide +kernel
theorem dX3_fitting_76 : decode cX3_fitting 76 = .ok (.iload_n 3, 1) := by decide +kernel
theorem dX3_fitting_77 : decode cX3_fitting 77 = .ok (.iload_n 1, 1) := by decide +kernel
theorem dX3_fitting_78 : decode cX3_fitting 78 = .ok (.if_icmp .ne 7, 3) := by decide +kernel
theorem dX3_fitting_81 : decode cX3_fitting 81 = .ok (.iconst 0, 1) := by decide +kernel
theorem dX3_fitting_82 : decode cX3_fitting 82 = .ok (.goto 6, 3) := by decide +kernel
theorem dX3_fitting_85 : decode cX3_fitting 85 = .ok (.iload_n 3, 1) := by decide +kernel
theorem dX3_fitting_86 : decode cX3_fitting 86 = .ok (.iconst 1, 1) := by decide +kernel
theorem dX3_fitting_87 : decode cX3_fitting 87 = .ok (.iadd, 1) := by decide +kernel
theorem dX3_fitting_88 : decode cX3_fitting 88 = .ok (.istore_n 3, 1) := by decide +kernel
theorem dX3_fitting_89 : decode cX3_fitting 89 = .ok (.iinc 4 1, 3) := by decide +kernel
theorem dX3_fitting_92 : decode cX3_fitting 92 = .ok (.goto (-75), 3) := by decide +kernel
theorem dX3_fitting_95 : decode cX3_fitting 95 = .ok (.iload_n 2, 1) := by decide +kernel
theorem dX3_fitting_96 : decode cX3_fitting 96 = .ok (.ireturn, 1) := by decide +kernel
theorem dX4_init_0 : decode cX4_init 0 = .ok (.aload_n 0, 1) := by decide +kernel
theorem dX4_init_1 : decode cX4_init 1 = .ok (.invokespecial 1, 3) := by decide +kernel
theorem dX4_init_4 : decode cX4_init 4 = .ok (.aload_n 0, 1) := by decide +kernel
theorem dX4_init_5 : decode cX4_init 5 = .ok (.iconst 1, 1) := by decide +kernel
theorem dX4_init_6 : decode cX4_init 6 = .ok (.putfield 7, 3) := by decide +kernel
theorem dX4_init_9 : decode cX4_init 9 = .ok (.return_, 1) := by decide +kernel
theorem dX4_set_0 : decode cX4_set 0 = .ok (.iload_n 1, 1) := by decide +kernel
theorem dX4_set_1 : decode cX4_set 1 = .ok (.invokestatic 13, 3) := by decide +kernel
theorem dX4_set_4 : decode cX4_set 4 = .ok (.iload_n 2, 1) := by decide +kernel
theorem dX4_set_5 : decode cX4_set 5 = .ok (.invokestatic 19, 3) := by decide +kernel
theorem dX4_set_8 : decode cX4_set 8 = .ok (.istore_n 3, 1) := by decide +kernel
theorem dX4_set_9 : decode cX4_set 9 = .ok (.iload_n 2, 1) := by decide +kernel
theorem dX4_set_10 : decode cX4_set 10 = .ok (.ifCond .le 7, 3) := by decide +kernel
theorem dX4_set_13 : decode cX4_set 13 = .ok (.iload_n 3, 1) := by decide +kernel
theorem dX4_set_14 : decode cX4_set 14 = .ok (.ifCond .gt 14, 3) := by decide +kernel
theorem dX4_set_17 : decode cX4_set 17 = .ok (.aload_n 0, 1) := by decide +kernel
theorem dX4_set_18 : decode cX4_set 18 = .ok (.iconst 0, 1) := by decide +kernel
theorem dX4_set_19 : decode cX4_set 19 = .ok (.putfield 23, 3) := by decide +kernel
theorem dX4_set_22 : decode cX4_set 22 = .ok (.aload_n 0, 1) := by decide +kernel
theorem dX4_set_23 : decode cX4_set 23 = .ok (.iconst 1, 1) := by decide +kernel
theorem dX4_set_24 : decode cX4_set 24 = .ok (.putfield 7, 3) := by decide +kernel
theorem dX4_set_27 : decode cX4_set 27 = .ok (.return_, 1) := by decide +kernel
theorem dX4_set_28 : decode cX4_set 28 = .ok (.aload_n 0, 1) := by decide +kernel
theorem dX4_set_29 : decode cX4_set 29 = .ok (.iload_n 1, 1) := by decide +kernel
theorem dX4_set_30 : decode cX4_set 30 = .ok (.iload_n 3, 1) := by decide +kernel
theorem dX4_set_31 : decode cX4_set 31 = .ok (.idiv, 1) := by decide +kernel
theorem dX4_set_32 : decode cX4_set 32 = .ok (.putfield 23, 3) := by decide +kernel
theorem dX4_set_35 : decode cX4_set 35 = .ok (.aload_n 0, 1) := by decide +kernel
theorem dX4_set_36 : decode cX4_set 36 = .ok (.iload_n 2, 1) := by decide +kernel
theorem dX4_set_37 : decode cX4_set 37 = .ok (.iload_n 3, 1) := by decide +kernel
theorem dX4_set_38 : decode cX4_set 38 = .ok (.idiv, 1) := by decide +kernel
theorem dX4_set_39 : decode cX4_set 39 = .ok (.putfield 7, 3) := by decide +kernel
theorem dX4_set_42 : decode cX4_set 42 = .ok (.return_, 1) := by decide +kernel
theorem dX4_above_0 : decode cX4_above 0 = .ok (.aload_n 0, 1) := by decide +kernel
theorem dX4_above_1 : decode cX4_above 1 = .ok (.getfield 23, 3) := by decide +kernel
theorem dX4_above_4 : decode cX4_above 4 = .ok (.ireturn, 1) := by decide +kernel
theorem dX4_below_0 : decode cX4_below 0 = .ok (.aload_n 0, 1) := by decide +kernel
theorem dX4_below_1 : decode cX4_below 1 = .ok (.getfield 7, 3) := by decide +kernel
theorem dX4_below_4 : decode cX4_below 4 = .ok (.ireturn, 1) := by decide +kernel
theorem dX4_inCommon_0 : decode cX4_inCommon 0 = .ok (.iconst 0, 1) := by decide +kernel
theorem dX4_inCommon_1 : decode cX4_inCommon 1 = .ok (.istore_n 2, 1) := by decide +kernel
theorem dX4_inCommon_2 : decode cX4_inCommon 2 = .ok (.iload_n 2, 1) := by decide +kernel
theorem dX4_inCommon_3 : decode cX4_inCommon 3 = .ok (.bipush 100, 2) := by decide +kernel
theorem dX4_inCommon_5 : decode cX4_inCommon 5 = .ok (.if_icmp .ge 21, 3) := by decide +kernel
theorem dX4_inCommon_8 : decode cX4_inCommon 8 = .ok (.iload_n 1, 1) := by decide +kernel
theorem dX4_inCommon_9 : decode cX4_inCommon 9 = .ok (.ifCond .eq 17, 3) := by decide +kernel
theorem dX4_inCommon_12 : decode cX4_inCommon 12 = .ok (.iload_n 0, 1) := by decide +kernel
theorem dX4_inCommon_13 : decode cX4_inCommon 13 = .ok (.iload_n 1, 1) := by decide +kernel
theorem dX4_inCommon_14 : decode cX4_inCommon 14 = .ok (.irem, 1) := by decide +kernel
theorem dX4_inCommon_15 : decode cX4_inCommon 15 = .ok (.istore_n 3, 1) := by decide +kernel
theorem dX4_inCommon_16 : decode cX4_inCommon 16 = .ok (.iload_n 1, 1) := by decide +kernel
theorem dX4_inCommon_17 : decode cX4_inCommon 17 = .ok (.istore_n 0, 1) := by decide +kernel
theorem dX4_inCommon_18 : decode cX4_inCommon 18 = .ok (.iload_n 3, 1) := by decide +kernel
theorem dX4_inCommon_19 : decode cX4_inCommon 19 = .ok (.istore_n 1, 1) := by decide +kernel
theorem dX4_inCommon_20 : decode cX4_inCommon 20 = .ok (.iinc 2 1, 3) := by decide +kernel
theorem dX4_inCommon_23 : decode cX4_inCommon 23 = .ok (.goto (-21), 3) := by decide +kernel
theorem dX4_inCommon_26 : decode cX4_inCommon 26 = .ok (.iload_n 0, 1) := by decide +kernel
theorem dX4_inCommon_27 : decode cX4_inCommon 27 = .ok (.ireturn, 1) := by decide +kernel
theorem dJ7_fill_53178_0 : decode cJ7_fill_53178 0 = .ok (.iconst 0, 1) := by decide +kernel
theorem dJ7_fill_53178_1 : decode cJ7_fill_53178 1 = .ok (.istore_n 2, 1) := by decide +kernel
theorem dJ7_fill_53178_2 : decode cJ7_fill_53178 2 = .ok (.aload_n 0, 1) := by decide +kernel
theorem dJ7_fill_53178_3 : decode cJ7_fill_53178 3 = .ok (.arraylength, 1) := by decide +kernel
theorem dJ7_fill_53178_4 : decode cJ7_fill_53178 4 = .ok (.istore_n 3, 1) := by decide +kernel
theorem dJ7_fill_53178_5 : decode cJ7_fill_53178 5 = .ok (.iload_n 2, 1) := by decide +kernel
theorem dJ7_fill_53178_6 : decode cJ7_fill_53178 6 = .ok (.iload_n 3, 1) := by decide +kernel
theorem dJ7_fill_53178_7 : decode cJ7_fill_53178 7 = .ok (.if_icmp .ge 13, 3) := by decide +kernel
theorem dJ7_fill_53178_10 : decode cJ7_fill_53178 10 = .ok (.aload_n 0, 1) := by decide +kernel
theorem dJ7_fill_53178_11 : decode cJ7_fill_53178 11 = .ok (.iload_n 2, 1) := by decide +kernel
theorem dJ7_fill_53178_12 : decode cJ7_fill_53178 12 = .ok (.iload_n 1, 1) := by decide +kernel
theorem dJ7_fill_53178_13 : decode cJ7_fill_53178 13 = .ok (.iastore, 1) := by decide +kernel
theorem dJ7_fill_53178_14 : decode cJ7_fill_53178 14 = .ok (.iinc 2 1, 3) := by decide +kernel
theorem dJ7_fill_53178_17 : decode cJ7_fill_53178 17 = .ok (.goto (-12), 3) := by decide +kernel
theorem dJ7_fill_53178_20 : decode cJ7_fill_53178 20 = .ok (.return_, 1) := by decide +kernel
theorem dJ9_floorDiv_7cf53_0 : decode cJ9_floorDiv_7cf53 0 = .ok (.iload_n 0, 1) := by decide +kernel
theorem dJ9_floorDiv_7cf53_1 : decode cJ9_floorDiv_7cf53 1 = .ok (.iload_n 1, 1) := by decide +kernel
theorem dJ9_floorDiv_7cf53_2 : decode cJ9_floorDiv_7cf53 2 = .ok (.idiv, 1) := by decide +kernel
theorem dJ9_floorDiv_7cf53_3 : decode cJ9_floorDiv_7cf53 3 = .ok (.istore_n 2, 1) := by decide +kernel
theorem dJ9_floorDiv_7cf53_4 : decode cJ9_floorDiv_7cf53 4 = .ok (.iload_n 0, 1) := by decide +kernel
theorem dJ9_floorDiv_7cf53_5 : decode cJ9_floorDiv_7cf53 5 = .ok (.iload_n 1, 1) := by decide +kernel
theorem dJ9_floorDiv_7cf53_6 : decode cJ9_floorDiv_7cf53 6 = .ok (.ixor, 1) := by decide +kernel
theorem dJ9_floorDiv_7cf53_7 : decode cJ9_floorDiv_7cf53 7 = .ok (.ifCond .ge 14, 3) := by decide +kernel
theorem dJ9_floorDiv_7cf53_10 : decode cJ9_floorDiv_7cf53 10 = .ok (.iload_n 2, 1) := by decide +kernel
theorem dJ9_floorDiv_7cf53_11 : decode cJ9_floorDiv_7cf53 11 = .ok (.iload_n 1, 1) := by decide +kernel
theorem dJ9_floorDiv_7cf53_12 : decode cJ9_floorDiv_7cf53 12 = .ok (.imul, 1) := by decide +kernel
theorem dJ9_floorDiv_7cf53_13 : decode cJ9_floorDiv_7cf53 13 = .ok (.iload_n 0, 1) := by decide +kernel
theorem dJ9_floorDiv_7cf53_14 : decode cJ9_floorDiv_7cf53 14 = .ok (.if_icmp .eq 7, 3) := by decide +kernel
theorem dJ9_floorDiv_7cf53_17 : decode cJ9_floorDiv_7cf53 17 = .ok (.iload_n 2, 1) := by decide +kernel
theorem dJ9_floorDiv_7cf53_18 : decode cJ9_floorDiv_7cf53 18 = .ok (.iconst 1, 1) := by decide +kernel
theorem dJ9_floorDiv_7cf53_19 : decode cJ9_floorDiv_7cf53 19 = .ok (.isub, 1) := by decide +kernel
theorem dJ9_floorDiv_7cf53_20 : decode cJ9_floorDiv_7cf53 20 = .ok (.ireturn, 1) := by decide +kernel
theorem dJ9_floorDiv_7cf53_21 : decode cJ9_floorDiv_7cf53 21 = .ok (.iload_n 2, 1) := by decide +kernel
theorem dJ9_floorDiv_7cf53_22 : decode cJ9_floorDiv_7cf53 22 = .ok (.ireturn, 1) := by decide +kernel
theorem dJ9_floorMod_7cf53_0 : decode cJ9_floorMod_7cf53 0 = .ok (.iload_n 0, 1) := by decide +kernel
theorem dJ9_floorMod_7cf53_1 : decode cJ9_floorMod_7cf53 1 = .ok (.iload_n 1, 1) := by decide +kernel
theorem dJ9_floorMod_7cf53_2 : decode cJ9_floorMod_7cf53 2 = .ok (.irem, 1) := by decide +kernel
theorem dJ9_floorMod_7cf53_3 : decode cJ9_floorMod_7cf53 3 = .ok (.istore_n 2, 1) := by decide +kernel
theorem dJ9_floorMod_7cf53_4 : decode cJ9_floorMod_7cf53 4 = .ok (.iload_n 0, 1) := by decide +kernel
theorem dJ9_floorMod_7cf53_5 : decode cJ9_floorMod_7cf53 5 = .ok (.iload_n 1, 1) := by decide +kernel
theorem dJ9_floorMod_7cf53_6 : decode cJ9_floorMod_7cf53 6 = .ok (.ixor, 1) := by decide +kernel
theorem dJ9_floorMod_7cf53_7 : decode cJ9_floorMod_7cf53 7 = .ok (.ifCond .ge 11, 3) := by decide +kernel
theorem dJ9_floorMod_7cf53_10 : decode cJ9_floorMod_7cf53 10 = .ok (.iload_n 2, 1) := by decide +kernel
theorem dJ9_floorMod_7cf53_11 : decode cJ9_floorMod_7cf53 11 = .ok (.ifCond .eq 7, 3) := by decide +kernel
theorem dJ9_floorMod_7cf53_14 : decode cJ9_floorMod_7cf53 14 = .ok (.iload_n 2, 1) := by decide +kernel
theorem dJ9_floorMod_7cf53_15 : decode cJ9_floorMod_7cf53 15 = .ok (.iload_n 1, 1) := by decide +kernel
theorem dJ9_floorMod_7cf53_16 : decode cJ9_floorMod_7cf53 16 = .ok (.iadd, 1) := by decide +kernel
theorem dJ9_floorMod_7cf53_17 : decode cJ9_floorMod_7cf53 17 = .ok (.ireturn, 1) := by decide +kernel
theorem dJ9_floorMod_7cf53_18 : decode cJ9_floorMod_7cf53 18 = .ok (.iload_n 2, 1) := by decide +kernel
theorem dJ9_floorMod_7cf53_19 : decode cJ9_floorMod_7cf53 19 = .ok (.ireturn, 1) := by decide +kernel
theorem dJ9_abs_0f7a4_0 : decode cJ9_abs_0f7a4 0 = .ok (.iload_n 0, 1) := by decide +kernel
theorem dJ9_abs_0f7a4_1 : decode cJ9_abs_0f7a4 1 = .ok (.ifCond .ge 8, 3) := by decide +kernel
theorem dJ9_abs_0f7a4_4 : decode cJ9_abs_0f7a4 4 = .ok (.iload_n 0, 1) := by decide +kernel
theorem dJ9_abs_0f7a4_5 : decode cJ9_abs_0f7a4 5 = .ok (.ineg, 1) := by decide +kernel
theorem dJ9_abs_0f7a4_6 : decode cJ9_abs_0f7a4 6 = .ok (.goto 4, 3) := by decide +kernel
theorem dJ9_abs_0f7a4_9 : decode cJ9_abs_0f7a4 9 = .ok (.iload_n 0, 1) := by decide +kernel
theorem dJ9_abs_0f7a4_10 : decode cJ9_abs_0f7a4 10 = .ok (.ireturn, 1) := by decide +kernel
theorem dJ9_max_7cf53_0 : decode cJ9_max_7cf53 0 = .ok (.iload_n 0, 1) := by decide +kernel
theorem dJ9_max_7cf53_1 : decode cJ9_max_7cf53 1 = .ok (.iload_n 1, 1) := by decide +kernel
theorem dJ9_max_7cf53_2 : decode cJ9_max_7cf53 2 = .ok (.if_icmp .lt 7, 3) := by decide +kernel
theorem dJ9_max_7cf53_5 : decode cJ9_max_7cf53 5 = .ok (.iload_n 0, 1) := by decide +kernel
theorem dJ9_max_7cf53_6 : decode cJ9_max_7cf53 6 = .ok (.goto 4, 3) := by decide +kernel
theorem dJ9_max_7cf53_9 : decode cJ9_max_7cf53 9 = .ok (.iload_n 1, 1) := by decide +kernel
theorem dJ9_max_7cf53_10 : decode cJ9_max_7cf53 10 = .ok (.ireturn, 1) := by decide +kernel
theorem dJ9_min_7cf53_0 : decode cJ9_min_7cf53 0 = .ok (.iload_n 0, 1) := by decide +kernel
theorem dJ9_min_7cf53_1 : decode cJ9_min_7cf53 1 = .ok (.iload_n 1, 1) := by decide +kernel
theorem dJ9_min_7cf53_2 : decode cJ9_min_7cf53 2 = .ok (.if_icmp .gt 7, 3) := by decide +kernel
theorem dJ9_min_7cf53_5 : decode cJ9_min_7cf53 5 = .ok (.iload_n 0, 1) := by decide +kernel
theorem dJ9_min_7cf53_6 : decode cJ9_min_7cf53 6 = .ok (.goto 4, 3) := by decide +kernel
theorem dJ9_min_7cf53_9 : decode cJ9_min_7cf53 9 = .ok (.iload_n 1, 1) := by decide +kernel
theorem dJ9_min_7cf53_10 : decode cJ9_min_7cf53 10 = .ok (.ireturn, 1) := by decide +kernel
