theorem dX6_init_0 : decode cX6_init 0 = .ok (.aload_n 0, 1) := by decide +kernel
theorem dX6_init_1 : decode cX6_init 1 = .ok (.invokespecial 1, 3) := by decide +kernel
theorem dX6_init_4 : decode cX6_init 4 = .ok (.aload_n 0, 1) := by decide +kernel
theorem dX6_init_5 : decode cX6_init 5 = .ok (.bipush 60, 2) := by decide +kernel
theorem dX6_init_7 : decode cX6_init 7 = .ok (.newarray .int, 2) := by decide +kernel
theorem dX6_init_9 : decode cX6_init 9 = .ok (.putfield 7, 3) := by decide +kernel
theorem dX6_init_12 : decode cX6_init 12 = .ok (.aload_n 0, 1) := by decide +kernel
theorem dX6_init_13 : decode cX6_init 13 = .ok (.iconst 5, 1) := by decide +kernel
theorem dX6_init_14 : decode cX6_init 14 = .ok (.newarray .int, 2) := by decide +kernel
theorem dX6_init_16 : decode cX6_init 16 = .ok (.putfield 13, 3) := by decide +kernel
theorem dX6_init_19 : decode cX6_init 19 = .ok (.aload_n 0, 1) := by decide +kernel
theorem dX6_init_20 : decode cX6_init 20 = .ok (.sipush 245, 3) := by decide +kernel
theorem dX6_init_23 : decode cX6_init 23 = .ok (.newarray .int, 2) := by decide +kernel
theorem dX6_init_25 : decode cX6_init 25 = .ok (.putfield 16, 3) := by decide +kernel
theorem dX6_init_28 : decode cX6_init 28 = .ok (.aload_n 0, 1) := by decide +kernel
theorem dX6_init_29 : decode cX6_init 29 = .ok (.sipush 361, 3) := by decide +kernel
theorem dX6_init_32 : decode cX6_init 32 = .ok (.newarray .int, 2) := by decide +kernel
theorem dX6_init_34 : decode cX6_init 34 = .ok (.putfield 19, 3) := by decide +kernel
theorem dX6_init_37 : decode cX6_init 37 = .ok (.return_, 1) := by decide +kernel
theorem dX6_within_0 : decode cX6_within 0 = .ok (.iload_n 0, 1) := by decide +kernel
theorem dX6_within_1 : decode cX6_within 1 = .ok (.iload_n 1, 1) := by decide +kernel
theorem dX6_within_2 : decode cX6_within 2 = .ok (.if_icmp .lt 12, 3) := by decide +kernel
theorem dX6_within_5 : decode cX6_within 5 = .ok (.iload_n 0, 1) := by decide +kernel
theorem dX6_within_6 : decode cX6_within 6 = .ok (.iload_n 2, 1) := by decide +kernel
theorem dX6_within_7 : decode cX6_within 7 = .ok (.if_icmp .gt 7, 3) := by decide +kernel
theorem dX6_within_10 : decode cX6_within 10 = .ok (.iconst 1, 1) := by decide +kernel
theorem dX6_within_11 : decode cX6_within 11 = .ok (.goto 4, 3) := by decide +kernel
theorem dX6_within_14 : decode cX6_within 14 = .ok (.iconst 0, 1) := by decide +kernel
theorem dX6_within_15 : decode cX6_within 15 = .ok (.ireturn, 1) := by decide +kernel
theorem dX6_letter_0 : decode cX6_letter 0 = .ok (.iload_n 1, 1) := by decide +kernel
theorem dX6_letter_1 : decode cX6_letter 1 = .ok (.bipush 32, 2) := by decide +kernel
theorem dX6_letter_3 : decode cX6_letter 3 = .ok (.bipush 126, 2) := by decide +kernel
theorem dX6_letter_5 : decode cX6_letter 5 = .ok (.invokestatic 22, 3) := by decide +kernel
theorem dX6_letter_8 : decode cX6_letter 8 = .ok (.ifCond .ne 6, 3) := by decide +kernel
theorem dX6_letter_11 : decode cX6_letter 11 = .ok (.ldc 26, 2) := by decide +kernel
theorem dX6_letter_13 : decode cX6_letter 13 = .ok (.ireturn, 1) := by decide +kernel
theorem dX6_letter_14 : decode cX6_letter 14 = .ok (.aload_n 0, 1) := by decide +kernel
theorem dX6_letter_15 : decode cX6_letter 15 = .ok (.getfield 27, 3) := by decide +kernel
theorem dX6_letter_18 : decode cX6_letter 18 = .ok (.bipush 60, 2) := by decide +kernel
theorem dX6_letter_20 : decode cX6_letter 20 = .ok (.if_icmp .ne 6, 3) := by decide +kernel
theorem dX6_letter_23 : decode cX6_letter 23 = .ok (.ldc 31, 2) := by decide +kernel
theorem dX6_letter_25 : decode cX6_letter 25 = .ok (.ireturn, 1) := by decide +kernel
theorem dX6_letter_26 : decode cX6_letter 26 = .ok (.aload_n 0, 1) := by decide +kernel
theorem dX6_letter_27 : decode cX6_letter 27 = .ok (.getfield 7, 3) := by decide +kernel
theorem dX6_letter_30 : decode cX6_letter 30 = .ok (.aload_n 0, 1) := by decide +kernel
theorem dX6_letter_31 : decode cX6_letter 31 = .ok (.getfield 27, 3) := by decide +kernel
theorem dX6_letter_34 : decode cX6_letter 34 = .ok (.iload_n 1, 1) := by decide +kernel
theorem dX6_letter_35 : decode cX6_letter 35 = .ok (.iastore, 1) := by decide +kernel
theorem dX6_letter_36 : decode cX6_letter 36 = .ok (.aload_n 0, 1) := by decide +kernel
theorem dX6_letter_37 : decode cX6_letter 37 = .ok (.dup, 1) := by decide +kernel
theorem dX6_letter_38 : decode cX6_letter 38 = .ok (.getfield 27, 3) := by decide +kernel
theorem dX6_letter_41 : decode cX6_letter 41 = .ok (.iconst 1, 1) := by decide +kernel
theorem dX6_letter_42 : decode cX6_letter 42 = .ok (.iadd, 1) := by decide +kernel
theorem dX6_letter_43 : decode cX6_letter 43 = .ok (.putfield 27, 3) := by decide +kernel
theorem dX6_letter_46 : decode cX6_letter 46 = .ok (.aload_n 0, 1) := by decide +kernel
theorem dX6_letter_47 : decode cX6_letter 47 = .ok (.getfield 27, 3) := by decide +kernel
theorem dX6_letter_50 : decode cX6_letter 50 = .ok (.ireturn, 1) := by decide +kernel
theorem dX6_blank_0 : decode cX6_blank 0 = .ok (.aload_n 0, 1) := by decide +kernel
theorem dX6_blank_1 : decode cX6_blank 1 = .ok (.getfield 27, 3) := by decide +kernel
theorem dX6_blank_4 : decode cX6_blank 4 = .ok (.istore_n 1, 1) := by decide +kernel
theorem dX6_blank_5 : decode cX6_blank 5 = .ok (.aload_n 0, 1) := by decide +kernel
theorem dX6_blank_6 : decode cX6_blank 6 = .ok (.iconst 0, 1) := by decide +kernel
theorem dX6_blank_7 : decode cX6_blank 7 = .ok (.putfield 27, 3) := by decide +kernel
theorem dX6_blank_10 : decode cX6_blank 10 = .ok (.iload_n 1, 1) := by decide +kernel
theorem dX6_blank_11 : decode cX6_blank 11 = .ok (.ireturn, 1) := by decide +kernel
theorem dX6_depthOf_0 : decode cX6_depthOf 0 = .ok (.iload_n 0, 1) := by decide +kernel
theorem dX6_depthOf_1 : decode cX6_depthOf 1 = .ok (.bipush 48, 2) := by decide +kernel
theorem dX6_depthOf_3 : decode cX6_depthOf 3 = .ok (.bipush 57, 2) := by decide +kernel
theorem dX6_depthOf_5 : decode cX6_depthOf 5 = .ok (.invokestatic 22, 3) := by decide +kernel
theorem dX6_depthOf_8 : decode cX6_depthOf 8 = .ok (.ifCond .eq 10, 3) := by decide +kernel
theorem dX6_depthOf_11 : decode cX6_depthOf 11 = .ok (.iload_n 0, 1) := by decide +kernel
theorem dX6_depthOf_12 : decode cX6_depthOf 12 = .ok (.bipush 48, 2) := by decide +kernel
theorem dX6_depthOf_14 : decode cX6_depthOf 14 = .ok (.isub, 1) := by decide +kernel
theorem dX6_depthOf_15 : decode cX6_depthOf 15 = .ok (.goto 26, 3) := by decide +kernel
theorem dX6_depthOf_18 : decode cX6_depthOf 18 = .ok (.iload_n 0, 1) := by decide +kernel
theorem dX6_depthOf_19 : decode cX6_depthOf 19 = .ok (.bipush 97, 2) := by decide +kernel
theorem dX6_depthOf_21 : decode cX6_depthOf 21 = .ok (.bipush 122, 2) := by decide +kernel
theorem dX6_depthOf_23 : decode cX6_depthOf 23 = .ok (.invokestatic 22, 3) := by decide +kernel
theorem dX6_depthOf_26 : decode cX6_depthOf 26 = .ok (.ifCond .eq 13, 3) := by decide +kernel
theorem dX6_depthOf_29 : decode cX6_depthOf 29 = .ok (.iload_n 0, 1) := by decide +kernel
theorem dX6_depthOf_30 : decode cX6_depthOf 30 = .ok (.bipush 97, 2) := by decide +kernel
theorem dX6_depthOf_32 : decode cX6_depthOf 32 = .ok (.isub, 1) := by decide +kernel
theorem dX6_depthOf_33 : decode cX6_depthOf 33 = .ok (.bipush 10, 2) := by decide +kernel
theorem dX6_depthOf_35 : decode cX6_depthOf 35 = .ok (.iadd, 1) := by decide +kernel
theorem dX6_depthOf_36 : decode cX6_depthOf 36 = .ok (.goto 5, 3) := by decide +kernel
theorem dX6_depthOf_39 : decode cX6_depthOf 39 = .ok (.ldc 32, 2) := by decide +kernel
theorem dX6_depthOf_41 : decode cX6_depthOf 41 = .ok (.ireturn, 1) := by decide +kernel
theorem dX6_takes_0 : decode cX6_takes 0 = .ok (.iload_n 1, 1) := by decide +kernel
theorem dX6_takes_1 : decode cX6_takes 1 = .ok (.bipush 47, 2) := by decide +kernel
theorem dX6_takes_3 : decode cX6_takes 3 = .ok (.if_icmp .ne 128, 3) := by decide +kernel
theorem dX6_takes_6 : decode cX6_takes 6 = .ok (.aload_n 0, 1) := by decide +kernel
theorem dX6_takes_7 : decode cX6_takes 7 = .ok (.getfield 33, 3) := by decide +kernel
theorem dX6_takes_10 : decode cX6_takes 10 = .ok (.ifCond .ne 29, 3) := by decide +kernel
theorem dX6_takes_13 : decode cX6_takes 13 = .ok (.aload_n 0, 1) := by decide +kernel
theorem dX6_takes_14 : decode cX6_takes 14 = .ok (.getfield 36, 3) := by decide +kernel
theorem dX6_takes_17 : decode cX6_takes 17 = .ok (.iconst 2, 1) := by decide +kernel
theorem dX6_takes_18 : decode cX6_takes 18 = .ok (.if_icmp .le 17, 3) := by decide +kernel
theorem dX6_takes_21 : decode cX6_takes 21 = .ok (.aload_n 0, 1) := by decide +kernel
theorem dX6_takes_22 : decode cX6_takes 22 = .ok (.getfield 36, 3) := by decide +kernel
theorem dX6_takes_25 : decode cX6_takes 25 = .ok (.iconst 2, 1) := by decide +kernel
theorem dX6_takes_26 : decode cX6_takes 26 = .ok (.irem, 1) := by decide +kernel
theorem dX6_takes_27 : decode cX6_takes 27 = .ok (.iconst 1, 1) := by decide +kernel
theorem dX6_takes_28 : decode cX6_takes 28 = .ok (.if_icmp .ne 7, 3) := by decide +kernel
theorem dX6_takes_31 : decode cX6_takes 31 = .ok (.iconst 1, 1) := by decide +kernel
theorem dX6_takes_32 : decode cX6_takes 32 = .ok (.goto 36, 3) := by decide +kernel
theorem dX6_takes_35 : decode cX6_takes 35 = .ok (.iconst 0, 1) := by decide +kernel
theorem dX6_takes_36 : decode cX6_takes 36 = .ok (.goto 32, 3) := by decide +kernel
theorem dX6_takes_39 : decode cX6_takes 39 = .ok (.aload_n 0, 1) := by decide +kernel
theorem dX6_takes_40 : decode cX6_takes 40 = .ok (.getfield 36, 3) := by decide +kernel
theorem dX6_takes_43 : decode cX6_takes 43 = .ok (.aload_n 0, 1) := by decide +kernel
theorem dX6_takes_44 : decode cX6_takes 44 = .ok (.getfield 33, 3) := by decide +kernel
theorem dX6_takes_47 : decode cX6_takes 47 = .ok (.if_icmp .ne 20, 3) := by decide +kernel
theorem dX6_takes_50 : decode cX6_takes 50 = .ok (.aload_n 0, 1) := by decide +kernel
theorem dX6_takes_51 : decode cX6_takes 51 = .ok (.getfield 39, 3) := by decide +kernel
theorem dX6_takes_54 : decode cX6_takes 54 = .ok (.iconst 1, 1) := by decide +kernel
theorem dX6_takes_55 : decode cX6_takes 55 = .ok (.iadd, 1) := by decide +kernel
theorem dX6_takes_56 : decode cX6_takes 56 = .ok (.aload_n 0, 1) := by decide +kernel
theorem dX6_takes_57 : decode cX6_takes 57 = .ok (.getfield 33, 3) := by decide +kernel
theorem dX6_takes_60 : decode cX6_takes 60 = .ok (.if_icmp .ge 7, 3) := by decide +kernel
theorem dX6_takes_63 : decode cX6_takes 63 = .ok (.iconst 1, 1) := by decide +kernel
theorem dX6_takes_64 : decode cX6_takes 64 = .ok (.goto 4, 3) := by decide +kernel
theorem dX6_takes_67 : decode cX6_takes 67 = .ok (.iconst 0, 1) := by decide +kernel
theorem dX6_takes_68 : decode cX6_takes 68 = .ok (.istore_n 2, 1) := by decide +kernel
theorem dX6_takes_69 : decode cX6_takes 69 = .ok (.aload_n 0, 1) := by decide +kernel
theorem dX6_takes_70 : decode cX6_takes 70 = .ok (.aload_n 0, 1) := by decide +kernel
theorem dX6_takes_71 : decode cX6_takes 71 = .ok (.getfield 33, 3) := by decide +kernel
theorem dX6_takes_74 : decode cX6_takes 74 = .ok (.ifCond .ne 14, 3) := by decide +kernel
theorem dX6_takes_77 : decode cX6_takes 77 = .ok (.iload_n 2, 1) := by decide +kernel
theorem dX6_takes_78 : decode cX6_takes 78 = .ok (.ifCond .eq 10, 3) := by decide +kernel
theorem dX6_takes_81 : decode cX6_takes 81 = .ok (.aload_n 0, 1) := by decide +kernel
theorem dX6_takes_82 : decode cX6_takes 82 = .ok (.getfield 36, 3) := by decide +kernel
theorem dX6_takes_85 : decode cX6_takes 85 = .ok (.goto 7, 3) := by decide +kernel
theorem dX6_takes_88 : decode cX6_takes 88 = .ok (.aload_n 0, 1) := by decide +kernel
theorem dX6_takes_89 : decode cX6_takes 89 = .ok (.getfield 33, 3) := by decide +kernel
theorem dX6_takes_92 : decode cX6_takes 92 = .ok (.putfield 33, 3) := by decide +kernel
theorem dX6_takes_95 : decode cX6_takes 95 = .ok (.aload_n 0, 1) := by decide +kernel
theorem dX6_takes_96 : decode cX6_takes 96 = .ok (.dup, 1) := by decide +kernel
theorem dX6_takes_97 : decode cX6_takes 97 = .ok (.getfield 39, 3) := by decide +kernel
theorem dX6_takes_100 : decode cX6_takes 100 = .ok (.iload_n 2, 1) := by decide +kernel
theorem dX6_takes_101 : decode cX6_takes 101 = .ok (.ifCond .eq 7, 3) := by decide +kernel
theorem dX6_takes_104 : decode cX6_takes 104 = .ok (.iconst 1, 1) := by decide +kernel
theorem dX6_takes_105 : decode cX6_takes 105 = .ok (.goto 4, 3) := by decide +kernel
theorem dX6_takes_108 : decode cX6_takes 108 = .ok (.iconst 0, 1) := by decide +kernel
theorem dX6_takes_109 : decode cX6_takes 109 = .ok (.iadd, 1) := by decide +kernel
theorem dX6_takes_110 : decode cX6_takes 110 = .ok (.putfield 39, 3) := by decide +kernel
theorem dX6_takes_113 : decode cX6_takes 113 = .ok (.aload_n 0, 1) := by decide +kernel
theorem dX6_takes_114 : decode cX6_takes 114 = .ok (.iload_n 2, 1) := by decide +kernel
theorem dX6_takes_115 : decode cX6_takes 115 = .ok (.ifCond .eq 7, 3) := by decide +kernel
theorem dX6_takes_118 : decode cX6_takes 118 = .ok (.iconst 0, 1) := by decide +kernel
theorem dX6_takes_119 : decode cX6_takes 119 = .ok (.goto 7, 3) := by decide +kernel
theorem dX6_takes_122 : decode cX6_takes 122 = .ok (.aload_n 0, 1) := by decide +kernel
theorem dX6_takes_123 : decode cX6_takes 123 = .ok (.getfield 36, 3) := by decide +kernel
theorem dX6_takes_126 : decode cX6_takes 126 = .ok (.putfield 36, 3) := by decide +kernel
theorem dX6_takes_129 : decode cX6_takes 129 = .ok (.iload_n 2, 1) := by decide +kernel
theorem dX6_takes_130 : decode cX6_takes 130 = .ok (.ireturn, 1) := by decide +kernel
theorem dX6_takes_131 : decode cX6_takes 131 = .ok (.iload_n 1, 1) := by decide +kernel
theorem dX6_takes_132 : decode cX6_takes 132 = .ok (.invokestatic 42, 3) := by decide +kernel
theorem dX6_takes_135 : decode cX6_takes 135 = .ok (.ldc 32, 2) := by decide +kernel
theorem dX6_takes_137 : decode cX6_takes 137 = .ok (.if_icmp .eq 30, 3) := by decide +kernel
theorem dX6_takes_140 : decode cX6_takes 140 = .ok (.aload_n 0, 1) := by decide +kernel
theorem dX6_takes_141 : decode cX6_takes 141 = .ok (.getfield 36, 3) := by decide +kernel
theorem dX6_takes_144 : decode cX6_takes 144 = .ok (.aload_n 0, 1) := by decide +kernel
theorem dX6_takes_145 : decode cX6_takes 145 = .ok (.getfield 33, 3) := by decide +kernel
theorem dX6_takes_148 : decode cX6_takes 148 = .ok (.ifCond .ne 8, 3) := by decide +kernel
theorem dX6_takes_151 : decode cX6_takes 151 = .ok (.bipush 7, 2) := by decide +kernel
theorem dX6_takes_153 : decode cX6_takes 153 = .ok (.goto 7, 3) := by decide +kernel
theorem dX6_takes_156 : decode cX6_takes 156 = .ok (.aload_n 0, 1) := by decide +kernel
theorem dX6_takes_157 : decode cX6_takes 157 = .ok (.getfield 33, 3) := by decide +kernel
theorem dX6_takes_160 : decode cX6_takes 160 = .ok (.if_icmp .ge 7, 3) := by decide +kernel
theorem dX6_takes_163 : decode cX6_takes 163 = .ok (.iconst 1, 1) := by decide +kernel
theorem dX6_takes_164 : decode cX6_takes 164 = .ok (.goto 4, 3) := by decide +kernel
theorem dX6_takes_167 : decode cX6_takes 167 = .ok (.iconst 0, 1) := by decide +kernel
theorem dX6_takes_168 : decode cX6_takes 168 = .ok (.istore_n 2, 1) := by decide +kernel
theorem dX6_takes_169 : decode cX6_takes 169 = .ok (.aload_n 0, 1) := by decide +kernel
theorem dX6_takes_170 : decode cX6_takes 170 = .ok (.dup, 1) := by decide +kernel
theorem dX6_takes_171 : decode cX6_takes 171 = .ok (.getfield 36, 3) := by decide +kernel
theorem dX6_takes_174 : decode cX6_takes 174 = .ok (.iload_n 2, 1) := by decide +kernel
theorem dX6_takes_175 : decode cX6_takes 175 = .ok (.ifCond .eq 7, 3) := by decide +kernel
theorem dX6_takes_178 : decode cX6_takes 178 = .ok (.iconst 1, 1) := by decide +kernel
theorem dX6_takes_179 : decode cX6_takes 179 = .ok (.goto 4, 3) := by decide +kernel
theorem dX6_takes_182 : decode cX6_takes 182 = .ok (.iconst 0, 1) := by decide +kernel
theorem dX6_takes_183 : decode cX6_takes 183 = .ok (.iadd, 1) := by decide +kernel
theorem dX6_takes_184 : decode cX6_takes 184 = .ok (.putfield 36, 3) := by decide +kernel
theorem dX6_takes_187 : decode cX6_takes 187 = .ok (.iload_n 2, 1) := by decide +kernel
theorem dX6_takes_188 : decode cX6_takes 188 = .ok (.ireturn, 1) := by decide +kernel
theorem dX6_goAlong_0 : decode cX6_goAlong 0 = .ok (.aload_n 0, 1) := by decide +kernel
theorem dX6_goAlong_1 : decode cX6_goAlong 1 = .ok (.iconst 0, 1) := by decide +kernel
theorem dX6_goAlong_2 : decode cX6_goAlong 2 = .ok (.putfield 36, 3) := by decide +kernel
theorem dX6_goAlong_5 : decode cX6_goAlong 5 = .ok (.aload_n 0, 1) := by decide +kernel
theorem dX6_goAlong_6 : decode cX6_goAlong 6 = .ok (.iconst 0, 1) := by decide +kernel
theorem dX6_goAlong_7 : decode cX6_goAlong 7 = .ok (.putfield 39, 3) := by decide +kernel
theorem dX6_goAlong_10 : decode cX6_goAlong 10 = .ok (.aload_n 0, 1) := by decide +kernel
theorem dX6_goAlong_11 : decode cX6_goAlong 11 = .ok (.iconst 0, 1) := by decide +kernel
theorem dX6_goAlong_12 : decode cX6_goAlong 12 = .ok (.putfield 33, 3) := by decide +kernel
theorem dX6_goAlong_15 : decode cX6_goAlong 15 = .ok (.iconst 0, 1) := by decide +kernel
theorem dX6_goAlong_16 : decode cX6_goAlong 16 = .ok (.istore_n 1, 1) := by decide +kernel
theorem dX6_goAlong_17 : decode cX6_goAlong 17 = .ok (.iload_n 1, 1) := by decide +kernel
theorem dX6_goAlong_18 : decode cX6_goAlong 18 = .ok (.aload_n 0, 1) := by decide +kernel
theorem dX6_goAlong_19 : decode cX6_goAlong 19 = .ok (.getfield 27, 3) := by decide +kernel
theorem dX6_goAlong_22 : decode cX6_goAlong 22 = .ok (.if_icmp .ge 22, 3) := by decide +kernel
theorem dX6_goAlong_25 : decode cX6_goAlong 25 = .ok (.aload_n 0, 1) := by decide +kernel
theorem dX6_goAlong_26 : decode cX6_goAlong 26 = .ok (.aload_n 0, 1) := by decide +kernel
theorem dX6_goAlong_27 : decode cX6_goAlong 27 = .ok (.getfield 7, 3) := by decide +kernel
theorem dX6_goAlong_30 : decode cX6_goAlong 30 = .ok (.iload_n 1, 1) := by decide +kernel
theorem dX6_goAlong_31 : decode cX6_goAlong 31 = .ok (.iaload, 1) := by decide +kernel
theorem dX6_goAlong_32 : decode cX6_goAlong 32 = .ok (.invokevirtual 46, 3) := by decide +kernel
theorem dX6_goAlong_35 : decode cX6_goAlong 35 = .ok (.ifCond .eq 9, 3) := by decide +kernel
theorem dX6_goAlong_38 : decode cX6_goAlong 38 = .ok (.iinc 1 1, 3) := by decide +kernel
theorem dX6_goAlong_41 : decode cX6_goAlong 41 = .ok (.goto (-24), 3) := by decide +kernel
theorem dX6_goAlong_44 : decode cX6_goAlong 44 = .ok (.iload_n 1, 1) := by decide +kernel
theorem dX6_goAlong_45 : decode cX6_goAlong 45 = .ok (.ireturn, 1) := by decide +kernel
theorem dX6_fault_0 : decode cX6_fault 0 = .ok (.aload_n 0, 1) := by decide +kernel
theorem dX6_fault_1 : decode cX6_fault 1 = .ok (.invokevirtual 50, 3) := by decide +kernel
theorem dX6_fault_4 : decode cX6_fault 4 = .ok (.ireturn, 1) := by decide +kernel
theorem dX6_cell_0 : decode cX6_cell 0 = .ok (.bipush 49, 2) := by decide +kernel
theorem dX6_cell_2 : decode cX6_cell 2 = .ok (.iload_n 0, 1) := by decide +kernel
theorem dX6_cell_3 : decode cX6_cell 3 = .ok (.imul, 1) := by decide +kernel
theorem dX6_cell_4 : decode cX6_cell 4 = .ok (.bipush 7, 2) := by decide +kernel
theorem dX6_cell_6 : decode cX6_cell 6 = .ok (.iload_n 2, 1) := by decide +kernel
theorem dX6_cell_7 : decode cX6_cell 7 = .ok (.iconst 3, 1) := by decide +kernel
theorem dX6_cell_8 : decode cX6_cell 8 = .ok (.iadd, 1) := by decide +kernel
theorem dX6_cell_9 : decode cX6_cell 9 = .ok (.imul, 1) := by decide +kernel
theorem dX6_cell_10 : decode cX6_cell 10 = .ok (.iadd, 1) := by decide +kernel
theorem dX6_cell_11 : decode cX6_cell 11 = .ok (.iload_n 1, 1) := by decide +kernel
theorem dX6_cell_12 : decode cX6_cell 12 = .ok (.iadd, 1) := by decide +kernel
theorem dX6_cell_13 : decode cX6_cell 13 = .ok (.iconst 3, 1) := by decide +kernel
theorem dX6_cell_14 : decode cX6_cell 14 = .ok (.iadd, 1) := by decide +kernel
theorem dX6_cell_15 : decode cX6_cell 15 = .ok (.ireturn, 1) := by decide +kernel
theorem dX6_depthAt_0 : decode cX6_depthAt 0 = .ok (.iload_n 2, 1) := by decide +kernel
theorem dX6_depthAt_1 : decode cX6_depthAt 1 = .ok (.bipush (-3), 2) := by decide +kernel
theorem dX6_depthAt_3 : decode cX6_depthAt 3 = .ok (.iconst 3, 1) := by decide +kernel
theorem dX6_depthAt_4 : decode cX6_depthAt 4 = .ok (.invokestatic 22, 3) := by decide +kernel
theorem dX6_depthAt_7 : decode cX6_depthAt 7 = .ok (.ifCond .eq 27, 3) := by decide +kernel
theorem dX6_depthAt_10 : decode cX6_depthAt 10 = .ok (.iload_n 3, 1) := by decide +kernel
theorem dX6_depthAt_11 : decode cX6_depthAt 11 = .ok (.bipush (-3), 2) := by decide +kernel
theorem dX6_depthAt_13 : decode cX6_depthAt 13 = .ok (.iconst 3, 1) := by decide +kernel
theorem dX6_depthAt_14 : decode cX6_depthAt 14 = .ok (.invokestatic 22, 3) := by decide +kernel
theorem dX6_depthAt_17 : decode cX6_depthAt 17 = .ok (.ifCond .eq 17, 3) := by decide +kernel
theorem dX6_depthAt_20 : decode cX6_depthAt 20 = .ok (.aload_n 0, 1) := by decide +kernel
theorem dX6_depthAt_21 : decode cX6_depthAt 21 = .ok (.getfield 16, 3) := by decide +kernel
theorem dX6_depthAt_24 : decode cX6_depthAt 24 = .ok (.iload_n 1, 1) := by decide +kernel
theorem dX6_depthAt_25 : decode cX6_depthAt 25 = .ok (.iload_n 2, 1) := by decide +kernel
theorem dX6_depthAt_26 : decode cX6_depthAt 26 = .ok (.iload_n 3, 1) := by decide +kernel
theorem dX6_depthAt_27 : decode cX6_depthAt 27 = .ok (.invokestatic 54, 3) := by decide +kernel
theorem dX6_depthAt_30 : decode cX6_depthAt 30 = .ok (.iaload, 1) := by decide +kernel
theorem dX6_depthAt_31 : decode cX6_depthAt 31 = .ok (.goto 4, 3) := by decide +kernel
theorem dX6_depthAt_34 : decode cX6_depthAt 34 = .ok (.iconst 0, 1) := by decide +kernel
theorem dX6_depthAt_35 : decode cX6_depthAt 35 = .ok (.ireturn, 1) := by decide +kernel
theorem dX6_take_0 : decode cX6_take 0 = .ok (.aload_n 0, 1) := by decide +kernel
theorem dX6_take_1 : decode cX6_take 1 = .ok (.invokevirtual 50, 3) := by decide +kernel
theorem dX6_take_4 : decode cX6_take 4 = .ok (.aload_n 0, 1) := by decide +kernel
theorem dX6_take_5 : decode cX6_take 5 = .ok (.getfield 27, 3) := by decide +kernel
theorem dX6_take_8 : decode cX6_take 8 = .ok (.if_icmp .lt 34, 3) := by decide +kernel
theorem dX6_take_11 : decode cX6_take 11 = .ok (.aload_n 0, 1) := by decide +kernel
theorem dX6_take_12 : decode cX6_take 12 = .ok (.getfield 33, 3) := by decide +kernel
theorem dX6_take_15 : decode cX6_take 15 = .ok (.ifCond .eq 27, 3) := by decide +kernel
theorem dX6_take_18 : decode cX6_take 18 = .ok (.aload_n 0, 1) := by decide +kernel
theorem dX6_take_19 : decode cX6_take 19 = .ok (.getfield 36, 3) := by decide +kernel
theorem dX6_take_22 : decode cX6_take 22 = .ok (.aload_n 0, 1) := by decide +kernel
theorem dX6_take_23 : decode cX6_take 23 = .ok (.getfield 33, 3) := by decide +kernel
theorem dX6_take_26 : decode cX6_take 26 = .ok (.if_icmp .ne 16, 3) := by decide +kernel
theorem dX6_take_29 : decode cX6_take 29 = .ok (.aload_n 0, 1) := by decide +kernel
theorem dX6_take_30 : decode cX6_take 30 = .ok (.getfield 39, 3) := by decide +kernel
theorem dX6_take_33 : decode cX6_take 33 = .ok (.iconst 1, 1) := by decide +kernel
theorem dX6_take_34 : decode cX6_take 34 = .ok (.iadd, 1) := by decide +kernel
theorem dX6_take_35 : decode cX6_take 35 = .ok (.aload_n 0, 1) := by decide +kernel
theorem dX6_take_36 : decode cX6_take 36 = .ok (.getfield 33, 3) := by decide +kernel
theorem dX6_take_39 : decode cX6_take 39 = .ok (.if_icmp .eq 6, 3) := by decide +kernel
theorem dX6_take_42 : decode cX6_take 42 = .ok (.ldc 58, 2) := by decide +kernel
theorem dX6_take_44 : decode cX6_take 44 = .ok (.ireturn, 1) := by decide +kernel
theorem dX6_take_45 : decode cX6_take 45 = .ok (.aload_n 0, 1) := by decide +kernel
theorem dX6_take_46 : decode cX6_take 46 = .ok (.getfield 59, 3) := by decide +kernel
theorem dX6_take_49 : decode cX6_take 49 = .ok (.iconst 4, 1) := by decide +kernel
theorem dX6_take_50 : decode cX6_take 50 = .ok (.if_icmp .ne 6, 3) := by decide +kernel
theorem dX6_take_53 : decode cX6_take 53 = .ok (.ldc 31, 2) := by decide +kernel
theorem dX6_take_55 : decode cX6_take 55 = .ok (.ireturn, 1) := by decide +kernel
theorem dX6_take_56 : decode cX6_take 56 = .ok (.iconst 0, 1) := by decide +kernel
theorem dX6_take_57 : decode cX6_take 57 = .ok (.istore_n 1, 1) := by decide +kernel
theorem dX6_take_58 : decode cX6_take 58 = .ok (.iload_n 1, 1) := by decide +kernel
theorem dX6_take_59 : decode cX6_take 59 = .ok (.bipush 49, 2) := by decide +kernel
theorem dX6_take_61 : decode cX6_take 61 = .ok (.if_icmp .ge 24, 3) := by decide +kernel
theorem dX6_take_64 : decode cX6_take 64 = .ok (.aload_n 0, 1) := by decide +kernel
theorem dX6_take_65 : decode cX6_take 65 = .ok (.getfield 16, 3) := by decide +kernel
theorem dX6_take_68 : decode cX6_take 68 = .ok (.bipush 49, 2) := by decide +kernel
theorem dX6_take_70 : decode cX6_take 70 = .ok (.aload_n 0, 1) := by decide +kernel
theorem dX6_take_71 : decode cX6_take 71 = .ok (.getfield 59, 3) := by decide +kernel
theorem dX6_take_74 : decode cX6_take 74 = .ok (.imul, 1) := by decide +kernel
theorem dX6_take_75 : decode cX6_take 75 = .ok (.iload_n 1, 1) := by decide +kernel
theorem dX6_take_76 : decode cX6_take 76 = .ok (.iadd, 1) := by decide +kernel
theorem dX6_take_77 : decode cX6_take 77 = .ok (.iconst 0, 1) := by decide +kernel
theorem dX6_take_78 : decode cX6_take 78 = .ok (.iastore, 1) := by decide +kernel
theorem dX6_take_79 : decode cX6_take 79 = .ok (.iinc 1 1, 3) := by decide +kernel
theorem dX6_take_82 : decode cX6_take 82 = .ok (.goto (-24), 3) := by decide +kernel
theorem dX6_take_85 : decode cX6_take 85 = .ok (.aload_n 0, 1) := by decide +kernel
theorem dX6_take_86 : decode cX6_take 86 = .ok (.getfield 33, 3) := by decide +kernel
theorem dX6_take_89 : decode cX6_take 89 = .ok (.iconst 1, 1) := by decide +kernel
theorem dX6_take_90 : decode cX6_take 90 = .ok (.isub, 1) := by decide +kernel
theorem dX6_take_91 : decode cX6_take 91 = .ok (.iconst 2, 1) := by decide +kernel
theorem dX6_take_92 : decode cX6_take 92 = .ok (.idiv, 1) := by decide +kernel
theorem dX6_take_93 : decode cX6_take 93 = .ok (.istore_n 1, 1) := by decide +kernel
theorem dX6_take_94 : decode cX6_take 94 = .ok (.iconst 0, 1) := by decide +kernel
theorem dX6_take_95 : decode cX6_take 95 = .ok (.istore_n 2, 1) := by decide +kernel
theorem dX6_take_96 : decode cX6_take 96 = .ok (.iload_n 2, 1) := by decide +kernel
theorem dX6_take_97 : decode cX6_take 97 = .ok (.aload_n 0, 1) := by decide +kernel
theorem dX6_take_98 : decode cX6_take 98 = .ok (.getfield 33, 3) := by decide +kernel
theorem dX6_take_101 : decode cX6_take 101 = .ok (.aload_n 0, 1) := by decide +kernel
theorem dX6_take_102 : decode cX6_take 102 = .ok (.getfield 33, 3) := by decide +kernel
theorem dX6_take_105 : decode cX6_take 105 = .ok (.imul, 1) := by decide +kernel
theorem dX6_take_106 : decode cX6_take 106 = .ok (.if_icmp .ge 67, 3) := by decide +kernel
theorem dX6_take_109 : decode cX6_take 109 = .ok (.aload_n 0, 1) := by decide +kernel
theorem dX6_take_110 : decode cX6_take 110 = .ok (.getfield 7, 3) := by decide +kernel
theorem dX6_take_113 : decode cX6_take 113 = .ok (.iload_n 2, 1) := by decide +kernel
theorem dX6_take_114 : decode cX6_take 114 = .ok (.aload_n 0, 1) := by decide +kernel
theorem dX6_take_115 : decode cX6_take 115 = .ok (.getfield 33, 3) := by decide +kernel
theorem dX6_take_118 : decode cX6_take 118 = .ok (.idiv, 1) := by decide +kernel
theorem dX6_take_119 : decode cX6_take 119 = .ok (.aload_n 0, 1) := by decide +kernel
theorem dX6_take_120 : decode cX6_take 120 = .ok (.getfield 33, 3) := by decide +kernel
theorem dX6_take_123 : decode cX6_take 123 = .ok (.iconst 1, 1) := by decide +kernel
theorem dX6_take_124 : decode cX6_take 124 = .ok (.iadd, 1) := by decide +kernel
theorem dX6_take_125 : decode cX6_take 125 = .ok (.imul, 1) := by decide +kernel
theorem dX6_take_126 : decode cX6_take 126 = .ok (.iload_n 2, 1) := by decide +kernel
theorem dX6_take_127 : decode cX6_take 127 = .ok (.aload_n 0, 1) := by decide +kernel
theorem dX6_take_128 : decode cX6_take 128 = .ok (.getfield 33, 3) := by decide +kernel
theorem dX6_take_131 : decode cX6_take 131 = .ok (.irem, 1) := by decide +kernel
theorem dX6_take_132 : decode cX6_take 132 = .ok (.iadd, 1) := by decide +kernel
theorem dX6_take_133 : decode cX6_take 133 = .ok (.iaload, 1) := by decide +kernel
theorem dX6_take_134 : decode cX6_take 134 = .ok (.istore_n 3, 1) := by decide +kernel
theorem dX6_take_135 : decode cX6_take 135 = .ok (.aload_n 0, 1) := by decide +kernel
theorem dX6_take_136 : decode cX6_take 136 = .ok (.getfield 16, 3) := by decide +kernel
theorem dX6_take_139 : decode cX6_take 139 = .ok (.aload_n 0, 1) := by decide +kernel
theorem dX6_take_140 : decode cX6_take 140 = .ok (.getfield 59, 3) := by decide +kernel
theorem dX6_take_143 : decode cX6_take 143 = .ok (.iload_n 2, 1) := by decide +kernel
theorem dX6_take_144 : decode cX6_take 144 = .ok (.aload_n 0, 1) := by decide +kernel
theorem dX6_take_145 : decode cX6_take 145 = .ok (.getfield 33, 3) := by decide +kernel
theorem dX6_take_148 : decode cX6_take 148 = .ok (.irem, 1) := by decide +kernel
theorem dX6_take_149 : decode cX6_take 149 = .ok (.iload_n 1, 1) := by decide +kernel
theorem dX6_take_150 : decode cX6_take 150 = .ok (.isub, 1) := by decide +kernel
theorem dX6_take_151 : decode cX6_take 151 = .ok (.iload_n 1, 1) := by decide +kernel
theorem dX6_take_152 : decode cX6_take 152 = .ok (.iload_n 2, 1) := by decide +kernel
theorem dX6_take_153 : decode cX6_take 153 = .ok (.aload_n 0, 1) := by decide +kernel
theorem dX6_take_154 : decode cX6_take 154 = .ok (.getfield 33, 3) := by decide +kernel
theorem dX6_take_157 : decode cX6_take 157 = .ok (.idiv, 1) := by decide +kernel
theorem dX6_take_158 : decode cX6_take 158 = .ok (.isub, 1) := by decide +kernel
theorem dX6_take_159 : decode cX6_take 159 = .ok (.invokestatic 54, 3) := by decide +kernel
theorem dX6_take_162 : decode cX6_take 162 = .ok (.iload_n 3, 1) := by decide +kernel
theorem dX6_take_163 : decode cX6_take 163 = .ok (.invokestatic 42, 3) := by decide +kernel
theorem dX6_take_166 : decode cX6_take 166 = .ok (.iastore, 1) := by decide +kernel
theorem dX6_take_167 : decode cX6_take 167 = .ok (.iinc 2 1, 3) := by decide +kernel
theorem dX6_take_170 : decode cX6_take 170 = .ok (.goto (-74), 3) := by decide +kernel
theorem dX6_take_173 : decode cX6_take 173 = .ok (.aload_n 0, 1) := by decide +kernel
theorem dX6_take_174 : decode cX6_take 174 = .ok (.getfield 13, 3) := by decide +kernel
theorem dX6_take_177 : decode cX6_take 177 = .ok (.aload_n 0, 1) := by decide +kernel
theorem dX6_take_178 : decode cX6_take 178 = .ok (.getfield 59, 3) := by decide +kernel
theorem dX6_take_181 : decode cX6_take 181 = .ok (.aload_n 0, 1) := by decide +kernel
theorem dX6_take_182 : decode cX6_take 182 = .ok (.getfield 33, 3) := by decide +kernel
theorem dX6_take_185 : decode cX6_take 185 = .ok (.iastore, 1) := by decide +kernel
theorem dX6_take_186 : decode cX6_take 186 = .ok (.aload_n 0, 1) := by decide +kernel
theorem dX6_take_187 : decode cX6_take 187 = .ok (.dup, 1) := by decide +kernel
theorem dX6_take_188 : decode cX6_take 188 = .ok (.getfield 59, 3) := by decide +kernel
theorem dX6_take_191 : decode cX6_take 191 = .ok (.iconst 1, 1) := by decide +kernel
theorem dX6_take_192 : decode cX6_take 192 = .ok (.iadd, 1) := by decide +kernel
theorem dX6_take_193 : decode cX6_take 193 = .ok (.putfield 59, 3) := by decide +kernel
theorem dX6_take_196 : decode cX6_take 196 = .ok (.aload_n 0, 1) := by decide +kernel
theorem dX6_take_197 : decode cX6_take 197 = .ok (.dup, 1) := by decide +kernel
theorem dX6_take_198 : decode cX6_take 198 = .ok (.getfield 62, 3) := by decide +kernel
theorem dX6_take_201 : decode cX6_take 201 = .ok (.iconst 1, 1) := by decide +kernel
theorem dX6_take_202 : decode cX6_take 202 = .ok (.iadd, 1) := by decide +kernel
theorem dX6_take_203 : decode cX6_take 203 = .ok (.putfield 62, 3) := by decide +kernel
theorem dX6_take_206 : decode cX6_take 206 = .ok (.aload_n 0, 1) := by decide +kernel
theorem dX6_take_207 : decode cX6_take 207 = .ok (.iconst 0, 1) := by decide +kernel
theorem dX6_take_208 : decode cX6_take 208 = .ok (.putfield 27, 3) := by decide +kernel
theorem dX6_take_211 : decode cX6_take 211 = .ok (.aload_n 0, 1) := by decide +kernel
theorem dX6_take_212 : decode cX6_take 212 = .ok (.getfield 59, 3) := by decide +kernel
theorem dX6_take_215 : decode cX6_take 215 = .ok (.iconst 1, 1) := by decide +kernel
theorem dX6_take_216 : decode cX6_take 216 = .ok (.isub, 1) := by decide +kernel
theorem dX6_take_217 : decode cX6_take 217 = .ok (.ireturn, 1) := by decide +kernel
theorem dX6_isHead_0 : decode cX6_isHead 0 = .ok (.iload_n 1, 1) := by decide +kernel
theorem dX6_isHead_1 : decode cX6_isHead 1 = .ok (.iconst 0, 1) := by decide +kernel
theorem dX6_isHead_2 : decode cX6_isHead 2 = .ok (.aload_n 0, 1) := by decide +kernel
theorem dX6_isHead_3 : decode cX6_isHead 3 = .ok (.getfield 59, 3) := by decide +kernel
theorem dX6_isHead_6 : decode cX6_isHead 6 = .ok (.iconst 1, 1) := by decide +kernel
theorem dX6_isHead_7 : decode cX6_isHead 7 = .ok (.isub, 1) := by decide +kernel
theorem dX6_isHead_8 : decode cX6_isHead 8 = .ok (.invokestatic 22, 3) := by decide +kernel
theorem dX6_isHead_11 : decode cX6_isHead 11 = .ok (.ireturn, 1) := by decide +kernel
theorem dX6_copy_0 : decode cX6_copy 0 = .ok (.aload_n 0, 1) := by decide +kernel
theorem dX6_copy_1 : decode cX6_copy 1 = .ok (.getfield 13, 3) := by decide +kernel
theorem dX6_copy_4 : decode cX6_copy 4 = .ok (.iload_n 2, 1) := by decide +kernel
theorem dX6_copy_5 : decode cX6_copy 5 = .ok (.aload_n 0, 1) := by decide +kernel
theorem dX6_copy_6 : decode cX6_copy 6 = .ok (.getfield 13, 3) := by decide +kernel
theorem dX6_copy_9 : decode cX6_copy 9 = .ok (.iload_n 1, 1) := by decide +kernel
theorem dX6_copy_10 : decode cX6_copy 10 = .ok (.iaload, 1) := by decide +kernel
theorem dX6_copy_11 : decode cX6_copy 11 = .ok (.iastore, 1) := by decide +kernel
theorem dX6_copy_12 : decode cX6_copy 12 = .ok (.iconst 0, 1) := by decide +kernel
theorem dX6_copy_13 : decode cX6_copy 13 = .ok (.istore_n 3, 1) := by decide +kernel
theorem dX6_copy_14 : decode cX6_copy 14 = .ok (.iload_n 3, 1) := by decide +kernel
theorem dX6_copy_15 : decode cX6_copy 15 = .ok (.bipush 49, 2) := by decide +kernel
theorem dX6_copy_17 : decode cX6_copy 17 = .ok (.if_icmp .ge 31, 3) := by decide +kernel
theorem dX6_copy_20 : decode cX6_copy 20 = .ok (.aload_n 0, 1) := by decide +kernel
theorem dX6_copy_21 : decode cX6_copy 21 = .ok (.getfield 16, 3) := by decide +kernel
theorem dX6_copy_24 : decode cX6_copy 24 = .ok (.bipush 49, 2) := by decide +kernel
theorem dX6_copy_26 : decode cX6_copy 26 = .ok (.iload_n 2, 1) := by decide +kernel
theorem dX6_copy_27 : decode cX6_copy 27 = .ok (.imul, 1) := by decide +kernel
theorem dX6_copy_28 : decode cX6_copy 28 = .ok (.iload_n 3, 1) := by decide +kernel
theorem dX6_copy_29 : decode cX6_copy 29 = .ok (.iadd, 1) := by decide +kernel
theorem dX6_copy_30 : decode cX6_copy 30 = .ok (.aload_n 0, 1) := by decide +kernel
theorem dX6_copy_31 : decode cX6_copy 31 = .ok (.getfield 16, 3) := by decide +kernel
theorem dX6_copy_34 : decode cX6_copy 34 = .ok (.bipush 49, 2) := by decide +kernel
theorem dX6_copy_36 : decode cX6_copy 36 = .ok (.iload_n 1, 1) := by decide +kernel
theorem dX6_copy_37 : decode cX6_copy 37 = .ok (.imul, 1) := by decide +kernel
theorem dX6_copy_38 : decode cX6_copy 38 = .ok (.iload_n 3, 1) := by decide +kernel
theorem dX6_copy_39 : decode cX6_copy 39 = .ok (.iadd, 1) := by decide +kernel
theorem dX6_copy_40 : decode cX6_copy 40 = .ok (.iaload, 1) := by decide +kernel
theorem dX6_copy_41 : decode cX6_copy 41 = .ok (.iastore, 1) := by decide +kernel
theorem dX6_copy_42 : decode cX6_copy 42 = .ok (.iinc 3 1, 3) := by decide +kernel
theorem dX6_copy_45 : decode cX6_copy 45 = .ok (.goto (-31), 3) := by decide +kernel
theorem dX6_copy_48 : decode cX6_copy 48 = .ok (.return_, 1) := by decide +kernel
theorem dX6_drop_0 : decode cX6_drop 0 = .ok (.aload_n 0, 1) := by decide +kernel
theorem dX6_drop_1 : decode cX6_drop 1 = .ok (.iload_n 1, 1) := by decide +kernel
theorem dX6_drop_2 : decode cX6_drop 2 = .ok (.invokevirtual 65, 3) := by decide +kernel
theorem dX6_drop_5 : decode cX6_drop 5 = .ok (.ifCond .ne 6, 3) := by decide +kernel
theorem dX6_drop_8 : decode cX6_drop 8 = .ok (.ldc 68, 2) := by decide +kernel
theorem dX6_drop_10 : decode cX6_drop 10 = .ok (.ireturn, 1) := by decide +kernel
theorem dX6_drop_11 : decode cX6_drop 11 = .ok (.aload_n 0, 1) := by decide +kernel
theorem dX6_drop_12 : decode cX6_drop 12 = .ok (.dup, 1) := by decide +kernel
theorem dX6_drop_13 : decode cX6_drop 13 = .ok (.getfield 59, 3) := by decide +kernel
theorem dX6_drop_16 : decode cX6_drop 16 = .ok (.iconst 1, 1) := by decide +kernel
theorem dX6_drop_17 : decode cX6_drop 17 = .ok (.isub, 1) := by decide +kernel
theorem dX6_drop_18 : decode cX6_drop 18 = .ok (.putfield 59, 3) := by decide +kernel
theorem dX6_drop_21 : decode cX6_drop 21 = .ok (.aload_n 0, 1) := by decide +kernel
theorem dX6_drop_22 : decode cX6_drop 22 = .ok (.dup, 1) := by decide +kernel
theorem dX6_drop_23 : decode cX6_drop 23 = .ok (.getfield 69, 3) := by decide +kernel
theorem dX6_drop_26 : decode cX6_drop 26 = .ok (.iconst 1, 1) := by decide +kernel
theorem dX6_drop_27 : decode cX6_drop 27 = .ok (.iadd, 1) := by decide +kernel
theorem dX6_drop_28 : decode cX6_drop 28 = .ok (.putfield 69, 3) := by decide +kernel
theorem dX6_drop_31 : decode cX6_drop 31 = .ok (.iload_n 1, 1) := by decide +kernel
theorem dX6_drop_32 : decode cX6_drop 32 = .ok (.istore_n 2, 1) := by decide +kernel
theorem dX6_drop_33 : decode cX6_drop 33 = .ok (.iload_n 2, 1) := by decide +kernel
theorem dX6_drop_34 : decode cX6_drop 34 = .ok (.aload_n 0, 1) := by decide +kernel
theorem dX6_drop_35 : decode cX6_drop 35 = .ok (.getfield 59, 3) := by decide +kernel
theorem dX6_drop_38 : decode cX6_drop 38 = .ok (.if_icmp .ge 17, 3) := by decide +kernel
theorem dX6_drop_41 : decode cX6_drop 41 = .ok (.aload_n 0, 1) := by decide +kernel
theorem dX6_drop_42 : decode cX6_drop 42 = .ok (.iload_n 2, 1) := by decide +kernel
theorem dX6_drop_43 : decode cX6_drop 43 = .ok (.iconst 1, 1) := by decide +kernel
theorem dX6_drop_44 : decode cX6_drop 44 = .ok (.iadd, 1) := by decide +kernel
theorem dX6_drop_45 : decode cX6_drop 45 = .ok (.iload_n 2, 1) := by decide +kernel
theorem dX6_drop_46 : decode cX6_drop 46 = .ok (.invokevirtual 72, 3) := by decide +kernel
theorem dX6_drop_49 : decode cX6_drop 49 = .ok (.iinc 2 1, 3) := by decide +kernel
theorem dX6_drop_52 : decode cX6_drop 52 = .ok (.goto (-19), 3) := by decide +kernel
theorem dX6_drop_55 : decode cX6_drop 55 = .ok (.aload_n 0, 1) := by decide +kernel
theorem dX6_drop_56 : decode cX6_drop 56 = .ok (.getfield 59, 3) := by decide +kernel
theorem dX6_drop_59 : decode cX6_drop 59 = .ok (.ireturn, 1) := by decide +kernel
theorem dX6_turnedAt_0 : decode cX6_turnedAt 0 = .ok (.iload_n 2, 1) := by decide +kernel
theorem dX6_turnedAt_1 : decode cX6_turnedAt 1 = .ok (.ifCond .ne 14, 3) := by decide +kernel
theorem dX6_turnedAt_4 : decode cX6_turnedAt 4 = .ok (.aload_n 0, 1) := by decide +kernel
theorem dX6_turnedAt_5 : decode cX6_turnedAt 5 = .ok (.iload_n 1, 1) := by decide +kernel
theorem dX6_turnedAt_6 : decode cX6_turnedAt 6 = .ok (.iload_n 3, 1) := by decide +kernel
theorem dX6_turnedAt_7 : decode cX6_turnedAt 7 = .ok (.iload 4, 2) := by decide +kernel
theorem dX6_turnedAt_9 : decode cX6_turnedAt 9 = .ok (.invokevirtual 76, 3) := by decide +kernel
theorem dX6_turnedAt_12 : decode cX6_turnedAt 12 = .ok (.goto 47, 3) := by decide +kernel
theorem dX6_turnedAt_15 : decode cX6_turnedAt 15 = .ok (.iload_n 2, 1) := by decide +kernel
theorem dX6_turnedAt_16 : decode cX6_turnedAt 16 = .ok (.iconst 1, 1) := by decide +kernel
theorem dX6_turnedAt_17 : decode cX6_turnedAt 17 = .ok (.if_icmp .ne 15, 3) := by decide +kernel
theorem dX6_turnedAt_20 : decode cX6_turnedAt 20 = .ok (.aload_n 0, 1) := by decide +kernel
theorem dX6_turnedAt_21 : decode cX6_turnedAt 21 = .ok (.iload_n 1, 1) := by decide +kernel
theorem dX6_turnedAt_22 : decode cX6_turnedAt 22 = .ok (.iload 4, 2) := by decide +kernel
theorem dX6_turnedAt_24 : decode cX6_turnedAt 24 = .ok (.iload_n 3, 1) := by decide +kernel
theorem dX6_turnedAt_25 : decode cX6_turnedAt 25 = .ok (.ineg, 1) := by decide +kernel
theorem dX6_turnedAt_26 : decode cX6_turnedAt 26 = .ok (.invokevirtual 76, 3) := by decide +kernel
theorem dX6_turnedAt_29 : decode cX6_turnedAt 29 = .ok (.goto 30, 3) := by decide +kernel
theorem dX6_turnedAt_32 : decode cX6_turnedAt 32 = .ok (.iload_n 2, 1) := by decide +kernel
theorem dX6_turnedAt_33 : decode cX6_turnedAt 33 = .ok (.iconst 2, 1) := by decide +kernel
theorem dX6_turnedAt_34 : decode cX6_turnedAt 34 = .ok (.if_icmp .ne 16, 3) := by decide +kernel
theorem dX6_turnedAt_37 : decode cX6_turnedAt 37 = .ok (.aload_n 0, 1) := by decide +kernel
theorem dX6_turnedAt_38 : decode cX6_turnedAt 38 = .ok (.iload_n 1, 1) := by decide +kernel
theorem dX6_turnedAt_39 : decode cX6_turnedAt 39 = .ok (.iload_n 3, 1) := by decide +kernel
theorem dX6_turnedAt_40 : decode cX6_turnedAt 40 = .ok (.ineg, 1) := by decide +kernel
theorem dX6_turnedAt_41 : decode cX6_turnedAt 41 = .ok (.iload 4, 2) := by decide +kernel
theorem dX6_turnedAt_43 : decode cX6_turnedAt 43 = .ok (.ineg, 1) := by decide +kernel
theorem dX6_turnedAt_44 : decode cX6_turnedAt 44 = .ok (.invokevirtual 76, 3) := by decide +kernel
theorem dX6_turnedAt_47 : decode cX6_turnedAt 47 = .ok (.goto 12, 3) := by decide +kernel
theorem dX6_turnedAt_50 : decode cX6_turnedAt 50 = .ok (.aload_n 0, 1) := by decide +kernel
theorem dX6_turnedAt_51 : decode cX6_turnedAt 51 = .ok (.iload_n 1, 1) := by decide +kernel
theorem dX6_turnedAt_52 : decode cX6_turnedAt 52 = .ok (.iload 4, 2) := by decide +kernel
theorem dX6_turnedAt_54 : decode cX6_turnedAt 54 = .ok (.ineg, 1) := by decide +kernel
theorem dX6_turnedAt_55 : decode cX6_turnedAt 55 = .ok (.iload_n 3, 1) := by decide +kernel
theorem dX6_turnedAt_56 : decode cX6_turnedAt 56 = .ok (.invokevirtual 76, 3) := by decide +kernel
theorem dX6_turnedAt_59 : decode cX6_turnedAt 59 = .ok (.ireturn, 1) := by decide +kernel
theorem dX6_turn_0 : decode cX6_turn 0 = .ok (.aload_n 0, 1) := by decide +kernel
theorem dX6_turn_1 : decode cX6_turn 1 = .ok (.iload_n 1, 1) := by decide +kernel
theorem dX6_turn_2 : decode cX6_turn 2 = .ok (.invokevirtual 65, 3) := by decide +kernel
theorem dX6_turn_5 : decode cX6_turn 5 = .ok (.ifCond .ne 6, 3) := by decide +kernel
theorem dX6_turn_8 : decode cX6_turn 8 = .ok (.ldc 68, 2) := by decide +kernel
theorem dX6_turn_10 : decode cX6_turn 10 = .ok (.ireturn, 1) := by decide +kernel
theorem dX6_turn_11 : decode cX6_turn 11 = .ok (.iload_n 2, 1) := by decide +kernel
theorem dX6_turn_12 : decode cX6_turn 12 = .ok (.iconst 0, 1) := by decide +kernel
theorem dX6_turn_13 : decode cX6_turn 13 = .ok (.iconst 3, 1) := by decide +kernel
theorem dX6_turn_14 : decode cX6_turn 14 = .ok (.invokestatic 22, 3) := by decide +kernel
theorem dX6_turn_17 : decode cX6_turn 17 = .ok (.ifCond .ne 6, 3) := by decide +kernel
theorem dX6_turn_20 : decode cX6_turn 20 = .ok (.ldc 26, 2) := by decide +kernel
theorem dX6_turn_22 : decode cX6_turn 22 = .ok (.ireturn, 1) := by decide +kernel
theorem dX6_turn_23 : decode cX6_turn 23 = .ok (.aload_n 0, 1) := by decide +kernel
theorem dX6_turn_24 : decode cX6_turn 24 = .ok (.getfield 59, 3) := by decide +kernel
theorem dX6_turn_27 : decode cX6_turn 27 = .ok (.iconst 4, 1) := by decide +kernel
theorem dX6_turn_28 : decode cX6_turn 28 = .ok (.if_icmp .ne 6, 3) := by decide +kernel
theorem dX6_turn_31 : decode cX6_turn 31 = .ok (.ldc 31, 2) := by decide +kernel
theorem dX6_turn_33 : decode cX6_turn 33 = .ok (.ireturn, 1) := by decide +kernel
theorem dX6_turn_34 : decode cX6_turn 34 = .ok (.iconst 0, 1) := by decide +kernel
theorem dX6_turn_35 : decode cX6_turn 35 = .ok (.istore 4, 2) := by decide +kernel
theorem dX6_turn_37 : decode cX6_turn 37 = .ok (.iload 4, 2) := by decide +kernel
theorem dX6_turn_39 : decode cX6_turn 39 = .ok (.bipush 49, 2) := by decide +kernel
theorem dX6_turn_41 : decode cX6_turn 41 = .ok (.if_icmp .ge 62, 3) := by decide +kernel
theorem dX6_turn_44 : decode cX6_turn 44 = .ok (.iload 4, 2) := by decide +kernel
theorem dX6_turn_46 : decode cX6_turn 46 = .ok (.bipush 7, 2) := by decide +kernel
theorem dX6_turn_48 : decode cX6_turn 48 = .ok (.irem, 1) := by decide +kernel
theorem dX6_turn_49 : decode cX6_turn 49 = .ok (.iconst 3, 1) := by decide +kernel
theorem dX6_turn_50 : decode cX6_turn 50 = .ok (.isub, 1) := by decide +kernel
theorem dX6_turn_51 : decode cX6_turn 51 = .ok (.istore 5, 2) := by decide +kernel
theorem dX6_turn_53 : decode cX6_turn 53 = .ok (.iload 4, 2) := by decide +kernel
theorem dX6_turn_55 : decode cX6_turn 55 = .ok (.bipush 7, 2) := by decide +kernel
theorem dX6_turn_57 : decode cX6_turn 57 = .ok (.idiv, 1) := by decide +kernel
theorem dX6_turn_58 : decode cX6_turn 58 = .ok (.iconst 3, 1) := by decide +kernel
theorem dX6_turn_59 : decode cX6_turn 59 = .ok (.isub, 1) := by decide +kernel
theorem dX6_turn_60 : decode cX6_turn 60 = .ok (.istore 6, 2) := by decide +kernel
theorem dX6_turn_62 : decode cX6_turn 62 = .ok (.aload_n 0, 1) := by decide +kernel
theorem dX6_turn_63 : decode cX6_turn 63 = .ok (.getfield 16, 3) := by decide +kernel
theorem dX6_turn_66 : decode cX6_turn 66 = .ok (.bipush 49, 2) := by decide +kernel
theorem dX6_turn_68 : decode cX6_turn 68 = .ok (.aload_n 0, 1) := by decide +kernel
theorem dX6_turn_69 : decode cX6_turn 69 = .ok (.getfield 59, 3) := by decide +kernel
theorem dX6_turn_72 : decode cX6_turn 72 = .ok (.imul, 1) := by decide +kernel
theorem dX6_turn_73 : decode cX6_turn 73 = .ok (.iload 4, 2) := by decide +kernel
theorem dX6_turn_75 : decode cX6_turn 75 = .ok (.iadd, 1) := by decide +kernel
theorem dX6_turn_76 : decode cX6_turn 76 = .ok (.aload_n 0, 1) := by decide +kernel
theorem dX6_turn_77 : decode cX6_turn 77 = .ok (.iload_n 1, 1) := by decide +kernel
theorem dX6_turn_78 : decode cX6_turn 78 = .ok (.iload_n 2, 1) := by decide +kernel
theorem dX6_turn_79 : decode cX6_turn 79 = .ok (.iload_n 3, 1) := by decide +kernel
theorem dX6_turn_80 : decode cX6_turn 80 = .ok (.ifCond .eq 9, 3) := by decide +kernel
theorem dX6_turn_83 : decode cX6_turn 83 = .ok (.iload 5, 2) := by decide +kernel
theorem dX6_turn_85 : decode cX6_turn 85 = .ok (.ineg, 1) := by decide +kernel
theorem dX6_turn_86 : decode cX6_turn 86 = .ok (.goto 5, 3) := by decide +kernel
theorem dX6_turn_89 : decode cX6_turn 89 = .ok (.iload 5, 2) := by decide +kernel
theorem dX6_turn_91 : decode cX6_turn 91 = .ok (.iload 6, 2) := by decide +kernel
theorem dX6_turn_93 : decode cX6_turn 93 = .ok (.invokevirtual 79, 3) := by decide +kernel
theorem dX6_turn_96 : decode cX6_turn 96 = .ok (.iastore, 1) := by decide +kernel
theorem dX6_turn_97 : decode cX6_turn 97 = .ok (.iinc 4 1, 3) := by decide +kernel
theorem dX6_turn_100 : decode cX6_turn 100 = .ok (.goto (-63), 3) := by decide +kernel
theorem dX6_turn_103 : decode cX6_turn 103 = .ok (.aload_n 0, 1) := by decide +kernel
theorem dX6_turn_104 : decode cX6_turn 104 = .ok (.getfield 13, 3) := by decide +kernel
theorem dX6_turn_107 : decode cX6_turn 107 = .ok (.aload_n 0, 1) := by decide +kernel
theorem dX6_turn_108 : decode cX6_turn 108 = .ok (.getfield 59, 3) := by decide +kernel
theorem dX6_turn_111 : decode cX6_turn 111 = .ok (.aload_n 0, 1) := by decide +kernel
theorem dX6_turn_112 : decode cX6_turn 112 = .ok (.getfield 13, 3) := by decide +kernel
theorem dX6_turn_115 : decode cX6_turn 115 = .ok (.iload_n 1, 1) := by decide +kernel
theorem dX6_turn_116 : decode cX6_turn 116 = .ok (.iaload, 1) := by decide +kernel
theorem dX6_turn_117 : decode cX6_turn 117 = .ok (.iastore, 1) := by decide +kernel
theorem dX6_turn_118 : decode cX6_turn 118 = .ok (.aload_n 0, 1) := by decide +kernel
theorem dX6_turn_119 : decode cX6_turn 119 = .ok (.dup, 1) := by decide +kernel
theorem dX6_turn_120 : decode cX6_turn 120 = .ok (.getfield 59, 3) := by decide +kernel
theorem dX6_turn_123 : decode cX6_turn 123 = .ok (.iconst 1, 1) := by decide +kernel
theorem dX6_turn_124 : decode cX6_turn 124 = .ok (.iadd, 1) := by decide +kernel
theorem dX6_turn_125 : decode cX6_turn 125 = .ok (.putfield 59, 3) := by decide +kernel
theorem dX6_turn_128 : decode cX6_turn 128 = .ok (.aload_n 0, 1) := by decide +kernel
theorem dX6_turn_129 : decode cX6_turn 129 = .ok (.dup, 1) := by decide +kernel
theorem dX6_turn_130 : decode cX6_turn 130 = .ok (.getfield 83, 3) := by decide +kernel
theorem dX6_turn_133 : decode cX6_turn 133 = .ok (.iconst 1, 1) := by decide +kernel
theorem dX6_turn_134 : decode cX6_turn 134 = .ok (.iadd, 1) := by decide +kernel
theorem dX6_turn_135 : decode cX6_turn 135 = .ok (.putfield 83, 3) := by decide +kernel
theorem dX6_turn_138 : decode cX6_turn 138 = .ok (.aload_n 0, 1) := by decide +kernel
theorem dX6_turn_139 : decode cX6_turn 139 = .ok (.getfield 59, 3) := by decide +kernel
theorem dX6_turn_142 : decode cX6_turn 142 = .ok (.iconst 1, 1) := by decide +kernel
theorem dX6_turn_143 : decode cX6_turn 143 = .ok (.isub, 1) := by decide +kernel
theorem dX6_turn_144 : decode cX6_turn 144 = .ok (.ireturn, 1) := by decide +kernel
theorem dX6_thrownBy_0 : decode cX6_thrownBy 0 = .ok (.iconst 0, 1) := by decide +kernel
theorem dX6_thrownBy_1 : decode cX6_thrownBy 1 = .ok (.istore_n 2, 1) := by decide +kernel
theorem dX6_thrownBy_2 : decode cX6_thrownBy 2 = .ok (.iconst 0, 1) := by decide +kernel
theorem dX6_thrownBy_3 : decode cX6_thrownBy 3 = .ok (.istore_n 3, 1) := by decide +kernel
theorem dX6_thrownBy_4 : decode cX6_thrownBy 4 = .ok (.iload_n 3, 1) := by decide +kernel
theorem dX6_thrownBy_5 : decode cX6_thrownBy 5 = .ok (.bipush 49, 2) := by decide +kernel
theorem dX6_thrownBy_7 : decode cX6_thrownBy 7 = .ok (.if_icmp .ge 23, 3) := by decide +kernel
theorem dX6_thrownBy_10 : decode cX6_thrownBy 10 = .ok (.iload_n 2, 1) := by decide +kernel
theorem dX6_thrownBy_11 : decode cX6_thrownBy 11 = .ok (.aload_n 0, 1) := by decide +kernel
theorem dX6_thrownBy_12 : decode cX6_thrownBy 12 = .ok (.getfield 16, 3) := by decide +kernel
theorem dX6_thrownBy_15 : decode cX6_thrownBy 15 = .ok (.bipush 49, 2) := by decide +kernel
theorem dX6_thrownBy_17 : decode cX6_thrownBy 17 = .ok (.iload_n 1, 1) := by decide +kernel
theorem dX6_thrownBy_18 : decode cX6_thrownBy 18 = .ok (.imul, 1) := by decide +kernel
theorem dX6_thrownBy_19 : decode cX6_thrownBy 19 = .ok (.iload_n 3, 1) := by decide +kernel
theorem dX6_thrownBy_20 : decode cX6_thrownBy 20 = .ok (.iadd, 1) := by decide +kernel
theorem dX6_thrownBy_21 : decode cX6_thrownBy 21 = .ok (.iaload, 1) := by decide +kernel
theorem dX6_thrownBy_22 : decode cX6_thrownBy 22 = .ok (.iadd, 1) := by decide +kernel
theorem dX6_thrownBy_23 : decode cX6_thrownBy 23 = .ok (.istore_n 2, 1) := by decide +kernel
theorem dX6_thrownBy_24 : decode cX6_thrownBy 24 = .ok (.iinc 3 1, 3) := by decide +kernel
theorem dX6_thrownBy_27 : decode cX6_thrownBy 27 = .ok (.goto (-23), 3) := by decide +kernel
theorem dX6_thrownBy_30 : decode cX6_thrownBy 30 = .ok (.iload_n 2, 1) := by decide +kernel
theorem dX6_thrownBy_31 : decode cX6_thrownBy 31 = .ok (.ireturn, 1) := by decide +kernel
theorem dX6_bend_0 : decode cX6_bend 0 = .ok (.aload_n 0, 1) := by decide +kernel
theorem dX6_bend_1 : decode cX6_bend 1 = .ok (.iload_n 1, 1) := by decide +kernel
theorem dX6_bend_2 : decode cX6_bend 2 = .ok (.invokevirtual 65, 3) := by decide +kernel
theorem dX6_bend_5 : decode cX6_bend 5 = .ok (.ifCond .ne 6, 3) := by decide +kernel
theorem dX6_bend_8 : decode cX6_bend 8 = .ok (.ldc 68, 2) := by decide +kernel
theorem dX6_bend_10 : decode cX6_bend 10 = .ok (.ireturn, 1) := by decide +kernel
theorem dX6_bend_11 : decode cX6_bend 11 = .ok (.iload_n 2, 1) := by decide +kernel
theorem dX6_bend_12 : decode cX6_bend 12 = .ok (.bipush (-2), 2) := by decide +kernel
theorem dX6_bend_14 : decode cX6_bend 14 = .ok (.iconst 2, 1) := by decide +kernel
theorem dX6_bend_15 : decode cX6_bend 15 = .ok (.invokestatic 22, 3) := by decide +kernel
theorem dX6_bend_18 : decode cX6_bend 18 = .ok (.ifCond .eq 13, 3) := by decide +kernel
theorem dX6_bend_21 : decode cX6_bend 21 = .ok (.iload_n 3, 1) := by decide +kernel
theorem dX6_bend_22 : decode cX6_bend 22 = .ok (.bipush (-2), 2) := by decide +kernel
theorem dX6_bend_24 : decode cX6_bend 24 = .ok (.iconst 2, 1) := by decide +kernel
theorem dX6_bend_25 : decode cX6_bend 25 = .ok (.invokestatic 22, 3) := by decide +kernel
theorem dX6_bend_28 : decode cX6_bend 28 = .ok (.ifCond .ne 6, 3) := by decide +kernel
theorem dX6_bend_31 : decode cX6_bend 31 = .ok (.ldc 26, 2) := by decide +kernel
theorem dX6_bend_33 : decode cX6_bend 33 = .ok (.ireturn, 1) := by decide +kernel
theorem dX6_bend_34 : decode cX6_bend 34 = .ok (.aload_n 0, 1) := by decide +kernel
theorem dX6_bend_35 : decode cX6_bend 35 = .ok (.iload_n 1, 1) := by decide +kernel
theorem dX6_bend_36 : decode cX6_bend 36 = .ok (.iconst 4, 1) := by decide +kernel
theorem dX6_bend_37 : decode cX6_bend 37 = .ok (.invokevirtual 72, 3) := by decide +kernel
theorem dX6_bend_40 : decode cX6_bend 40 = .ok (.aload_n 0, 1) := by decide +kernel
theorem dX6_bend_41 : decode cX6_bend 41 = .ok (.getfield 13, 3) := by decide +kernel
theorem dX6_bend_44 : decode cX6_bend 44 = .ok (.iload_n 1, 1) := by decide +kernel
theorem dX6_bend_45 : decode cX6_bend 45 = .ok (.iaload, 1) := by decide +kernel
theorem dX6_bend_46 : decode cX6_bend 46 = .ok (.iconst 1, 1) := by decide +kernel
theorem dX6_bend_47 : decode cX6_bend 47 = .ok (.isub, 1) := by decide +kernel
theorem dX6_bend_48 : decode cX6_bend 48 = .ok (.iconst 2, 1) := by decide +kernel
theorem dX6_bend_49 : decode cX6_bend 49 = .ok (.idiv, 1) := by decide +kernel
theorem dX6_bend_50 : decode cX6_bend 50 = .ok (.istore 4, 2) := by decide +kernel
theorem dX6_bend_52 : decode cX6_bend 52 = .ok (.iconst 0, 1) := by decide +kernel
theorem dX6_bend_53 : decode cX6_bend 53 = .ok (.istore 5, 2) := by decide +kernel
theorem dX6_bend_55 : decode cX6_bend 55 = .ok (.iload 5, 2) := by decide +kernel
theorem dX6_bend_57 : decode cX6_bend 57 = .ok (.bipush 49, 2) := by decide +kernel
theorem dX6_bend_59 : decode cX6_bend 59 = .ok (.if_icmp .ge 94, 3) := by decide +kernel
theorem dX6_bend_62 : decode cX6_bend 62 = .ok (.iload 5, 2) := by decide +kernel
theorem dX6_bend_64 : decode cX6_bend 64 = .ok (.bipush 7, 2) := by decide +kernel
theorem dX6_bend_66 : decode cX6_bend 66 = .ok (.irem, 1) := by decide +kernel
theorem dX6_bend_67 : decode cX6_bend 67 = .ok (.iconst 3, 1) := by decide +kernel
theorem dX6_bend_68 : decode cX6_bend 68 = .ok (.isub, 1) := by decide +kernel
theorem dX6_bend_69 : decode cX6_bend 69 = .ok (.istore 6, 2) := by decide +kernel
theorem dX6_bend_71 : decode cX6_bend 71 = .ok (.iload 5, 2) := by decide +kernel
theorem dX6_bend_73 : decode cX6_bend 73 = .ok (.bipush 7, 2) := by decide +kernel
theorem dX6_bend_75 : decode cX6_bend 75 = .ok (.idiv, 1) := by decide +kernel
theorem dX6_bend_76 : decode cX6_bend 76 = .ok (.iconst 3, 1) := by decide +kernel
theorem dX6_bend_77 : decode cX6_bend 77 = .ok (.isub, 1) := by decide +kernel
theorem dX6_bend_78 : decode cX6_bend 78 = .ok (.istore 7, 2) := by decide +kernel
theorem dX6_bend_80 : decode cX6_bend 80 = .ok (.iload 6, 2) := by decide +kernel
theorem dX6_bend_82 : decode cX6_bend 82 = .ok (.iload 4, 2) := by decide +kernel
theorem dX6_bend_84 : decode cX6_bend 84 = .ok (.ineg, 1) := by decide +kernel
theorem dX6_bend_85 : decode cX6_bend 85 = .ok (.iload 4, 2) := by decide +kernel
theorem dX6_bend_87 : decode cX6_bend 87 = .ok (.invokestatic 22, 3) := by decide +kernel
theorem dX6_bend_90 : decode cX6_bend 90 = .ok (.ifCond .eq 20, 3) := by decide +kernel
theorem dX6_bend_93 : decode cX6_bend 93 = .ok (.iload 7, 2) := by decide +kernel
theorem dX6_bend_95 : decode cX6_bend 95 = .ok (.iload 4, 2) := by decide +kernel
theorem dX6_bend_97 : decode cX6_bend 97 = .ok (.ineg, 1) := by decide +kernel
theorem dX6_bend_98 : decode cX6_bend 98 = .ok (.iload 4, 2) := by decide +kernel
theorem dX6_bend_100 : decode cX6_bend 100 = .ok (.invokestatic 22, 3) := by decide +kernel
theorem dX6_bend_103 : decode cX6_bend 103 = .ok (.ifCond .eq 7, 3) := by decide +kernel
theorem dX6_bend_106 : decode cX6_bend 106 = .ok (.iconst 1, 1) := by decide +kernel
theorem dX6_bend_107 : decode cX6_bend 107 = .ok (.goto 4, 3) := by decide +kernel
theorem dX6_bend_110 : decode cX6_bend 110 = .ok (.iconst 0, 1) := by decide +kernel
theorem dX6_bend_111 : decode cX6_bend 111 = .ok (.istore 8, 2) := by decide +kernel
theorem dX6_bend_113 : decode cX6_bend 113 = .ok (.aload_n 0, 1) := by decide +kernel
theorem dX6_bend_114 : decode cX6_bend 114 = .ok (.getfield 16, 3) := by decide +kernel
theorem dX6_bend_117 : decode cX6_bend 117 = .ok (.bipush 49, 2) := by decide +kernel
theorem dX6_bend_119 : decode cX6_bend 119 = .ok (.iload_n 1, 1) := by decide +kernel
theorem dX6_bend_120 : decode cX6_bend 120 = .ok (.imul, 1) := by decide +kernel
theorem dX6_bend_121 : decode cX6_bend 121 = .ok (.iload 5, 2) := by decide +kernel
theorem dX6_bend_123 : decode cX6_bend 123 = .ok (.iadd, 1) := by decide +kernel
theorem dX6_bend_124 : decode cX6_bend 124 = .ok (.iload 8, 2) := by decide +kernel
theorem dX6_bend_126 : decode cX6_bend 126 = .ok (.ifCond .eq 19, 3) := by decide +kernel
theorem dX6_bend_129 : decode cX6_bend 129 = .ok (.aload_n 0, 1) := by decide +kernel
theorem dX6_bend_130 : decode cX6_bend 130 = .ok (.iconst 4, 1) := by decide +kernel
theorem dX6_bend_131 : decode cX6_bend 131 = .ok (.iload 6, 2) := by decide +kernel
theorem dX6_bend_133 : decode cX6_bend 133 = .ok (.iload_n 2, 1) := by decide +kernel
theorem dX6_bend_134 : decode cX6_bend 134 = .ok (.isub, 1) := by decide +kernel
theorem dX6_bend_135 : decode cX6_bend 135 = .ok (.iload 7, 2) := by decide +kernel
theorem dX6_bend_137 : decode cX6_bend 137 = .ok (.iload_n 3, 1) := by decide +kernel
theorem dX6_bend_138 : decode cX6_bend 138 = .ok (.isub, 1) := by decide +kernel
theorem dX6_bend_139 : decode cX6_bend 139 = .ok (.invokevirtual 76, 3) := by decide +kernel
theorem dX6_bend_142 : decode cX6_bend 142 = .ok (.goto 4, 3) := by decide +kernel
theorem dX6_bend_145 : decode cX6_bend 145 = .ok (.iconst 0, 1) := by decide +kernel
theorem dX6_bend_146 : decode cX6_bend 146 = .ok (.iastore, 1) := by decide +kernel
theorem dX6_bend_147 : decode cX6_bend 147 = .ok (.iinc 5 1, 3) := by decide +kernel
theorem dX6_bend_150 : decode cX6_bend 150 = .ok (.goto (-95), 3) := by decide +kernel
theorem dX6_bend_153 : decode cX6_bend 153 = .ok (.aload_n 0, 1) := by decide +kernel
theorem dX6_bend_154 : decode cX6_bend 154 = .ok (.iload_n 1, 1) := by decide +kernel
theorem dX6_bend_155 : decode cX6_bend 155 = .ok (.invokevirtual 86, 3) := by decide +kernel
theorem dX6_bend_158 : decode cX6_bend 158 = .ok (.ireturn, 1) := by decide +kernel
theorem dX6_deepest_0 : decode cX6_deepest 0 = .ok (.iconst 0, 1) := by decide +kernel
theorem dX6_deepest_1 : decode cX6_deepest 1 = .ok (.istore_n 2, 1) := by decide +kernel
theorem dX6_deepest_2 : decode cX6_deepest 2 = .ok (.iconst 0, 1) := by decide +kernel
theorem dX6_deepest_3 : decode cX6_deepest 3 = .ok (.istore_n 3, 1) := by decide +kernel
theorem dX6_deepest_4 : decode cX6_deepest 4 = .ok (.iload_n 3, 1) := by decide +kernel
theorem dX6_deepest_5 : decode cX6_deepest 5 = .ok (.bipush 49, 2) := by decide +kernel
theorem dX6_deepest_7 : decode cX6_deepest 7 = .ok (.if_icmp .ge 40, 3) := by decide +kernel
theorem dX6_deepest_10 : decode cX6_deepest 10 = .ok (.aload_n 0, 1) := by decide +kernel
theorem dX6_deepest_11 : decode cX6_deepest 11 = .ok (.getfield 16, 3) := by decide +kernel
theorem dX6_deepest_14 : decode cX6_deepest 14 = .ok (.bipush 49, 2) := by decide +kernel
theorem dX6_deepest_16 : decode cX6_deepest 16 = .ok (.iload_n 1, 1) := by decide +kernel
theorem dX6_deepest_17 : decode cX6_deepest 17 = .ok (.imul, 1) := by decide +kernel
theorem dX6_deepest_18 : decode cX6_deepest 18 = .ok (.iload_n 3, 1) := by decide +kernel
theorem dX6_deepest_19 : decode cX6_deepest 19 = .ok (.iadd, 1) := by decide +kernel
theorem dX6_deepest_20 : decode cX6_deepest 20 = .ok (.iaload, 1) := by decide +kernel
theorem dX6_deepest_21 : decode cX6_deepest 21 = .ok (.iload_n 2, 1) := by decide +kernel
theorem dX6_deepest_22 : decode cX6_deepest 22 = .ok (.if_icmp .le 17, 3) := by decide +kernel
theorem dX6_deepest_25 : decode cX6_deepest 25 = .ok (.aload_n 0, 1) := by decide +kernel
theorem dX6_deepest_26 : decode cX6_deepest 26 = .ok (.getfield 16, 3) := by decide +kernel
theorem dX6_deepest_29 : decode cX6_deepest 29 = .ok (.bipush 49, 2) := by decide +kernel
theorem dX6_deepest_31 : decode cX6_deepest 31 = .ok (.iload_n 1, 1) := by decide +kernel
theorem dX6_deepest_32 : decode cX6_deepest 32 = .ok (.imul, 1) := by decide +kernel
theorem dX6_deepest_33 : decode cX6_deepest 33 = .ok (.iload_n 3, 1) := by decide +kernel
theorem dX6_deepest_34 : decode cX6_deepest 34 = .ok (.iadd, 1) := by decide +kernel
theorem dX6_deepest_35 : decode cX6_deepest 35 = .ok (.iaload, 1) := by decide +kernel
theorem dX6_deepest_36 : decode cX6_deepest 36 = .ok (.goto 4, 3) := by decide +kernel
theorem dX6_deepest_39 : decode cX6_deepest 39 = .ok (.iload_n 2, 1) := by decide +kernel
theorem dX6_deepest_40 : decode cX6_deepest 40 = .ok (.istore_n 2, 1) := by decide +kernel
theorem dX6_deepest_41 : decode cX6_deepest 41 = .ok (.iinc 3 1, 3) := by decide +kernel
theorem dX6_deepest_44 : decode cX6_deepest 44 = .ok (.goto (-40), 3) := by decide +kernel
theorem dX6_deepest_47 : decode cX6_deepest 47 = .ok (.iload_n 2, 1) := by decide +kernel
theorem dX6_deepest_48 : decode cX6_deepest 48 = .ok (.ireturn, 1) := by decide +kernel
theorem dX6_isSameTurned_0 : decode cX6_isSameTurned 0 = .ok (.iconst 1, 1) := by decide +kernel
theorem dX6_isSameTurned_1 : decode cX6_isSameTurned 1 = .ok (.istore_n 3, 1) := by decide +kernel
theorem dX6_isSameTurned_2 : decode cX6_isSameTurned 2 = .ok (.iconst 0, 1) := by decide +kernel
theorem dX6_isSameTurned_3 : decode cX6_isSameTurned 3 = .ok (.istore 4, 2) := by decide +kernel
theorem dX6_isSameTurned_5 : decode cX6_isSameTurned 5 = .ok (.iload 4, 2) := by decide +kernel
theorem dX6_isSameTurned_7 : decode cX6_isSameTurned 7 = .ok (.bipush 49, 2) := by decide +kernel
theorem dX6_isSameTurned_9 : decode cX6_isSameTurned 9 = .ok (.if_icmp .ge 54, 3) := by decide +kernel
theorem dX6_isSameTurned_12 : decode cX6_isSameTurned 12 = .ok (.iload_n 3, 1) := by decide +kernel
theorem dX6_isSameTurned_13 : decode cX6_isSameTurned 13 = .ok (.ifCond .eq 42, 3) := by decide +kernel
theorem dX6_isSameTurned_16 : decode cX6_isSameTurned 16 = .ok (.aload_n 0, 1) := by decide +kernel
theorem dX6_isSameTurned_17 : decode cX6_isSameTurned 17 = .ok (.getfield 16, 3) := by decide +kernel
theorem dX6_isSameTurned_20 : decode cX6_isSameTurned 20 = .ok (.bipush 49, 2) := by decide +kernel
theorem dX6_isSameTurned_22 : decode cX6_isSameTurned 22 = .ok (.iload_n 1, 1) := by decide +kernel
theorem dX6_isSameTurned_23 : decode cX6_isSameTurned 23 = .ok (.imul, 1) := by decide +kernel
theorem dX6_isSameTurned_24 : decode cX6_isSameTurned 24 = .ok (.iload 4, 2) := by decide +kernel
theorem dX6_isSameTurned_26 : decode cX6_isSameTurned 26 = .ok (.iadd, 1) := by decide +kernel
theorem dX6_isSameTurned_27 : decode cX6_isSameTurned 27 = .ok (.iaload, 1) := by decide +kernel
theorem dX6_isSameTurned_28 : decode cX6_isSameTurned 28 = .ok (.aload_n 0, 1) := by decide +kernel
theorem dX6_isSameTurned_29 : decode cX6_isSameTurned 29 = .ok (.iload_n 1, 1) := by decide +kernel
theorem dX6_isSameTurned_30 : decode cX6_isSameTurned 30 = .ok (.iload_n 2, 1) := by decide +kernel
theorem dX6_isSameTurned_31 : decode cX6_isSameTurned 31 = .ok (.iload 4, 2) := by decide +kernel
theorem dX6_isSameTurned_33 : decode cX6_isSameTurned 33 = .ok (.bipush 7, 2) := by decide +kernel
theorem dX6_isSameTurned_35 : decode cX6_isSameTurned 35 = .ok (.irem, 1) := by decide +kernel
theorem dX6_isSameTurned_36 : decode cX6_isSameTurned 36 = .ok (.iconst 3, 1) := by decide +kernel
theorem dX6_isSameTurned_37 : decode cX6_isSameTurned 37 = .ok (.isub, 1) := by decide +kernel
theorem dX6_isSameTurned_38 : decode cX6_isSameTurned 38 = .ok (.iload 4, 2) := by decide +kernel
theorem dX6_isSameTurned_40 : decode cX6_isSameTurned 40 = .ok (.bipush 7, 2) := by decide +kernel
theorem dX6_isSameTurned_42 : decode cX6_isSameTurned 42 = .ok (.idiv, 1) := by decide +kernel
theorem dX6_isSameTurned_43 : decode cX6_isSameTurned 43 = .ok (.iconst 3, 1) := by decide +kernel
theorem dX6_isSameTurned_44 : decode cX6_isSameTurned 44 = .ok (.isub, 1) := by decide +kernel
theorem dX6_isSameTurned_45 : decode cX6_isSameTurned 45 = .ok (.invokevirtual 79, 3) := by decide +kernel
theorem dX6_isSameTurned_48 : decode cX6_isSameTurned 48 = .ok (.if_icmp .ne 7, 3) := by decide +kernel
theorem dX6_isSameTurned_51 : decode cX6_isSameTurned 51 = .ok (.iconst 1, 1) := by decide +kernel
theorem dX6_isSameTurned_52 : decode cX6_isSameTurned 52 = .ok (.goto 4, 3) := by decide +kernel
theorem dX6_isSameTurned_55 : decode cX6_isSameTurned 55 = .ok (.iconst 0, 1) := by decide +kernel
theorem dX6_isSameTurned_56 : decode cX6_isSameTurned 56 = .ok (.istore_n 3, 1) := by decide +kernel
theorem dX6_isSameTurned_57 : decode cX6_isSameTurned 57 = .ok (.iinc 4 1, 3) := by decide +kernel
theorem dX6_isSameTurned_60 : decode cX6_isSameTurned 60 = .ok (.goto (-55), 3) := by decide +kernel
theorem dX6_isSameTurned_63 : decode cX6_isSameTurned 63 = .ok (.iload_n 3, 1) := by decide +kernel
theorem dX6_isSameTurned_64 : decode cX6_isSameTurned 64 = .ok (.ireturn, 1) := by decide +kernel
theorem dX6_sameTurn_0 : decode cX6_sameTurn 0 = .ok (.iconst 1, 1) := by decide +kernel
theorem dX6_sameTurn_1 : decode cX6_sameTurn 1 = .ok (.istore_n 2, 1) := by decide +kernel
theorem dX6_sameTurn_2 : decode cX6_sameTurn 2 = .ok (.iload_n 2, 1) := by decide +kernel
theorem dX6_sameTurn_3 : decode cX6_sameTurn 3 = .ok (.iconst 4, 1) := by decide +kernel
theorem dX6_sameTurn_4 : decode cX6_sameTurn 4 = .ok (.if_icmp .ge 18, 3) := by decide +kernel
theorem dX6_sameTurn_7 : decode cX6_sameTurn 7 = .ok (.aload_n 0, 1) := by decide +kernel
theorem dX6_sameTurn_8 : decode cX6_sameTurn 8 = .ok (.iload_n 1, 1) := by decide +kernel
theorem dX6_sameTurn_9 : decode cX6_sameTurn 9 = .ok (.iload_n 2, 1) := by decide +kernel
theorem dX6_sameTurn_10 : decode cX6_sameTurn 10 = .ok (.invokevirtual 89, 3) := by decide +kernel
theorem dX6_sameTurn_13 : decode cX6_sameTurn 13 = .ok (.ifCond .ne 9, 3) := by decide +kernel
theorem dX6_sameTurn_16 : decode cX6_sameTurn 16 = .ok (.iinc 2 1, 3) := by decide +kernel
theorem dX6_sameTurn_19 : decode cX6_sameTurn 19 = .ok (.goto (-17), 3) := by decide +kernel
theorem dX6_sameTurn_22 : decode cX6_sameTurn 22 = .ok (.iload_n 2, 1) := by decide +kernel
theorem dX6_sameTurn_23 : decode cX6_sameTurn 23 = .ok (.ireturn, 1) := by decide +kernel
theorem dX6_isSameMirrored_0 : decode cX6_isSameMirrored 0 = .ok (.iconst 1, 1) := by decide +kernel
theorem dX6_isSameMirrored_1 : decode cX6_isSameMirrored 1 = .ok (.istore_n 2, 1) := by decide +kernel
theorem dX6_isSameMirrored_2 : decode cX6_isSameMirrored 2 = .ok (.iconst 0, 1) := by decide +kernel
theorem dX6_isSameMirrored_3 : decode cX6_isSameMirrored 3 = .ok (.istore_n 3, 1) := by decide +kernel
theorem dX6_isSameMirrored_4 : decode cX6_isSameMirrored 4 = .ok (.iload_n 3, 1) := by decide +kernel
theorem dX6_isSameMirrored_5 : decode cX6_isSameMirrored 5 = .ok (.bipush 49, 2) := by decide +kernel
theorem dX6_isSameMirrored_7 : decode cX6_isSameMirrored 7 = .ok (.if_icmp .ge 50, 3) := by decide +kernel
theorem dX6_isSameMirrored_10 : decode cX6_isSameMirrored 10 = .ok (.iload_n 2, 1) := by decide +kernel
theorem dX6_isSameMirrored_11 : decode cX6_isSameMirrored 11 = .ok (.ifCond .eq 38, 3) := by decide +kernel
theorem dX6_isSameMirrored_14 : decode cX6_isSameMirrored 14 = .ok (.aload_n 0, 1) := by decide +kernel
theorem dX6_isSameMirrored_15 : decode cX6_isSameMirrored 15 = .ok (.getfield 16, 3) := by decide +kernel
theorem dX6_isSameMirrored_18 : decode cX6_isSameMirrored 18 = .ok (.bipush 49, 2) := by decide +kernel
theorem dX6_isSameMirrored_20 : decode cX6_isSameMirrored 20 = .ok (.iload_n 1, 1) := by decide +kernel
theorem dX6_isSameMirrored_21 : decode cX6_isSameMirrored 21 = .ok (.imul, 1) := by decide +kernel
theorem dX6_isSameMirrored_22 : decode cX6_isSameMirrored 22 = .ok (.iload_n 3, 1) := by decide +kernel
theorem dX6_isSameMirrored_23 : decode cX6_isSameMirrored 23 = .ok (.iadd, 1) := by decide +kernel
theorem dX6_isSameMirrored_24 : decode cX6_isSameMirrored 24 = .ok (.iaload, 1) := by decide +kernel
theorem dX6_isSameMirrored_25 : decode cX6_isSameMirrored 25 = .ok (.aload_n 0, 1) := by decide +kernel
theorem dX6_isSameMirrored_26 : decode cX6_isSameMirrored 26 = .ok (.iload_n 1, 1) := by decide +kernel
theorem dX6_isSameMirrored_27 : decode cX6_isSameMirrored 27 = .ok (.iconst 3, 1) := by decide +kernel
theorem dX6_isSameMirrored_28 : decode cX6_isSameMirrored 28 = .ok (.iload_n 3, 1) := by decide +kernel
theorem dX6_isSameMirrored_29 : decode cX6_isSameMirrored 29 = .ok (.bipush 7, 2) := by decide +kernel
theorem dX6_isSameMirrored_31 : decode cX6_isSameMirrored 31 = .ok (.irem, 1) := by decide +kernel
theorem dX6_isSameMirrored_32 : decode cX6_isSameMirrored 32 = .ok (.isub, 1) := by decide +kernel
theorem dX6_isSameMirrored_33 : decode cX6_isSameMirrored 33 = .ok (.iload_n 3, 1) := by decide +kernel
theorem dX6_isSameMirrored_34 : decode cX6_isSameMirrored 34 = .ok (.bipush 7, 2) := by decide +kernel
theorem dX6_isSameMirrored_36 : decode cX6_isSameMirrored 36 = .ok (.idiv, 1) := by decide +kernel
theorem dX6_isSameMirrored_37 : decode cX6_isSameMirrored 37 = .ok (.iconst 3, 1) := by decide +kernel
theorem dX6_isSameMirrored_38 : decode cX6_isSameMirrored 38 = .ok (.isub, 1) := by decide +kernel
theorem dX6_isSameMirrored_39 : decode cX6_isSameMirrored 39 = .ok (.invokevirtual 76, 3) := by decide +kernel
theorem dX6_isSameMirrored_42 : decode cX6_isSameMirrored 42 = .ok (.if_icmp .ne 7, 3) := by decide +kernel
theorem dX6_isSameMirrored_45 : decode cX6_isSameMirrored 45 = .ok (.iconst 1, 1) := by decide +kernel
theorem dX6_isSameMirrored_46 : decode cX6_isSameMirrored 46 = .ok (.goto 4, 3) := by decide +kernel
theorem dX6_isSameMirrored_49 : decode cX6_isSameMirrored 49 = .ok (.iconst 0, 1) := by decide +kernel
theorem dX6_isSameMirrored_50 : decode cX6_isSameMirrored 50 = .ok (.istore_n 2, 1) := by decide +kernel
theorem dX6_isSameMirrored_51 : decode cX6_isSameMirrored 51 = .ok (.iinc 3 1, 3) := by decide +kernel
theorem dX6_isSameMirrored_54 : decode cX6_isSameMirrored 54 = .ok (.goto (-50), 3) := by decide +kernel
theorem dX6_isSameMirrored_57 : decode cX6_isSameMirrored 57 = .ok (.iload_n 2, 1) := by decide +kernel
theorem dX6_isSameMirrored_58 : decode cX6_isSameMirrored 58 = .ok (.ireturn, 1) := by decide +kernel
theorem dX6_headNow_0 : decode cX6_headNow 0 = .ok (.iload_n 2, 1) := by decide +kernel
theorem dX6_headNow_1 : decode cX6_headNow 1 = .ok (.tableswitch 56 0 3 #[31, 38, 44, 50], 31) := by decide +kernel
theorem dX6_headNow_32 : decode cX6_headNow 32 = .ok (.aload_n 0, 1) := by decide +kernel
theorem dX6_headNow_33 : decode cX6_headNow 33 = .ok (.getfield 13, 3) := by decide +kernel
theorem dX6_headNow_36 : decode cX6_headNow 36 = .ok (.iload_n 1, 1) := by decide +kernel
theorem dX6_headNow_37 : decode cX6_headNow 37 = .ok (.iaload, 1) := by decide +kernel
theorem dX6_headNow_38 : decode cX6_headNow 38 = .ok (.ireturn, 1) := by decide +kernel
theorem dX6_headNow_39 : decode cX6_headNow 39 = .ok (.aload_n 0, 1) := by decide +kernel
theorem dX6_headNow_40 : decode cX6_headNow 40 = .ok (.iload_n 1, 1) := by decide +kernel
theorem dX6_headNow_41 : decode cX6_headNow 41 = .ok (.invokevirtual 86, 3) := by decide +kernel
theorem dX6_headNow_44 : decode cX6_headNow 44 = .ok (.ireturn, 1) := by decide +kernel
theorem dX6_headNow_45 : decode cX6_headNow 45 = .ok (.aload_n 0, 1) := by decide +kernel
theorem dX6_headNow_46 : decode cX6_headNow 46 = .ok (.iload_n 1, 1) := by decide +kernel
theorem dX6_headNow_47 : decode cX6_headNow 47 = .ok (.invokevirtual 93, 3) := by decide +kernel
theorem dX6_headNow_50 : decode cX6_headNow 50 = .ok (.ireturn, 1) := by decide +kernel
theorem dX6_headNow_51 : decode cX6_headNow 51 = .ok (.aload_n 0, 1) := by decide +kernel
theorem dX6_headNow_52 : decode cX6_headNow 52 = .ok (.iload_n 1, 1) := by decide +kernel
theorem dX6_headNow_53 : decode cX6_headNow 53 = .ok (.invokevirtual 96, 3) := by decide +kernel
theorem dX6_headNow_56 : decode cX6_headNow 56 = .ok (.ireturn, 1) := by decide +kernel
theorem dX6_headNow_57 : decode cX6_headNow 57 = .ok (.aload_n 0, 1) := by decide +kernel
theorem dX6_headNow_58 : decode cX6_headNow 58 = .ok (.iload_n 1, 1) := by decide +kernel
theorem dX6_headNow_59 : decode cX6_headNow 59 = .ok (.invokevirtual 99, 3) := by decide +kernel
theorem dX6_headNow_62 : decode cX6_headNow 62 = .ok (.ifCond .eq 7, 3) := by decide +kernel
theorem dX6_headNow_65 : decode cX6_headNow 65 = .ok (.iconst 1, 1) := by decide +kernel
theorem dX6_headNow_66 : decode cX6_headNow 66 = .ok (.goto 4, 3) := by decide +kernel
theorem dX6_headNow_69 : decode cX6_headNow 69 = .ok (.iconst 0, 1) := by decide +kernel
theorem dX6_headNow_70 : decode cX6_headNow 70 = .ok (.ireturn, 1) := by decide +kernel
theorem dX6_head_0 : decode cX6_head 0 = .ok (.aload_n 0, 1) := by decide +kernel
theorem dX6_head_1 : decode cX6_head 1 = .ok (.iload_n 1, 1) := by decide +kernel
theorem dX6_head_2 : decode cX6_head 2 = .ok (.invokevirtual 65, 3) := by decide +kernel
theorem dX6_head_5 : decode cX6_head 5 = .ok (.ifCond .ne 6, 3) := by decide +kernel
theorem dX6_head_8 : decode cX6_head 8 = .ok (.ldc 68, 2) := by decide +kernel
theorem dX6_head_10 : decode cX6_head 10 = .ok (.ireturn, 1) := by decide +kernel
theorem dX6_head_11 : decode cX6_head 11 = .ok (.iload_n 2, 1) := by decide +kernel
theorem dX6_head_12 : decode cX6_head 12 = .ok (.iconst 0, 1) := by decide +kernel
theorem dX6_head_13 : decode cX6_head 13 = .ok (.iconst 4, 1) := by decide +kernel
theorem dX6_head_14 : decode cX6_head 14 = .ok (.invokestatic 22, 3) := by decide +kernel
theorem dX6_head_17 : decode cX6_head 17 = .ok (.ifCond .eq 12, 3) := by decide +kernel
theorem dX6_head_20 : decode cX6_head 20 = .ok (.aload_n 0, 1) := by decide +kernel
theorem dX6_head_21 : decode cX6_head 21 = .ok (.iload_n 1, 1) := by decide +kernel
theorem dX6_head_22 : decode cX6_head 22 = .ok (.iload_n 2, 1) := by decide +kernel
theorem dX6_head_23 : decode cX6_head 23 = .ok (.invokevirtual 102, 3) := by decide +kernel
theorem dX6_head_26 : decode cX6_head 26 = .ok (.goto 5, 3) := by decide +kernel
theorem dX6_head_29 : decode cX6_head 29 = .ok (.ldc 26, 2) := by decide +kernel
theorem dX6_head_31 : decode cX6_head 31 = .ok (.ireturn, 1) := by decide +kernel
theorem dX6_depth_0 : decode cX6_depth 0 = .ok (.aload_n 0, 1) := by decide +kernel
theorem dX6_depth_1 : decode cX6_depth 1 = .ok (.iload_n 1, 1) := by decide +kernel
theorem dX6_depth_2 : decode cX6_depth 2 = .ok (.invokevirtual 65, 3) := by decide +kernel
theorem dX6_depth_5 : decode cX6_depth 5 = .ok (.ifCond .ne 6, 3) := by decide +kernel
theorem dX6_depth_8 : decode cX6_depth 8 = .ok (.ldc 68, 2) := by decide +kernel
theorem dX6_depth_10 : decode cX6_depth 10 = .ok (.ireturn, 1) := by decide +kernel
theorem dX6_depth_11 : decode cX6_depth 11 = .ok (.iload_n 2, 1) := by decide +kernel
theorem dX6_depth_12 : decode cX6_depth 12 = .ok (.bipush (-3), 2) := by decide +kernel
theorem dX6_depth_14 : decode cX6_depth 14 = .ok (.iconst 3, 1) := by decide +kernel
theorem dX6_depth_15 : decode cX6_depth 15 = .ok (.invokestatic 22, 3) := by decide +kernel
theorem dX6_depth_18 : decode cX6_depth 18 = .ok (.ifCond .eq 23, 3) := by decide +kernel
theorem dX6_depth_21 : decode cX6_depth 21 = .ok (.iload_n 3, 1) := by decide +kernel
theorem dX6_depth_22 : decode cX6_depth 22 = .ok (.bipush (-3), 2) := by decide +kernel
theorem dX6_depth_24 : decode cX6_depth 24 = .ok (.iconst 3, 1) := by decide +kernel
theorem dX6_depth_25 : decode cX6_depth 25 = .ok (.invokestatic 22, 3) := by decide +kernel
theorem dX6_depth_28 : decode cX6_depth 28 = .ok (.ifCond .eq 13, 3) := by decide +kernel
theorem dX6_depth_31 : decode cX6_depth 31 = .ok (.aload_n 0, 1) := by decide +kernel
theorem dX6_depth_32 : decode cX6_depth 32 = .ok (.iload_n 1, 1) := by decide +kernel
theorem dX6_depth_33 : decode cX6_depth 33 = .ok (.iload_n 2, 1) := by decide +kernel
theorem dX6_depth_34 : decode cX6_depth 34 = .ok (.iload_n 3, 1) := by decide +kernel
theorem dX6_depth_35 : decode cX6_depth 35 = .ok (.invokevirtual 76, 3) := by decide +kernel
theorem dX6_depth_38 : decode cX6_depth 38 = .ok (.goto 5, 3) := by decide +kernel
theorem dX6_depth_41 : decode cX6_depth 41 = .ok (.ldc 26, 2) := by decide +kernel
theorem dX6_depth_43 : decode cX6_depth 43 = .ok (.ireturn, 1) := by decide +kernel
theorem dX6_rowGround_0 : decode cX6_rowGround 0 = .ok (.iconst 0, 1) := by decide +kernel
theorem dX6_rowGround_1 : decode cX6_rowGround 1 = .ok (.istore 7, 2) := by decide +kernel
theorem dX6_rowGround_3 : decode cX6_rowGround 3 = .ok (.bipush (-3), 2) := by decide +kernel
theorem dX6_rowGround_5 : decode cX6_rowGround 5 = .ok (.istore 8, 2) := by decide +kernel
theorem dX6_rowGround_7 : decode cX6_rowGround 7 = .ok (.iload 8, 2) := by decide +kernel
theorem dX6_rowGround_9 : decode cX6_rowGround 9 = .ok (.iconst 3, 1) := by decide +kernel
theorem dX6_rowGround_10 : decode cX6_rowGround 10 = .ok (.if_icmp .gt 53, 3) := by decide +kernel
theorem dX6_rowGround_13 : decode cX6_rowGround 13 = .ok (.iload 5, 2) := by decide +kernel
theorem dX6_rowGround_15 : decode cX6_rowGround 15 = .ok (.iload 8, 2) := by decide +kernel
theorem dX6_rowGround_17 : decode cX6_rowGround 17 = .ok (.isub, 1) := by decide +kernel
theorem dX6_rowGround_18 : decode cX6_rowGround 18 = .ok (.iload 4, 2) := by decide +kernel
theorem dX6_rowGround_20 : decode cX6_rowGround 20 = .ok (.isub, 1) := by decide +kernel
theorem dX6_rowGround_21 : decode cX6_rowGround 21 = .ok (.istore 9, 2) := by decide +kernel
theorem dX6_rowGround_23 : decode cX6_rowGround 23 = .ok (.iload 9, 2) := by decide +kernel
theorem dX6_rowGround_25 : decode cX6_rowGround 25 = .ok (.iload_n 3, 1) := by decide +kernel
theorem dX6_rowGround_26 : decode cX6_rowGround 26 = .ok (.irem, 1) := by decide +kernel
theorem dX6_rowGround_27 : decode cX6_rowGround 27 = .ok (.ifCond .ne 30, 3) := by decide +kernel
theorem dX6_rowGround_30 : decode cX6_rowGround 30 = .ok (.iload 7, 2) := by decide +kernel
theorem dX6_rowGround_32 : decode cX6_rowGround 32 = .ok (.aload_n 0, 1) := by decide +kernel
theorem dX6_rowGround_33 : decode cX6_rowGround 33 = .ok (.iload 9, 2) := by decide +kernel
theorem dX6_rowGround_35 : decode cX6_rowGround 35 = .ok (.iload_n 3, 1) := by decide +kernel
theorem dX6_rowGround_36 : decode cX6_rowGround 36 = .ok (.idiv, 1) := by decide +kernel
theorem dX6_rowGround_37 : decode cX6_rowGround 37 = .ok (.iconst 2, 1) := by decide +kernel
theorem dX6_rowGround_38 : decode cX6_rowGround 38 = .ok (.irem, 1) := by decide +kernel
theorem dX6_rowGround_39 : decode cX6_rowGround 39 = .ok (.ifCond .ne 7, 3) := by decide +kernel
theorem dX6_rowGround_42 : decode cX6_rowGround 42 = .ok (.iload_n 1, 1) := by decide +kernel
theorem dX6_rowGround_43 : decode cX6_rowGround 43 = .ok (.goto 4, 3) := by decide +kernel
theorem dX6_rowGround_46 : decode cX6_rowGround 46 = .ok (.iload_n 2, 1) := by decide +kernel
theorem dX6_rowGround_47 : decode cX6_rowGround 47 = .ok (.iload 8, 2) := by decide +kernel
theorem dX6_rowGround_49 : decode cX6_rowGround 49 = .ok (.iload 6, 2) := by decide +kernel
theorem dX6_rowGround_51 : decode cX6_rowGround 51 = .ok (.invokevirtual 76, 3) := by decide +kernel
theorem dX6_rowGround_54 : decode cX6_rowGround 54 = .ok (.iadd, 1) := by decide +kernel
theorem dX6_rowGround_55 : decode cX6_rowGround 55 = .ok (.istore 7, 2) := by decide +kernel
theorem dX6_rowGround_57 : decode cX6_rowGround 57 = .ok (.iinc 8 1, 3) := by decide +kernel
theorem dX6_rowGround_60 : decode cX6_rowGround 60 = .ok (.goto (-53), 3) := by decide +kernel
theorem dX6_rowGround_63 : decode cX6_rowGround 63 = .ok (.iload 7, 2) := by decide +kernel
theorem dX6_rowGround_65 : decode cX6_rowGround 65 = .ok (.ireturn, 1) := by decide +kernel
theorem dX6_groundAt_0 : decode cX6_groundAt 0 = .ok (.iconst 0, 1) := by decide +kernel
theorem dX6_groundAt_1 : decode cX6_groundAt 1 = .ok (.istore 8, 2) := by decide +kernel
theorem dX6_groundAt_3 : decode cX6_groundAt 3 = .ok (.bipush (-3), 2) := by decide +kernel
theorem dX6_groundAt_5 : decode cX6_groundAt 5 = .ok (.istore 9, 2) := by decide +kernel
theorem dX6_groundAt_7 : decode cX6_groundAt 7 = .ok (.iload 9, 2) := by decide +kernel
theorem dX6_groundAt_9 : decode cX6_groundAt 9 = .ok (.iconst 3, 1) := by decide +kernel
theorem dX6_groundAt_10 : decode cX6_groundAt 10 = .ok (.if_icmp .gt 97, 3) := by decide +kernel
theorem dX6_groundAt_13 : decode cX6_groundAt 13 = .ok (.iload 7, 2) := by decide +kernel
theorem dX6_groundAt_15 : decode cX6_groundAt 15 = .ok (.iload 9, 2) := by decide +kernel
theorem dX6_groundAt_17 : decode cX6_groundAt 17 = .ok (.isub, 1) := by decide +kernel
theorem dX6_groundAt_18 : decode cX6_groundAt 18 = .ok (.iload 5, 2) := by decide +kernel
theorem dX6_groundAt_20 : decode cX6_groundAt 20 = .ok (.irem, 1) := by decide +kernel
theorem dX6_groundAt_21 : decode cX6_groundAt 21 = .ok (.ifCond .ne 80, 3) := by decide +kernel
theorem dX6_groundAt_24 : decode cX6_groundAt 24 = .ok (.iload 7, 2) := by decide +kernel
theorem dX6_groundAt_26 : decode cX6_groundAt 26 = .ok (.iload 9, 2) := by decide +kernel
theorem dX6_groundAt_28 : decode cX6_groundAt 28 = .ok (.isub, 1) := by decide +kernel
theorem dX6_groundAt_29 : decode cX6_groundAt 29 = .ok (.iload 5, 2) := by decide +kernel
theorem dX6_groundAt_31 : decode cX6_groundAt 31 = .ok (.idiv, 1) := by decide +kernel
theorem dX6_groundAt_32 : decode cX6_groundAt 32 = .ok (.iconst 2, 1) := by decide +kernel
theorem dX6_groundAt_33 : decode cX6_groundAt 33 = .ok (.irem, 1) := by decide +kernel
theorem dX6_groundAt_34 : decode cX6_groundAt 34 = .ok (.ifCond .eq 7, 3) := by decide +kernel
theorem dX6_groundAt_37 : decode cX6_groundAt 37 = .ok (.iconst 1, 1) := by decide +kernel
theorem dX6_groundAt_38 : decode cX6_groundAt 38 = .ok (.goto 4, 3) := by decide +kernel
theorem dX6_groundAt_41 : decode cX6_groundAt 41 = .ok (.iconst 0, 1) := by decide +kernel
theorem dX6_groundAt_42 : decode cX6_groundAt 42 = .ok (.istore 10, 2) := by decide +kernel
theorem dX6_groundAt_44 : decode cX6_groundAt 44 = .ok (.iload_n 3, 1) := by decide +kernel
theorem dX6_groundAt_45 : decode cX6_groundAt 45 = .ok (.iconst 1, 1) := by decide +kernel
theorem dX6_groundAt_46 : decode cX6_groundAt 46 = .ok (.if_icmp .ne 15, 3) := by decide +kernel
theorem dX6_groundAt_49 : decode cX6_groundAt 49 = .ok (.iload 10, 2) := by decide +kernel
theorem dX6_groundAt_51 : decode cX6_groundAt 51 = .ok (.ifCond .eq 10, 3) := by decide +kernel
theorem dX6_groundAt_54 : decode cX6_groundAt 54 = .ok (.iload 4, 2) := by decide +kernel
theorem dX6_groundAt_56 : decode cX6_groundAt 56 = .ok (.iconst 2, 1) := by decide +kernel
theorem dX6_groundAt_57 : decode cX6_groundAt 57 = .ok (.idiv, 1) := by decide +kernel
theorem dX6_groundAt_58 : decode cX6_groundAt 58 = .ok (.goto 4, 3) := by decide +kernel
theorem dX6_groundAt_61 : decode cX6_groundAt 61 = .ok (.iconst 0, 1) := by decide +kernel
theorem dX6_groundAt_62 : decode cX6_groundAt 62 = .ok (.istore 11, 2) := by decide +kernel
theorem dX6_groundAt_64 : decode cX6_groundAt 64 = .ok (.iload 8, 2) := by decide +kernel
theorem dX6_groundAt_66 : decode cX6_groundAt 66 = .ok (.aload_n 0, 1) := by decide +kernel
theorem dX6_groundAt_67 : decode cX6_groundAt 67 = .ok (.iload 10, 2) := by decide +kernel
theorem dX6_groundAt_69 : decode cX6_groundAt 69 = .ok (.ifCond .eq 7, 3) := by decide +kernel
theorem dX6_groundAt_72 : decode cX6_groundAt 72 = .ok (.iload_n 2, 1) := by decide +kernel
theorem dX6_groundAt_73 : decode cX6_groundAt 73 = .ok (.goto 4, 3) := by decide +kernel
theorem dX6_groundAt_76 : decode cX6_groundAt 76 = .ok (.iload_n 1, 1) := by decide +kernel
theorem dX6_groundAt_77 : decode cX6_groundAt 77 = .ok (.iload 10, 2) := by decide +kernel
theorem dX6_groundAt_79 : decode cX6_groundAt 79 = .ok (.ifCond .eq 7, 3) := by decide +kernel
theorem dX6_groundAt_82 : decode cX6_groundAt 82 = .ok (.iload_n 1, 1) := by decide +kernel
theorem dX6_groundAt_83 : decode cX6_groundAt 83 = .ok (.goto 4, 3) := by decide +kernel
theorem dX6_groundAt_86 : decode cX6_groundAt 86 = .ok (.iload_n 2, 1) := by decide +kernel
theorem dX6_groundAt_87 : decode cX6_groundAt 87 = .ok (.iload 4, 2) := by decide +kernel
theorem dX6_groundAt_89 : decode cX6_groundAt 89 = .ok (.iload 11, 2) := by decide +kernel
theorem dX6_groundAt_91 : decode cX6_groundAt 91 = .ok (.iload 6, 2) := by decide +kernel
theorem dX6_groundAt_93 : decode cX6_groundAt 93 = .ok (.iload 9, 2) := by decide +kernel
theorem dX6_groundAt_95 : decode cX6_groundAt 95 = .ok (.invokevirtual 106, 3) := by decide +kernel
theorem dX6_groundAt_98 : decode cX6_groundAt 98 = .ok (.iadd, 1) := by decide +kernel
theorem dX6_groundAt_99 : decode cX6_groundAt 99 = .ok (.istore 8, 2) := by decide +kernel
theorem dX6_groundAt_101 : decode cX6_groundAt 101 = .ok (.iinc 9 1, 3) := by decide +kernel
theorem dX6_groundAt_104 : decode cX6_groundAt 104 = .ok (.goto (-97), 3) := by decide +kernel
theorem dX6_groundAt_107 : decode cX6_groundAt 107 = .ok (.iload 8, 2) := by decide +kernel
theorem dX6_groundAt_109 : decode cX6_groundAt 109 = .ok (.ireturn, 1) := by decide +kernel
theorem dX6_isLaid_0 : decode cX6_isLaid 0 = .ok (.iload_n 0, 1) := by decide +kernel
theorem dX6_isLaid_1 : decode cX6_isLaid 1 = .ok (.iconst 0, 1) := by decide +kernel
theorem dX6_isLaid_2 : decode cX6_isLaid 2 = .ok (.iconst 1, 1) := by decide +kernel
theorem dX6_isLaid_3 : decode cX6_isLaid 3 = .ok (.invokestatic 22, 3) := by decide +kernel
theorem dX6_isLaid_6 : decode cX6_isLaid 6 = .ok (.ifCond .eq 27, 3) := by decide +kernel
theorem dX6_isLaid_9 : decode cX6_isLaid 9 = .ok (.iload_n 1, 1) := by decide +kernel
theorem dX6_isLaid_10 : decode cX6_isLaid 10 = .ok (.iconst 2, 1) := by decide +kernel
theorem dX6_isLaid_11 : decode cX6_isLaid 11 = .ok (.bipush 9, 2) := by decide +kernel
theorem dX6_isLaid_13 : decode cX6_isLaid 13 = .ok (.invokestatic 22, 3) := by decide +kernel
theorem dX6_isLaid_16 : decode cX6_isLaid 16 = .ok (.ifCond .eq 17, 3) := by decide +kernel
theorem dX6_isLaid_19 : decode cX6_isLaid 19 = .ok (.iload_n 2, 1) := by decide +kernel
theorem dX6_isLaid_20 : decode cX6_isLaid 20 = .ok (.iconst 2, 1) := by decide +kernel
theorem dX6_isLaid_21 : decode cX6_isLaid 21 = .ok (.bipush 9, 2) := by decide +kernel
theorem dX6_isLaid_23 : decode cX6_isLaid 23 = .ok (.invokestatic 22, 3) := by decide +kernel
theorem dX6_isLaid_26 : decode cX6_isLaid 26 = .ok (.ifCond .eq 7, 3) := by decide +kernel
theorem dX6_isLaid_29 : decode cX6_isLaid 29 = .ok (.iconst 1, 1) := by decide +kernel
theorem dX6_isLaid_30 : decode cX6_isLaid 30 = .ok (.goto 4, 3) := by decide +kernel
theorem dX6_isLaid_33 : decode cX6_isLaid 33 = .ok (.iconst 0, 1) := by decide +kernel
theorem dX6_isLaid_34 : decode cX6_isLaid 34 = .ok (.ireturn, 1) := by decide +kernel
theorem dX6_ground_0 : decode cX6_ground 0 = .ok (.aload_n 0, 1) := by decide +kernel
theorem dX6_ground_1 : decode cX6_ground 1 = .ok (.iload_n 1, 1) := by decide +kernel
theorem dX6_ground_2 : decode cX6_ground 2 = .ok (.invokevirtual 65, 3) := by decide +kernel
theorem dX6_ground_5 : decode cX6_ground 5 = .ok (.ifCond .ne 6, 3) := by decide +kernel
theorem dX6_ground_8 : decode cX6_ground 8 = .ok (.ldc 68, 2) := by decide +kernel
theorem dX6_ground_10 : decode cX6_ground 10 = .ok (.ireturn, 1) := by decide +kernel
theorem dX6_ground_11 : decode cX6_ground 11 = .ok (.iload_n 2, 1) := by decide +kernel
theorem dX6_ground_12 : decode cX6_ground 12 = .ok (.iload_n 3, 1) := by decide +kernel
theorem dX6_ground_13 : decode cX6_ground 13 = .ok (.iload 4, 2) := by decide +kernel
theorem dX6_ground_15 : decode cX6_ground 15 = .ok (.invokestatic 110, 3) := by decide +kernel
theorem dX6_ground_18 : decode cX6_ground 18 = .ok (.ifCond .eq 31, 3) := by decide +kernel
theorem dX6_ground_21 : decode cX6_ground 21 = .ok (.iload 5, 2) := by decide +kernel
theorem dX6_ground_23 : decode cX6_ground 23 = .ok (.bipush (-50), 2) := by decide +kernel
theorem dX6_ground_25 : decode cX6_ground 25 = .ok (.bipush 50, 2) := by decide +kernel
theorem dX6_ground_27 : decode cX6_ground 27 = .ok (.invokestatic 22, 3) := by decide +kernel
theorem dX6_ground_30 : decode cX6_ground 30 = .ok (.ifCond .eq 19, 3) := by decide +kernel
theorem dX6_ground_33 : decode cX6_ground 33 = .ok (.iload 6, 2) := by decide +kernel
theorem dX6_ground_35 : decode cX6_ground 35 = .ok (.bipush (-50), 2) := by decide +kernel
theorem dX6_ground_37 : decode cX6_ground 37 = .ok (.bipush 50, 2) := by decide +kernel
theorem dX6_ground_39 : decode cX6_ground 39 = .ok (.invokestatic 22, 3) := by decide +kernel
theorem dX6_ground_42 : decode cX6_ground 42 = .ok (.ifCond .eq 7, 3) := by decide +kernel
theorem dX6_ground_45 : decode cX6_ground 45 = .ok (.iconst 1, 1) := by decide +kernel
theorem dX6_ground_46 : decode cX6_ground 46 = .ok (.goto 4, 3) := by decide +kernel
theorem dX6_ground_49 : decode cX6_ground 49 = .ok (.iconst 0, 1) := by decide +kernel
theorem dX6_ground_50 : decode cX6_ground 50 = .ok (.istore 7, 2) := by decide +kernel
theorem dX6_ground_52 : decode cX6_ground 52 = .ok (.iload 7, 2) := by decide +kernel
theorem dX6_ground_54 : decode cX6_ground 54 = .ok (.ifCond .eq 20, 3) := by decide +kernel
theorem dX6_ground_57 : decode cX6_ground 57 = .ok (.aload_n 0, 1) := by decide +kernel
theorem dX6_ground_58 : decode cX6_ground 58 = .ok (.iload_n 1, 1) := by decide +kernel
theorem dX6_ground_59 : decode cX6_ground 59 = .ok (.iload_n 1, 1) := by decide +kernel
theorem dX6_ground_60 : decode cX6_ground 60 = .ok (.iload_n 2, 1) := by decide +kernel
theorem dX6_ground_61 : decode cX6_ground 61 = .ok (.iload_n 3, 1) := by decide +kernel
theorem dX6_ground_62 : decode cX6_ground 62 = .ok (.iload 4, 2) := by decide +kernel
theorem dX6_ground_64 : decode cX6_ground 64 = .ok (.iload 5, 2) := by decide +kernel
theorem dX6_ground_66 : decode cX6_ground 66 = .ok (.iload 6, 2) := by decide +kernel
theorem dX6_ground_68 : decode cX6_ground 68 = .ok (.invokevirtual 113, 3) := by decide +kernel
theorem dX6_ground_71 : decode cX6_ground 71 = .ok (.goto 5, 3) := by decide +kernel
theorem dX6_ground_74 : decode cX6_ground 74 = .ok (.ldc 26, 2) := by decide +kernel
theorem dX6_ground_76 : decode cX6_ground 76 = .ok (.ireturn, 1) := by decide +kernel
theorem dX6_begins_0 : decode cX6_begins 0 = .ok (.aload_n 0, 1) := by decide +kernel
theorem dX6_begins_1 : decode cX6_begins 1 = .ok (.iconst 0, 1) := by decide +kernel
theorem dX6_begins_2 : decode cX6_begins 2 = .ok (.putfield 117, 3) := by decide +kernel
theorem dX6_begins_5 : decode cX6_begins 5 = .ok (.aload_n 0, 1) := by decide +kernel
theorem dX6_begins_6 : decode cX6_begins 6 = .ok (.iconst 0, 1) := by decide +kernel
theorem dX6_begins_7 : decode cX6_begins 7 = .ok (.putfield 120, 3) := by decide +kernel
theorem dX6_begins_10 : decode cX6_begins 10 = .ok (.return_, 1) := by decide +kernel
theorem dX6_lay_0 : decode cX6_lay 0 = .ok (.aload_n 0, 1) := by decide +kernel
theorem dX6_lay_1 : decode cX6_lay 1 = .ok (.getfield 19, 3) := by decide +kernel
theorem dX6_lay_4 : decode cX6_lay 4 = .ok (.aload_n 0, 1) := by decide +kernel
theorem dX6_lay_5 : decode cX6_lay 5 = .ok (.getfield 117, 3) := by decide +kernel
theorem dX6_lay_8 : decode cX6_lay 8 = .ok (.iload_n 1, 1) := by decide +kernel
theorem dX6_lay_9 : decode cX6_lay 9 = .ok (.iastore, 1) := by decide +kernel
theorem dX6_lay_10 : decode cX6_lay 10 = .ok (.aload_n 0, 1) := by decide +kernel
theorem dX6_lay_11 : decode cX6_lay 11 = .ok (.dup, 1) := by decide +kernel
theorem dX6_lay_12 : decode cX6_lay 12 = .ok (.getfield 117, 3) := by decide +kernel
theorem dX6_lay_15 : decode cX6_lay 15 = .ok (.iconst 1, 1) := by decide +kernel
theorem dX6_lay_16 : decode cX6_lay 16 = .ok (.iadd, 1) := by decide +kernel
theorem dX6_lay_17 : decode cX6_lay 17 = .ok (.putfield 117, 3) := by decide +kernel
theorem dX6_lay_20 : decode cX6_lay 20 = .ok (.aload_n 0, 1) := by decide +kernel
theorem dX6_lay_21 : decode cX6_lay 21 = .ok (.dup, 1) := by decide +kernel
theorem dX6_lay_22 : decode cX6_lay 22 = .ok (.getfield 120, 3) := by decide +kernel
theorem dX6_lay_25 : decode cX6_lay 25 = .ok (.iload_n 1, 1) := by decide +kernel
theorem dX6_lay_26 : decode cX6_lay 26 = .ok (.iadd, 1) := by decide +kernel
theorem dX6_lay_27 : decode cX6_lay 27 = .ok (.putfield 120, 3) := by decide +kernel
theorem dX6_lay_30 : decode cX6_lay 30 = .ok (.return_, 1) := by decide +kernel
theorem dX6_layTile_0 : decode cX6_layTile 0 = .ok (.aload_n 0, 1) := by decide +kernel
theorem dX6_layTile_1 : decode cX6_layTile 1 = .ok (.invokevirtual 123, 3) := by decide +kernel
theorem dX6_layTile_4 : decode cX6_layTile 4 = .ok (.iconst 0, 1) := by decide +kernel
theorem dX6_layTile_5 : decode cX6_layTile 5 = .ok (.istore 8, 2) := by decide +kernel
theorem dX6_layTile_7 : decode cX6_layTile 7 = .ok (.iload 8, 2) := by decide +kernel
theorem dX6_layTile_9 : decode cX6_layTile 9 = .ok (.iload 7, 2) := by decide +kernel
theorem dX6_layTile_11 : decode cX6_layTile 11 = .ok (.if_icmp .ge 44, 3) := by decide +kernel
theorem dX6_layTile_14 : decode cX6_layTile 14 = .ok (.iconst 0, 1) := by decide +kernel
theorem dX6_layTile_15 : decode cX6_layTile 15 = .ok (.istore 9, 2) := by decide +kernel
theorem dX6_layTile_17 : decode cX6_layTile 17 = .ok (.iload 9, 2) := by decide +kernel
theorem dX6_layTile_19 : decode cX6_layTile 19 = .ok (.iload 6, 2) := by decide +kernel
theorem dX6_layTile_21 : decode cX6_layTile 21 = .ok (.if_icmp .ge 28, 3) := by decide +kernel
theorem dX6_layTile_24 : decode cX6_layTile 24 = .ok (.aload_n 0, 1) := by decide +kernel
theorem dX6_layTile_25 : decode cX6_layTile 25 = .ok (.aload_n 0, 1) := by decide +kernel
theorem dX6_layTile_26 : decode cX6_layTile 26 = .ok (.iload_n 1, 1) := by decide +kernel
theorem dX6_layTile_27 : decode cX6_layTile 27 = .ok (.iload_n 2, 1) := by decide +kernel
theorem dX6_layTile_28 : decode cX6_layTile 28 = .ok (.iload_n 3, 1) := by decide +kernel
theorem dX6_layTile_29 : decode cX6_layTile 29 = .ok (.iload 4, 2) := by decide +kernel
theorem dX6_layTile_31 : decode cX6_layTile 31 = .ok (.iload 5, 2) := by decide +kernel
theorem dX6_layTile_33 : decode cX6_layTile 33 = .ok (.iload 9, 2) := by decide +kernel
theorem dX6_layTile_35 : decode cX6_layTile 35 = .ok (.iload 8, 2) := by decide +kernel
theorem dX6_layTile_37 : decode cX6_layTile 37 = .ok (.invokevirtual 113, 3) := by decide +kernel
theorem dX6_layTile_40 : decode cX6_layTile 40 = .ok (.invokevirtual 126, 3) := by decide +kernel
theorem dX6_layTile_43 : decode cX6_layTile 43 = .ok (.iinc 9 1, 3) := by decide +kernel
theorem dX6_layTile_46 : decode cX6_layTile 46 = .ok (.goto (-29), 3) := by decide +kernel
theorem dX6_layTile_49 : decode cX6_layTile 49 = .ok (.iinc 8 1, 3) := by decide +kernel
theorem dX6_layTile_52 : decode cX6_layTile 52 = .ok (.goto (-45), 3) := by decide +kernel
theorem dX6_layTile_55 : decode cX6_layTile 55 = .ok (.return_, 1) := by decide +kernel
theorem dX6_layLayout_0 : decode cX6_layLayout 0 = .ok (.aload_n 0, 1) := by decide +kernel
theorem dX6_layLayout_1 : decode cX6_layLayout 1 = .ok (.iload_n 1, 1) := by decide +kernel
theorem dX6_layLayout_2 : decode cX6_layLayout 2 = .ok (.iload_n 1, 1) := by decide +kernel
theorem dX6_layLayout_3 : decode cX6_layLayout 3 = .ok (.iload_n 2, 1) := by decide +kernel
theorem dX6_layLayout_4 : decode cX6_layLayout 4 = .ok (.iload_n 3, 1) := by decide +kernel
theorem dX6_layLayout_5 : decode cX6_layLayout 5 = .ok (.iload 4, 2) := by decide +kernel
theorem dX6_layLayout_7 : decode cX6_layLayout 7 = .ok (.iload_n 3, 1) := by decide +kernel
theorem dX6_layLayout_8 : decode cX6_layLayout 8 = .ok (.iload_n 2, 1) := by decide +kernel
theorem dX6_layLayout_9 : decode cX6_layLayout 9 = .ok (.iconst 1, 1) := by decide +kernel
theorem dX6_layLayout_10 : decode cX6_layLayout 10 = .ok (.if_icmp .ne 10, 3) := by decide +kernel
theorem dX6_layLayout_13 : decode cX6_layLayout 13 = .ok (.iconst 2, 1) := by decide +kernel
theorem dX6_layLayout_14 : decode cX6_layLayout 14 = .ok (.iload 4, 2) := by decide +kernel
theorem dX6_layLayout_16 : decode cX6_layLayout 16 = .ok (.imul, 1) := by decide +kernel
theorem dX6_layLayout_17 : decode cX6_layLayout 17 = .ok (.goto 5, 3) := by decide +kernel
theorem dX6_layLayout_20 : decode cX6_layLayout 20 = .ok (.iload 4, 2) := by decide +kernel
theorem dX6_layLayout_22 : decode cX6_layLayout 22 = .ok (.invokevirtual 130, 3) := by decide +kernel
theorem dX6_layLayout_25 : decode cX6_layLayout 25 = .ok (.return_, 1) := by decide +kernel
theorem dX6_least_0 : decode cX6_least 0 = .ok (.aload_n 0, 1) := by decide +kernel
theorem dX6_least_1 : decode cX6_least 1 = .ok (.getfield 19, 3) := by decide +kernel
theorem dX6_least_4 : decode cX6_least 4 = .ok (.iconst 0, 1) := by decide +kernel
theorem dX6_least_5 : decode cX6_least 5 = .ok (.iaload, 1) := by decide +kernel
theorem dX6_least_6 : decode cX6_least 6 = .ok (.istore_n 1, 1) := by decide +kernel
theorem dX6_least_7 : decode cX6_least 7 = .ok (.iconst 1, 1) := by decide +kernel
theorem dX6_least_8 : decode cX6_least 8 = .ok (.istore_n 2, 1) := by decide +kernel
theorem dX6_least_9 : decode cX6_least 9 = .ok (.iload_n 2, 1) := by decide +kernel
theorem dX6_least_10 : decode cX6_least 10 = .ok (.aload_n 0, 1) := by decide +kernel
theorem dX6_least_11 : decode cX6_least 11 = .ok (.getfield 117, 3) := by decide +kernel
theorem dX6_least_14 : decode cX6_least 14 = .ok (.if_icmp .ge 30, 3) := by decide +kernel
theorem dX6_least_17 : decode cX6_least 17 = .ok (.aload_n 0, 1) := by decide +kernel
theorem dX6_least_18 : decode cX6_least 18 = .ok (.getfield 19, 3) := by decide +kernel
theorem dX6_least_21 : decode cX6_least 21 = .ok (.iload_n 2, 1) := by decide +kernel
theorem dX6_least_22 : decode cX6_least 22 = .ok (.iaload, 1) := by decide +kernel
theorem dX6_least_23 : decode cX6_least 23 = .ok (.iload_n 1, 1) := by decide +kernel
theorem dX6_least_24 : decode cX6_least 24 = .ok (.if_icmp .ge 12, 3) := by decide +kernel
theorem dX6_least_27 : decode cX6_least 27 = .ok (.aload_n 0, 1) := by decide +kernel
theorem dX6_least_28 : decode cX6_least 28 = .ok (.getfield 19, 3) := by decide +kernel
theorem dX6_least_31 : decode cX6_least 31 = .ok (.iload_n 2, 1) := by decide +kernel
theorem dX6_least_32 : decode cX6_least 32 = .ok (.iaload, 1) := by decide +kernel
theorem dX6_least_33 : decode cX6_least 33 = .ok (.goto 4, 3) := by decide +kernel
theorem dX6_least_36 : decode cX6_least 36 = .ok (.iload_n 1, 1) := by decide +kernel
theorem dX6_least_37 : decode cX6_least 37 = .ok (.istore_n 1, 1) := by decide +kernel
theorem dX6_least_38 : decode cX6_least 38 = .ok (.iinc 2 1, 3) := by decide +kernel
theorem dX6_least_41 : decode cX6_least 41 = .ok (.goto (-32), 3) := by decide +kernel
theorem dX6_least_44 : decode cX6_least 44 = .ok (.iload_n 1, 1) := by decide +kernel
theorem dX6_least_45 : decode cX6_least 45 = .ok (.ireturn, 1) := by decide +kernel
theorem dX6_greatest_0 : decode cX6_greatest 0 = .ok (.aload_n 0, 1) := by decide +kernel
theorem dX6_greatest_1 : decode cX6_greatest 1 = .ok (.getfield 19, 3) := by decide +kernel
theorem dX6_greatest_4 : decode cX6_greatest 4 = .ok (.iconst 0, 1) := by decide +kernel
theorem dX6_greatest_5 : decode cX6_greatest 5 = .ok (.iaload, 1) := by decide +kernel
theorem dX6_greatest_6 : decode cX6_greatest 6 = .ok (.istore_n 1, 1) := by decide +kernel
theorem dX6_greatest_7 : decode cX6_greatest 7 = .ok (.iconst 1, 1) := by decide +kernel
theorem dX6_greatest_8 : decode cX6_greatest 8 = .ok (.istore_n 2, 1) := by decide +kernel
theorem dX6_greatest_9 : decode cX6_greatest 9 = .ok (.iload_n 2, 1) := by decide +kernel
theorem dX6_greatest_10 : decode cX6_greatest 10 = .ok (.aload_n 0, 1) := by decide +kernel
theorem dX6_greatest_11 : decode cX6_greatest 11 = .ok (.getfield 117, 3) := by decide +kernel
theorem dX6_greatest_14 : decode cX6_greatest 14 = .ok (.if_icmp .ge 30, 3) := by decide +kernel
theorem dX6_greatest_17 : decode cX6_greatest 17 = .ok (.aload_n 0, 1) := by decide +kernel
theorem dX6_greatest_18 : decode cX6_greatest 18 = .ok (.getfield 19, 3) := by decide +kernel
theorem dX6_greatest_21 : decode cX6_greatest 21 = .ok (.iload_n 2, 1) := by decide +kernel
theorem dX6_greatest_22 : decode cX6_greatest 22 = .ok (.iaload, 1) := by decide +kernel
theorem dX6_greatest_23 : decode cX6_greatest 23 = .ok (.iload_n 1, 1) := by decide +kernel
theorem dX6_greatest_24 : decode cX6_greatest 24 = .ok (.if_icmp .le 12, 3) := by decide +kernel
theorem dX6_greatest_27 : decode cX6_greatest 27 = .ok (.aload_n 0, 1) := by decide +kernel
theorem dX6_greatest_28 : decode cX6_greatest 28 = .ok (.getfield 19, 3) := by decide +kernel
theorem dX6_greatest_31 : decode cX6_greatest 31 = .ok (.iload_n 2, 1) := by decide +kernel
theorem dX6_greatest_32 : decode cX6_greatest 32 = .ok (.iaload, 1) := by decide +kernel
theorem dX6_greatest_33 : decode cX6_greatest 33 = .ok (.goto 4, 3) := by decide +kernel
theorem dX6_greatest_36 : decode cX6_greatest 36 = .ok (.iload_n 1, 1) := by decide +kernel
theorem dX6_greatest_37 : decode cX6_greatest 37 = .ok (.istore_n 1, 1) := by decide +kernel
theorem dX6_greatest_38 : decode cX6_greatest 38 = .ok (.iinc 2 1, 3) := by decide +kernel
theorem dX6_greatest_41 : decode cX6_greatest 41 = .ok (.goto (-32), 3) := by decide +kernel
theorem dX6_greatest_44 : decode cX6_greatest 44 = .ok (.iload_n 1, 1) := by decide +kernel
theorem dX6_greatest_45 : decode cX6_greatest 45 = .ok (.ireturn, 1) := by decide +kernel
theorem dX6_common_0 : decode cX6_common 0 = .ok (.lload_n 0, 1) := by decide +kernel
theorem dX6_common_1 : decode cX6_common 1 = .ok (.lconst 0, 1) := by decide +kernel
theorem dX6_common_2 : decode cX6_common 2 = .ok (.lcmp, 1) := by decide +kernel
theorem dX6_common_3 : decode cX6_common 3 = .ok (.ifCond .ge 8, 3) := by decide +kernel
theorem dX6_common_6 : decode cX6_common 6 = .ok (.lload_n 0, 1) := by decide +kernel
theorem dX6_common_7 : decode cX6_common 7 = .ok (.lneg, 1) := by decide +kernel
theorem dX6_common_8 : decode cX6_common 8 = .ok (.goto 4, 3) := by decide +kernel
theorem dX6_common_11 : decode cX6_common 11 = .ok (.lload_n 0, 1) := by decide +kernel
theorem dX6_common_12 : decode cX6_common 12 = .ok (.lstore 4, 2) := by decide +kernel
theorem dX6_common_14 : decode cX6_common 14 = .ok (.lload_n 2, 1) := by decide +kernel
theorem dX6_common_15 : decode cX6_common 15 = .ok (.lstore 6, 2) := by decide +kernel
theorem dX6_common_17 : decode cX6_common 17 = .ok (.lload 6, 2) := by decide +kernel
theorem dX6_common_19 : decode cX6_common 19 = .ok (.lconst 0, 1) := by decide +kernel
theorem dX6_common_20 : decode cX6_common 20 = .ok (.lcmp, 1) := by decide +kernel
theorem dX6_common_21 : decode cX6_common 21 = .ok (.ifCond .eq 21, 3) := by decide +kernel
theorem dX6_common_24 : decode cX6_common 24 = .ok (.lload 4, 2) := by decide +kernel
theorem dX6_common_26 : decode cX6_common 26 = .ok (.lload 6, 2) := by decide +kernel
theorem dX6_common_28 : decode cX6_common 28 = .ok (.lrem, 1) := by decide +kernel
theorem dX6_common_29 : decode cX6_common 29 = .ok (.lstore 8, 2) := by decide +kernel
theorem dX6_common_31 : decode cX6_common 31 = .ok (.lload 6, 2) := by decide +kernel
theorem dX6_common_33 : decode cX6_common 33 = .ok (.lstore 4, 2) := by decide +kernel
theorem dX6_common_35 : decode cX6_common 35 = .ok (.lload 8, 2) := by decide +kernel
theorem dX6_common_37 : decode cX6_common 37 = .ok (.lstore 6, 2) := by decide +kernel
theorem dX6_common_39 : decode cX6_common 39 = .ok (.goto (-22), 3) := by decide +kernel
theorem dX6_common_42 : decode cX6_common 42 = .ok (.lload 4, 2) := by decide +kernel
theorem dX6_common_44 : decode cX6_common 44 = .ok (.lreturn, 1) := by decide +kernel
theorem dX6_lowest_0 : decode cX6_lowest 0 = .ok (.lload_n 0, 1) := by decide +kernel
theorem dX6_lowest_1 : decode cX6_lowest 1 = .ok (.lload_n 2, 1) := by decide +kernel
theorem dX6_lowest_2 : decode cX6_lowest 2 = .ok (.invokestatic 134, 3) := by decide +kernel
theorem dX6_lowest_5 : decode cX6_lowest 5 = .ok (.lstore 5, 2) := by decide +kernel
theorem dX6_lowest_7 : decode cX6_lowest 7 = .ok (.iload 4, 2) := by decide +kernel
theorem dX6_lowest_9 : decode cX6_lowest 9 = .ok (.ifCond .ne 10, 3) := by decide +kernel
theorem dX6_lowest_12 : decode cX6_lowest 12 = .ok (.lload_n 0, 1) := by decide +kernel
theorem dX6_lowest_13 : decode cX6_lowest 13 = .ok (.lload 5, 2) := by decide +kernel
theorem dX6_lowest_15 : decode cX6_lowest 15 = .ok (.ldiv, 1) := by decide +kernel
theorem dX6_lowest_16 : decode cX6_lowest 16 = .ok (.goto 7, 3) := by decide +kernel
theorem dX6_lowest_19 : decode cX6_lowest 19 = .ok (.lload_n 2, 1) := by decide +kernel
theorem dX6_lowest_20 : decode cX6_lowest 20 = .ok (.lload 5, 2) := by decide +kernel
theorem dX6_lowest_22 : decode cX6_lowest 22 = .ok (.ldiv, 1) := by decide +kernel
theorem dX6_lowest_23 : decode cX6_lowest 23 = .ok (.l2i, 1) := by decide +kernel
theorem dX6_lowest_24 : decode cX6_lowest 24 = .ok (.ireturn, 1) := by decide +kernel
theorem dX6_evenAbove_0 : decode cX6_evenAbove 0 = .ok (.lconst 0, 1) := by decide +kernel
theorem dX6_evenAbove_1 : decode cX6_evenAbove 1 = .ok (.lstore_n 1, 1) := by decide +kernel
theorem dX6_evenAbove_2 : decode cX6_evenAbove 2 = .ok (.iconst 0, 1) := by decide +kernel
theorem dX6_evenAbove_3 : decode cX6_evenAbove 3 = .ok (.istore_n 3, 1) := by decide +kernel
theorem dX6_evenAbove_4 : decode cX6_evenAbove 4 = .ok (.iload_n 3, 1) := by decide +kernel
theorem dX6_evenAbove_5 : decode cX6_evenAbove 5 = .ok (.aload_n 0, 1) := by decide +kernel
theorem dX6_evenAbove_6 : decode cX6_evenAbove 6 = .ok (.getfield 117, 3) := by decide +kernel
theorem dX6_evenAbove_9 : decode cX6_evenAbove 9 = .ok (.if_icmp .ge 48, 3) := by decide +kernel
theorem dX6_evenAbove_12 : decode cX6_evenAbove 12 = .ok (.aload_n 0, 1) := by decide +kernel
theorem dX6_evenAbove_13 : decode cX6_evenAbove 13 = .ok (.getfield 117, 3) := by decide +kernel
theorem dX6_evenAbove_16 : decode cX6_evenAbove 16 = .ok (.i2l, 1) := by decide +kernel
theorem dX6_evenAbove_17 : decode cX6_evenAbove 17 = .ok (.aload_n 0, 1) := by decide +kernel
theorem dX6_evenAbove_18 : decode cX6_evenAbove 18 = .ok (.getfield 19, 3) := by decide +kernel
theorem dX6_evenAbove_21 : decode cX6_evenAbove 21 = .ok (.iload_n 3, 1) := by decide +kernel
theorem dX6_evenAbove_22 : decode cX6_evenAbove 22 = .ok (.iaload, 1) := by decide +kernel
theorem dX6_evenAbove_23 : decode cX6_evenAbove 23 = .ok (.i2l, 1) := by decide +kernel
theorem dX6_evenAbove_24 : decode cX6_evenAbove 24 = .ok (.lmul, 1) := by decide +kernel
theorem dX6_evenAbove_25 : decode cX6_evenAbove 25 = .ok (.aload_n 0, 1) := by decide +kernel
theorem dX6_evenAbove_26 : decode cX6_evenAbove 26 = .ok (.getfield 120, 3) := by decide +kernel
theorem dX6_evenAbove_29 : decode cX6_evenAbove 29 = .ok (.i2l, 1) := by decide +kernel
theorem dX6_evenAbove_30 : decode cX6_evenAbove 30 = .ok (.lsub, 1) := by decide +kernel
theorem dX6_evenAbove_31 : decode cX6_evenAbove 31 = .ok (.lstore 4, 2) := by decide +kernel
theorem dX6_evenAbove_33 : decode cX6_evenAbove 33 = .ok (.lload_n 1, 1) := by decide +kernel
theorem dX6_evenAbove_34 : decode cX6_evenAbove 34 = .ok (.lload 4, 2) := by decide +kernel
theorem dX6_evenAbove_36 : decode cX6_evenAbove 36 = .ok (.lconst 0, 1) := by decide +kernel
theorem dX6_evenAbove_37 : decode cX6_evenAbove 37 = .ok (.lcmp, 1) := by decide +kernel
theorem dX6_evenAbove_38 : decode cX6_evenAbove 38 = .ok (.ifCond .ge 9, 3) := by decide +kernel
theorem dX6_evenAbove_41 : decode cX6_evenAbove 41 = .ok (.lload 4, 2) := by decide +kernel
theorem dX6_evenAbove_43 : decode cX6_evenAbove 43 = .ok (.lneg, 1) := by decide +kernel
theorem dX6_evenAbove_44 : decode cX6_evenAbove 44 = .ok (.goto 5, 3) := by decide +kernel
theorem dX6_evenAbove_47 : decode cX6_evenAbove 47 = .ok (.lload 4, 2) := by decide +kernel
theorem dX6_evenAbove_49 : decode cX6_evenAbove 49 = .ok (.ladd, 1) := by decide +kernel
theorem dX6_evenAbove_50 : decode cX6_evenAbove 50 = .ok (.lstore_n 1, 1) := by decide +kernel
theorem dX6_evenAbove_51 : decode cX6_evenAbove 51 = .ok (.iinc 3 1, 3) := by decide +kernel
theorem dX6_evenAbove_54 : decode cX6_evenAbove 54 = .ok (.goto (-50), 3) := by decide +kernel
theorem dX6_evenAbove_57 : decode cX6_evenAbove 57 = .ok (.aload_n 0, 1) := by decide +kernel
theorem dX6_evenAbove_58 : decode cX6_evenAbove 58 = .ok (.getfield 117, 3) := by decide +kernel
theorem dX6_evenAbove_61 : decode cX6_evenAbove 61 = .ok (.i2l, 1) := by decide +kernel
theorem dX6_evenAbove_62 : decode cX6_evenAbove 62 = .ok (.aload_n 0, 1) := by decide +kernel
theorem dX6_evenAbove_63 : decode cX6_evenAbove 63 = .ok (.getfield 120, 3) := by decide +kernel
theorem dX6_evenAbove_66 : decode cX6_evenAbove 66 = .ok (.i2l, 1) := by decide +kernel
theorem dX6_evenAbove_67 : decode cX6_evenAbove 67 = .ok (.lmul, 1) := by decide +kernel
theorem dX6_evenAbove_68 : decode cX6_evenAbove 68 = .ok (.lload_n 1, 1) := by decide +kernel
theorem dX6_evenAbove_69 : decode cX6_evenAbove 69 = .ok (.lsub, 1) := by decide +kernel
theorem dX6_evenAbove_70 : decode cX6_evenAbove 70 = .ok (.lreturn, 1) := by decide +kernel
theorem dX6_dry_0 : decode cX6_dry 0 = .ok (.lconst 0, 1) := by decide +kernel
theorem dX6_dry_1 : decode cX6_dry 1 = .ok (.lstore_n 1, 1) := by decide +kernel
theorem dX6_dry_2 : decode cX6_dry 2 = .ok (.aload_n 0, 1) := by decide +kernel
theorem dX6_dry_3 : decode cX6_dry 3 = .ok (.getfield 117, 3) := by decide +kernel
theorem dX6_dry_6 : decode cX6_dry 6 = .ok (.iconst 3, 1) := by decide +kernel
theorem dX6_dry_7 : decode cX6_dry 7 = .ok (.iadd, 1) := by decide +kernel
theorem dX6_dry_8 : decode cX6_dry 8 = .ok (.iconst 4, 1) := by decide +kernel
theorem dX6_dry_9 : decode cX6_dry 9 = .ok (.idiv, 1) := by decide +kernel
theorem dX6_dry_10 : decode cX6_dry 10 = .ok (.istore_n 3, 1) := by decide +kernel
theorem dX6_dry_11 : decode cX6_dry 11 = .ok (.aload_n 0, 1) := by decide +kernel
theorem dX6_dry_12 : decode cX6_dry 12 = .ok (.invokevirtual 138, 3) := by decide +kernel
theorem dX6_dry_15 : decode cX6_dry 15 = .ok (.istore 4, 2) := by decide +kernel
theorem dX6_dry_17 : decode cX6_dry 17 = .ok (.iload_n 3, 1) := by decide +kernel
theorem dX6_dry_18 : decode cX6_dry 18 = .ok (.ifCond .le 52, 3) := by decide +kernel
theorem dX6_dry_21 : decode cX6_dry 21 = .ok (.iconst 0, 1) := by decide +kernel
theorem dX6_dry_22 : decode cX6_dry 22 = .ok (.istore 5, 2) := by decide +kernel
theorem dX6_dry_24 : decode cX6_dry 24 = .ok (.iload 5, 2) := by decide +kernel
theorem dX6_dry_26 : decode cX6_dry 26 = .ok (.aload_n 0, 1) := by decide +kernel
theorem dX6_dry_27 : decode cX6_dry 27 = .ok (.getfield 117, 3) := by decide +kernel
theorem dX6_dry_30 : decode cX6_dry 30 = .ok (.if_icmp .ge 34, 3) := by decide +kernel
theorem dX6_dry_33 : decode cX6_dry 33 = .ok (.iload_n 3, 1) := by decide +kernel
theorem dX6_dry_34 : decode cX6_dry 34 = .ok (.ifCond .le 30, 3) := by decide +kernel
theorem dX6_dry_37 : decode cX6_dry 37 = .ok (.aload_n 0, 1) := by decide +kernel
theorem dX6_dry_38 : decode cX6_dry 38 = .ok (.getfield 19, 3) := by decide +kernel
theorem dX6_dry_41 : decode cX6_dry 41 = .ok (.iload 5, 2) := by decide +kernel
theorem dX6_dry_43 : decode cX6_dry 43 = .ok (.iaload, 1) := by decide +kernel
theorem dX6_dry_44 : decode cX6_dry 44 = .ok (.iload 4, 2) := by decide +kernel
theorem dX6_dry_46 : decode cX6_dry 46 = .ok (.if_icmp .ne 12, 3) := by decide +kernel
theorem dX6_dry_49 : decode cX6_dry 49 = .ok (.lload_n 1, 1) := by decide +kernel
theorem dX6_dry_50 : decode cX6_dry 50 = .ok (.iload 4, 2) := by decide +kernel
theorem dX6_dry_52 : decode cX6_dry 52 = .ok (.i2l, 1) := by decide +kernel
theorem dX6_dry_53 : decode cX6_dry 53 = .ok (.ladd, 1) := by decide +kernel
theorem dX6_dry_54 : decode cX6_dry 54 = .ok (.lstore_n 1, 1) := by decide +kernel
theorem dX6_dry_55 : decode cX6_dry 55 = .ok (.iinc 3 (-1), 3) := by decide +kernel
theorem dX6_dry_58 : decode cX6_dry 58 = .ok (.iinc 5 1, 3) := by decide +kernel
theorem dX6_dry_61 : decode cX6_dry 61 = .ok (.goto (-37), 3) := by decide +kernel
theorem dX6_dry_64 : decode cX6_dry 64 = .ok (.iinc 4 1, 3) := by decide +kernel
theorem dX6_dry_67 : decode cX6_dry 67 = .ok (.goto (-50), 3) := by decide +kernel
theorem dX6_dry_70 : decode cX6_dry 70 = .ok (.lload_n 1, 1) := by decide +kernel
theorem dX6_dry_71 : decode cX6_dry 71 = .ok (.lreturn, 1) := by decide +kernel
theorem dX6_lowNow_0 : decode cX6_lowNow 0 = .ok (.aload_n 0, 1) := by decide +kernel
theorem dX6_lowNow_1 : decode cX6_lowNow 1 = .ok (.getfield 117, 3) := by decide +kernel
theorem dX6_lowNow_4 : decode cX6_lowNow 4 = .ok (.i2l, 1) := by decide +kernel
theorem dX6_lowNow_5 : decode cX6_lowNow 5 = .ok (.aload_n 0, 1) := by decide +kernel
theorem dX6_lowNow_6 : decode cX6_lowNow 6 = .ok (.invokevirtual 141, 3) := by decide +kernel
theorem dX6_lowNow_9 : decode cX6_lowNow 9 = .ok (.lmul, 1) := by decide +kernel
theorem dX6_lowNow_10 : decode cX6_lowNow 10 = .ok (.aload_n 0, 1) := by decide +kernel
theorem dX6_lowNow_11 : decode cX6_lowNow 11 = .ok (.getfield 117, 3) := by decide +kernel
theorem dX6_lowNow_14 : decode cX6_lowNow 14 = .ok (.iconst 3, 1) := by decide +kernel
theorem dX6_lowNow_15 : decode cX6_lowNow 15 = .ok (.iadd, 1) := by decide +kernel
theorem dX6_lowNow_16 : decode cX6_lowNow 16 = .ok (.iconst 4, 1) := by decide +kernel
theorem dX6_lowNow_17 : decode cX6_lowNow 17 = .ok (.idiv, 1) := by decide +kernel
theorem dX6_lowNow_18 : decode cX6_lowNow 18 = .ok (.i2l, 1) := by decide +kernel
theorem dX6_lowNow_19 : decode cX6_lowNow 19 = .ok (.aload_n 0, 1) := by decide +kernel
theorem dX6_lowNow_20 : decode cX6_lowNow 20 = .ok (.getfield 120, 3) := by decide +kernel
theorem dX6_lowNow_23 : decode cX6_lowNow 23 = .ok (.i2l, 1) := by decide +kernel
theorem dX6_lowNow_24 : decode cX6_lowNow 24 = .ok (.lmul, 1) := by decide +kernel
theorem dX6_lowNow_25 : decode cX6_lowNow 25 = .ok (.iload_n 1, 1) := by decide +kernel
theorem dX6_lowNow_26 : decode cX6_lowNow 26 = .ok (.invokestatic 145, 3) := by decide +kernel
theorem dX6_lowNow_29 : decode cX6_lowNow 29 = .ok (.ireturn, 1) := by decide +kernel
theorem dX6_laidNow_0 : decode cX6_laidNow 0 = .ok (.iload_n 1, 1) := by decide +kernel
theorem dX6_laidNow_1 : decode cX6_laidNow 1 = .ok (.tableswitch 51 0 3 #[31, 36, 41, 46], 31) := by decide +kernel
theorem dX6_laidNow_32 : decode cX6_laidNow 32 = .ok (.aload_n 0, 1) := by decide +kernel
theorem dX6_laidNow_33 : decode cX6_laidNow 33 = .ok (.getfield 117, 3) := by decide +kernel
theorem dX6_laidNow_36 : decode cX6_laidNow 36 = .ok (.ireturn, 1) := by decide +kernel
theorem dX6_laidNow_37 : decode cX6_laidNow 37 = .ok (.aload_n 0, 1) := by decide +kernel
theorem dX6_laidNow_38 : decode cX6_laidNow 38 = .ok (.getfield 120, 3) := by decide +kernel
theorem dX6_laidNow_41 : decode cX6_laidNow 41 = .ok (.ireturn, 1) := by decide +kernel
theorem dX6_laidNow_42 : decode cX6_laidNow 42 = .ok (.aload_n 0, 1) := by decide +kernel
theorem dX6_laidNow_43 : decode cX6_laidNow 43 = .ok (.invokevirtual 138, 3) := by decide +kernel
theorem dX6_laidNow_46 : decode cX6_laidNow 46 = .ok (.ireturn, 1) := by decide +kernel
theorem dX6_laidNow_47 : decode cX6_laidNow 47 = .ok (.aload_n 0, 1) := by decide +kernel
theorem dX6_laidNow_48 : decode cX6_laidNow 48 = .ok (.invokevirtual 149, 3) := by decide +kernel
theorem dX6_laidNow_51 : decode cX6_laidNow 51 = .ok (.ireturn, 1) := by decide +kernel
theorem dX6_laidNow_52 : decode cX6_laidNow 52 = .ok (.aload_n 0, 1) := by decide +kernel
theorem dX6_laidNow_53 : decode cX6_laidNow 53 = .ok (.getfield 120, 3) := by decide +kernel
theorem dX6_laidNow_56 : decode cX6_laidNow 56 = .ok (.ifCond .ne 8, 3) := by decide +kernel
theorem dX6_laidNow_59 : decode cX6_laidNow 59 = .ok (.ldc 32, 2) := by decide +kernel
theorem dX6_laidNow_61 : decode cX6_laidNow 61 = .ok (.goto 41, 3) := by decide +kernel
theorem dX6_laidNow_64 : decode cX6_laidNow 64 = .ok (.iload_n 1, 1) := by decide +kernel
theorem dX6_laidNow_65 : decode cX6_laidNow 65 = .ok (.bipush 6, 2) := by decide +kernel
theorem dX6_laidNow_67 : decode cX6_laidNow 67 = .ok (.if_icmp .ge 27, 3) := by decide +kernel
theorem dX6_laidNow_70 : decode cX6_laidNow 70 = .ok (.aload_n 0, 1) := by decide +kernel
theorem dX6_laidNow_71 : decode cX6_laidNow 71 = .ok (.invokevirtual 152, 3) := by decide +kernel
theorem dX6_laidNow_74 : decode cX6_laidNow 74 = .ok (.aload_n 0, 1) := by decide +kernel
theorem dX6_laidNow_75 : decode cX6_laidNow 75 = .ok (.getfield 117, 3) := by decide +kernel
theorem dX6_laidNow_78 : decode cX6_laidNow 78 = .ok (.i2l, 1) := by decide +kernel
theorem dX6_laidNow_79 : decode cX6_laidNow 79 = .ok (.aload_n 0, 1) := by decide +kernel
theorem dX6_laidNow_80 : decode cX6_laidNow 80 = .ok (.getfield 120, 3) := by decide +kernel
theorem dX6_laidNow_83 : decode cX6_laidNow 83 = .ok (.i2l, 1) := by decide +kernel
theorem dX6_laidNow_84 : decode cX6_laidNow 84 = .ok (.lmul, 1) := by decide +kernel
theorem dX6_laidNow_85 : decode cX6_laidNow 85 = .ok (.iload_n 1, 1) := by decide +kernel
theorem dX6_laidNow_86 : decode cX6_laidNow 86 = .ok (.iconst 4, 1) := by decide +kernel
theorem dX6_laidNow_87 : decode cX6_laidNow 87 = .ok (.isub, 1) := by decide +kernel
theorem dX6_laidNow_88 : decode cX6_laidNow 88 = .ok (.invokestatic 145, 3) := by decide +kernel
theorem dX6_laidNow_91 : decode cX6_laidNow 91 = .ok (.goto 11, 3) := by decide +kernel
theorem dX6_laidNow_94 : decode cX6_laidNow 94 = .ok (.aload_n 0, 1) := by decide +kernel
theorem dX6_laidNow_95 : decode cX6_laidNow 95 = .ok (.iload_n 1, 1) := by decide +kernel
theorem dX6_laidNow_96 : decode cX6_laidNow 96 = .ok (.bipush 6, 2) := by decide +kernel
theorem dX6_laidNow_98 : decode cX6_laidNow 98 = .ok (.isub, 1) := by decide +kernel
theorem dX6_laidNow_99 : decode cX6_laidNow 99 = .ok (.invokevirtual 155, 3) := by decide +kernel
theorem dX6_laidNow_102 : decode cX6_laidNow 102 = .ok (.ireturn, 1) := by decide +kernel
theorem dX6_tileNow_0 : decode cX6_tileNow 0 = .ok (.aload_n 0, 1) := by decide +kernel
theorem dX6_tileNow_1 : decode cX6_tileNow 1 = .ok (.iload_n 1, 1) := by decide +kernel
theorem dX6_tileNow_2 : decode cX6_tileNow 2 = .ok (.iload_n 2, 1) := by decide +kernel
theorem dX6_tileNow_3 : decode cX6_tileNow 3 = .ok (.iload_n 3, 1) := by decide +kernel
theorem dX6_tileNow_4 : decode cX6_tileNow 4 = .ok (.iload 4, 2) := by decide +kernel
theorem dX6_tileNow_6 : decode cX6_tileNow 6 = .ok (.invokevirtual 158, 3) := by decide +kernel
theorem dX6_tileNow_9 : decode cX6_tileNow 9 = .ok (.aload_n 0, 1) := by decide +kernel
theorem dX6_tileNow_10 : decode cX6_tileNow 10 = .ok (.iload 5, 2) := by decide +kernel
theorem dX6_tileNow_12 : decode cX6_tileNow 12 = .ok (.invokevirtual 162, 3) := by decide +kernel
theorem dX6_tileNow_15 : decode cX6_tileNow 15 = .ok (.ireturn, 1) := by decide +kernel
theorem dX6_tile_0 : decode cX6_tile 0 = .ok (.aload_n 0, 1) := by decide +kernel
theorem dX6_tile_1 : decode cX6_tile 1 = .ok (.iload_n 1, 1) := by decide +kernel
theorem dX6_tile_2 : decode cX6_tile 2 = .ok (.invokevirtual 65, 3) := by decide +kernel
theorem dX6_tile_5 : decode cX6_tile 5 = .ok (.ifCond .ne 6, 3) := by decide +kernel
theorem dX6_tile_8 : decode cX6_tile 8 = .ok (.ldc 68, 2) := by decide +kernel
theorem dX6_tile_10 : decode cX6_tile 10 = .ok (.ireturn, 1) := by decide +kernel
theorem dX6_tile_11 : decode cX6_tile 11 = .ok (.iload_n 2, 1) := by decide +kernel
theorem dX6_tile_12 : decode cX6_tile 12 = .ok (.iload_n 3, 1) := by decide +kernel
theorem dX6_tile_13 : decode cX6_tile 13 = .ok (.iload 4, 2) := by decide +kernel
theorem dX6_tile_15 : decode cX6_tile 15 = .ok (.invokestatic 110, 3) := by decide +kernel
theorem dX6_tile_18 : decode cX6_tile 18 = .ok (.ifCond .eq 28, 3) := by decide +kernel
theorem dX6_tile_21 : decode cX6_tile 21 = .ok (.iload 5, 2) := by decide +kernel
theorem dX6_tile_23 : decode cX6_tile 23 = .ok (.iconst 0, 1) := by decide +kernel
theorem dX6_tile_24 : decode cX6_tile 24 = .ok (.bipush 7, 2) := by decide +kernel
theorem dX6_tile_26 : decode cX6_tile 26 = .ok (.invokestatic 22, 3) := by decide +kernel
theorem dX6_tile_29 : decode cX6_tile 29 = .ok (.ifCond .eq 17, 3) := by decide +kernel
theorem dX6_tile_32 : decode cX6_tile 32 = .ok (.aload_n 0, 1) := by decide +kernel
theorem dX6_tile_33 : decode cX6_tile 33 = .ok (.iload_n 1, 1) := by decide +kernel
theorem dX6_tile_34 : decode cX6_tile 34 = .ok (.iload_n 2, 1) := by decide +kernel
theorem dX6_tile_35 : decode cX6_tile 35 = .ok (.iload_n 3, 1) := by decide +kernel
theorem dX6_tile_36 : decode cX6_tile 36 = .ok (.iload 4, 2) := by decide +kernel
theorem dX6_tile_38 : decode cX6_tile 38 = .ok (.iload 5, 2) := by decide +kernel
theorem dX6_tile_40 : decode cX6_tile 40 = .ok (.invokevirtual 165, 3) := by decide +kernel
theorem dX6_tile_43 : decode cX6_tile 43 = .ok (.goto 5, 3) := by decide +kernel
theorem dX6_tile_46 : decode cX6_tile 46 = .ok (.ldc 26, 2) := by decide +kernel
theorem dX6_tile_48 : decode cX6_tile 48 = .ok (.ireturn, 1) := by decide +kernel
theorem dX6_turnsNow_0 : decode cX6_turnsNow 0 = .ok (.aload_n 0, 1) := by decide +kernel
theorem dX6_turnsNow_1 : decode cX6_turnsNow 1 = .ok (.iload_n 1, 1) := by decide +kernel
theorem dX6_turnsNow_2 : decode cX6_turnsNow 2 = .ok (.iload_n 2, 1) := by decide +kernel
theorem dX6_turnsNow_3 : decode cX6_turnsNow 3 = .ok (.iconst 0, 1) := by decide +kernel
theorem dX6_turnsNow_4 : decode cX6_turnsNow 4 = .ok (.iload_n 3, 1) := by decide +kernel
theorem dX6_turnsNow_5 : decode cX6_turnsNow 5 = .ok (.iload 4, 2) := by decide +kernel
theorem dX6_turnsNow_7 : decode cX6_turnsNow 7 = .ok (.iconst 2, 1) := by decide +kernel
theorem dX6_turnsNow_8 : decode cX6_turnsNow 8 = .ok (.iload_n 3, 1) := by decide +kernel
theorem dX6_turnsNow_9 : decode cX6_turnsNow 9 = .ok (.imul, 1) := by decide +kernel
theorem dX6_turnsNow_10 : decode cX6_turnsNow 10 = .ok (.iconst 2, 1) := by decide +kernel
theorem dX6_turnsNow_11 : decode cX6_turnsNow 11 = .ok (.iload 4, 2) := by decide +kernel
theorem dX6_turnsNow_13 : decode cX6_turnsNow 13 = .ok (.imul, 1) := by decide +kernel
theorem dX6_turnsNow_14 : decode cX6_turnsNow 14 = .ok (.invokevirtual 130, 3) := by decide +kernel
theorem dX6_turnsNow_17 : decode cX6_turnsNow 17 = .ok (.aload_n 0, 1) := by decide +kernel
theorem dX6_turnsNow_18 : decode cX6_turnsNow 18 = .ok (.iload 5, 2) := by decide +kernel
theorem dX6_turnsNow_20 : decode cX6_turnsNow 20 = .ok (.invokevirtual 162, 3) := by decide +kernel
theorem dX6_turnsNow_23 : decode cX6_turnsNow 23 = .ok (.ireturn, 1) := by decide +kernel
theorem dX6_byTurns_0 : decode cX6_byTurns 0 = .ok (.aload_n 0, 1) := by decide +kernel
theorem dX6_byTurns_1 : decode cX6_byTurns 1 = .ok (.iload_n 1, 1) := by decide +kernel
theorem dX6_byTurns_2 : decode cX6_byTurns 2 = .ok (.invokevirtual 65, 3) := by decide +kernel
theorem dX6_byTurns_5 : decode cX6_byTurns 5 = .ok (.ifCond .eq 11, 3) := by decide +kernel
theorem dX6_byTurns_8 : decode cX6_byTurns 8 = .ok (.aload_n 0, 1) := by decide +kernel
theorem dX6_byTurns_9 : decode cX6_byTurns 9 = .ok (.iload_n 2, 1) := by decide +kernel
theorem dX6_byTurns_10 : decode cX6_byTurns 10 = .ok (.invokevirtual 65, 3) := by decide +kernel
theorem dX6_byTurns_13 : decode cX6_byTurns 13 = .ok (.ifCond .ne 6, 3) := by decide +kernel
theorem dX6_byTurns_16 : decode cX6_byTurns 16 = .ok (.ldc 68, 2) := by decide +kernel
theorem dX6_byTurns_18 : decode cX6_byTurns 18 = .ok (.ireturn, 1) := by decide +kernel
theorem dX6_byTurns_19 : decode cX6_byTurns 19 = .ok (.iconst 0, 1) := by decide +kernel
theorem dX6_byTurns_20 : decode cX6_byTurns 20 = .ok (.iload_n 3, 1) := by decide +kernel
theorem dX6_byTurns_21 : decode cX6_byTurns 21 = .ok (.iload 4, 2) := by decide +kernel
theorem dX6_byTurns_23 : decode cX6_byTurns 23 = .ok (.invokestatic 110, 3) := by decide +kernel
theorem dX6_byTurns_26 : decode cX6_byTurns 26 = .ok (.ifCond .eq 28, 3) := by decide +kernel
theorem dX6_byTurns_29 : decode cX6_byTurns 29 = .ok (.iload 5, 2) := by decide +kernel
theorem dX6_byTurns_31 : decode cX6_byTurns 31 = .ok (.iconst 0, 1) := by decide +kernel
theorem dX6_byTurns_32 : decode cX6_byTurns 32 = .ok (.bipush 7, 2) := by decide +kernel
theorem dX6_byTurns_34 : decode cX6_byTurns 34 = .ok (.invokestatic 22, 3) := by decide +kernel
theorem dX6_byTurns_37 : decode cX6_byTurns 37 = .ok (.ifCond .eq 17, 3) := by decide +kernel
theorem dX6_byTurns_40 : decode cX6_byTurns 40 = .ok (.aload_n 0, 1) := by decide +kernel
theorem dX6_byTurns_41 : decode cX6_byTurns 41 = .ok (.iload_n 1, 1) := by decide +kernel
theorem dX6_byTurns_42 : decode cX6_byTurns 42 = .ok (.iload_n 2, 1) := by decide +kernel
theorem dX6_byTurns_43 : decode cX6_byTurns 43 = .ok (.iload_n 3, 1) := by decide +kernel
theorem dX6_byTurns_44 : decode cX6_byTurns 44 = .ok (.iload 4, 2) := by decide +kernel
theorem dX6_byTurns_46 : decode cX6_byTurns 46 = .ok (.iload 5, 2) := by decide +kernel
theorem dX6_byTurns_48 : decode cX6_byTurns 48 = .ok (.invokevirtual 169, 3) := by decide +kernel
theorem dX6_byTurns_51 : decode cX6_byTurns 51 = .ok (.goto 5, 3) := by decide +kernel
theorem dX6_byTurns_54 : decode cX6_byTurns 54 = .ok (.ldc 26, 2) := by decide +kernel
theorem dX6_byTurns_56 : decode cX6_byTurns 56 = .ok (.ireturn, 1) := by decide +kernel
theorem dX6_isBetter_0 : decode cX6_isBetter 0 = .ok (.aload_n 0, 1) := by decide +kernel
theorem dX6_isBetter_1 : decode cX6_isBetter 1 = .ok (.getfield 172, 3) := by decide +kernel
theorem dX6_isBetter_4 : decode cX6_isBetter 4 = .ok (.ldc 32, 2) := by decide +kernel
theorem dX6_isBetter_6 : decode cX6_isBetter 6 = .ok (.if_icmp .ne 5, 3) := by decide +kernel
theorem dX6_isBetter_9 : decode cX6_isBetter 9 = .ok (.iconst 1, 1) := by decide +kernel
theorem dX6_isBetter_10 : decode cX6_isBetter 10 = .ok (.ireturn, 1) := by decide +kernel
theorem dX6_isBetter_11 : decode cX6_isBetter 11 = .ok (.aload_n 0, 1) := by decide +kernel
theorem dX6_isBetter_12 : decode cX6_isBetter 12 = .ok (.invokevirtual 152, 3) := by decide +kernel
theorem dX6_isBetter_15 : decode cX6_isBetter 15 = .ok (.aload_n 0, 1) := by decide +kernel
theorem dX6_isBetter_16 : decode cX6_isBetter 16 = .ok (.getfield 175, 3) := by decide +kernel
theorem dX6_isBetter_19 : decode cX6_isBetter 19 = .ok (.lmul, 1) := by decide +kernel
theorem dX6_isBetter_20 : decode cX6_isBetter 20 = .ok (.aload_n 0, 1) := by decide +kernel
theorem dX6_isBetter_21 : decode cX6_isBetter 21 = .ok (.getfield 179, 3) := by decide +kernel
theorem dX6_isBetter_24 : decode cX6_isBetter 24 = .ok (.aload_n 0, 1) := by decide +kernel
theorem dX6_isBetter_25 : decode cX6_isBetter 25 = .ok (.getfield 117, 3) := by decide +kernel
theorem dX6_isBetter_28 : decode cX6_isBetter 28 = .ok (.i2l, 1) := by decide +kernel
theorem dX6_isBetter_29 : decode cX6_isBetter 29 = .ok (.aload_n 0, 1) := by decide +kernel
theorem dX6_isBetter_30 : decode cX6_isBetter 30 = .ok (.getfield 120, 3) := by decide +kernel
theorem dX6_isBetter_33 : decode cX6_isBetter 33 = .ok (.i2l, 1) := by decide +kernel
theorem dX6_isBetter_34 : decode cX6_isBetter 34 = .ok (.lmul, 1) := by decide +kernel
theorem dX6_isBetter_35 : decode cX6_isBetter 35 = .ok (.lmul, 1) := by decide +kernel
theorem dX6_isBetter_36 : decode cX6_isBetter 36 = .ok (.lsub, 1) := by decide +kernel
theorem dX6_isBetter_37 : decode cX6_isBetter 37 = .ok (.lstore_n 3, 1) := by decide +kernel
theorem dX6_isBetter_38 : decode cX6_isBetter 38 = .ok (.lload_n 3, 1) := by decide +kernel
theorem dX6_isBetter_39 : decode cX6_isBetter 39 = .ok (.lconst 0, 1) := by decide +kernel
theorem dX6_isBetter_40 : decode cX6_isBetter 40 = .ok (.lcmp, 1) := by decide +kernel
theorem dX6_isBetter_41 : decode cX6_isBetter 41 = .ok (.ifCond .ne 18, 3) := by decide +kernel
theorem dX6_isBetter_44 : decode cX6_isBetter 44 = .ok (.iload_n 1, 1) := by decide +kernel
theorem dX6_isBetter_45 : decode cX6_isBetter 45 = .ok (.iload_n 2, 1) := by decide +kernel
theorem dX6_isBetter_46 : decode cX6_isBetter 46 = .ok (.imul, 1) := by decide +kernel
theorem dX6_isBetter_47 : decode cX6_isBetter 47 = .ok (.aload_n 0, 1) := by decide +kernel
theorem dX6_isBetter_48 : decode cX6_isBetter 48 = .ok (.getfield 182, 3) := by decide +kernel
theorem dX6_isBetter_51 : decode cX6_isBetter 51 = .ok (.aload_n 0, 1) := by decide +kernel
theorem dX6_isBetter_52 : decode cX6_isBetter 52 = .ok (.getfield 185, 3) := by decide +kernel
theorem dX6_isBetter_55 : decode cX6_isBetter 55 = .ok (.imul, 1) := by decide +kernel
theorem dX6_isBetter_56 : decode cX6_isBetter 56 = .ok (.if_icmp .eq 36, 3) := by decide +kernel
theorem dX6_isBetter_59 : decode cX6_isBetter 59 = .ok (.lload_n 3, 1) := by decide +kernel
theorem dX6_isBetter_60 : decode cX6_isBetter 60 = .ok (.lconst 0, 1) := by decide +kernel
theorem dX6_isBetter_61 : decode cX6_isBetter 61 = .ok (.lcmp, 1) := by decide +kernel
theorem dX6_isBetter_62 : decode cX6_isBetter 62 = .ok (.ifCond .gt 24, 3) := by decide +kernel
theorem dX6_isBetter_65 : decode cX6_isBetter 65 = .ok (.lload_n 3, 1) := by decide +kernel
theorem dX6_isBetter_66 : decode cX6_isBetter 66 = .ok (.lconst 0, 1) := by decide +kernel
theorem dX6_isBetter_67 : decode cX6_isBetter 67 = .ok (.lcmp, 1) := by decide +kernel
theorem dX6_isBetter_68 : decode cX6_isBetter 68 = .ok (.ifCond .ne 22, 3) := by decide +kernel
theorem dX6_isBetter_71 : decode cX6_isBetter 71 = .ok (.iload_n 1, 1) := by decide +kernel
theorem dX6_isBetter_72 : decode cX6_isBetter 72 = .ok (.iload_n 2, 1) := by decide +kernel
theorem dX6_isBetter_73 : decode cX6_isBetter 73 = .ok (.imul, 1) := by decide +kernel
theorem dX6_isBetter_74 : decode cX6_isBetter 74 = .ok (.aload_n 0, 1) := by decide +kernel
theorem dX6_isBetter_75 : decode cX6_isBetter 75 = .ok (.getfield 182, 3) := by decide +kernel
theorem dX6_isBetter_78 : decode cX6_isBetter 78 = .ok (.aload_n 0, 1) := by decide +kernel
theorem dX6_isBetter_79 : decode cX6_isBetter 79 = .ok (.getfield 185, 3) := by decide +kernel
theorem dX6_isBetter_82 : decode cX6_isBetter 82 = .ok (.imul, 1) := by decide +kernel
theorem dX6_isBetter_83 : decode cX6_isBetter 83 = .ok (.if_icmp .le 7, 3) := by decide +kernel
theorem dX6_isBetter_86 : decode cX6_isBetter 86 = .ok (.iconst 1, 1) := by decide +kernel
theorem dX6_isBetter_87 : decode cX6_isBetter 87 = .ok (.goto 4, 3) := by decide +kernel
theorem dX6_isBetter_90 : decode cX6_isBetter 90 = .ok (.iconst 0, 1) := by decide +kernel
theorem dX6_isBetter_91 : decode cX6_isBetter 91 = .ok (.ireturn, 1) := by decide +kernel
theorem dX6_isBetter_92 : decode cX6_isBetter 92 = .ok (.iload_n 1, 1) := by decide +kernel
theorem dX6_isBetter_93 : decode cX6_isBetter 93 = .ok (.aload_n 0, 1) := by decide +kernel
theorem dX6_isBetter_94 : decode cX6_isBetter 94 = .ok (.getfield 182, 3) := by decide +kernel
theorem dX6_isBetter_97 : decode cX6_isBetter 97 = .ok (.if_icmp .ge 7, 3) := by decide +kernel
theorem dX6_isBetter_100 : decode cX6_isBetter 100 = .ok (.iconst 1, 1) := by decide +kernel
theorem dX6_isBetter_101 : decode cX6_isBetter 101 = .ok (.goto 4, 3) := by decide +kernel
theorem dX6_isBetter_104 : decode cX6_isBetter 104 = .ok (.iconst 0, 1) := by decide +kernel
theorem dX6_isBetter_105 : decode cX6_isBetter 105 = .ok (.ireturn, 1) := by decide +kernel
theorem dX6_layBest_0 : decode cX6_layBest 0 = .ok (.aload_n 0, 1) := by decide +kernel
theorem dX6_layBest_1 : decode cX6_layBest 1 = .ok (.ldc 32, 2) := by decide +kernel
theorem dX6_layBest_3 : decode cX6_layBest 3 = .ok (.putfield 172, 3) := by decide +kernel
theorem dX6_layBest_6 : decode cX6_layBest 6 = .ok (.iconst 0, 1) := by decide +kernel
theorem dX6_layBest_7 : decode cX6_layBest 7 = .ok (.istore_n 3, 1) := by decide +kernel
theorem dX6_layBest_8 : decode cX6_layBest 8 = .ok (.iload_n 3, 1) := by decide +kernel
theorem dX6_layBest_9 : decode cX6_layBest 9 = .ok (.sipush 128, 3) := by decide +kernel
theorem dX6_layBest_12 : decode cX6_layBest 12 = .ok (.if_icmp .ge 117, 3) := by decide +kernel
theorem dX6_layBest_15 : decode cX6_layBest 15 = .ok (.iload_n 3, 1) := by decide +kernel
theorem dX6_layBest_16 : decode cX6_layBest 16 = .ok (.bipush 64, 2) := by decide +kernel
theorem dX6_layBest_18 : decode cX6_layBest 18 = .ok (.idiv, 1) := by decide +kernel
theorem dX6_layBest_19 : decode cX6_layBest 19 = .ok (.istore 4, 2) := by decide +kernel
theorem dX6_layBest_21 : decode cX6_layBest 21 = .ok (.iconst 2, 1) := by decide +kernel
theorem dX6_layBest_22 : decode cX6_layBest 22 = .ok (.iload_n 3, 1) := by decide +kernel
theorem dX6_layBest_23 : decode cX6_layBest 23 = .ok (.bipush 8, 2) := by decide +kernel
theorem dX6_layBest_25 : decode cX6_layBest 25 = .ok (.idiv, 1) := by decide +kernel
theorem dX6_layBest_26 : decode cX6_layBest 26 = .ok (.bipush 8, 2) := by decide +kernel
theorem dX6_layBest_28 : decode cX6_layBest 28 = .ok (.irem, 1) := by decide +kernel
theorem dX6_layBest_29 : decode cX6_layBest 29 = .ok (.iadd, 1) := by decide +kernel
theorem dX6_layBest_30 : decode cX6_layBest 30 = .ok (.istore 5, 2) := by decide +kernel
theorem dX6_layBest_32 : decode cX6_layBest 32 = .ok (.iconst 2, 1) := by decide +kernel
theorem dX6_layBest_33 : decode cX6_layBest 33 = .ok (.iload_n 3, 1) := by decide +kernel
theorem dX6_layBest_34 : decode cX6_layBest 34 = .ok (.bipush 8, 2) := by decide +kernel
theorem dX6_layBest_36 : decode cX6_layBest 36 = .ok (.irem, 1) := by decide +kernel
theorem dX6_layBest_37 : decode cX6_layBest 37 = .ok (.iadd, 1) := by decide +kernel
theorem dX6_layBest_38 : decode cX6_layBest 38 = .ok (.istore 6, 2) := by decide +kernel
theorem dX6_layBest_40 : decode cX6_layBest 40 = .ok (.aload_n 0, 1) := by decide +kernel
theorem dX6_layBest_41 : decode cX6_layBest 41 = .ok (.iload_n 1, 1) := by decide +kernel
theorem dX6_layBest_42 : decode cX6_layBest 42 = .ok (.iload 4, 2) := by decide +kernel
theorem dX6_layBest_44 : decode cX6_layBest 44 = .ok (.iload 5, 2) := by decide +kernel
theorem dX6_layBest_46 : decode cX6_layBest 46 = .ok (.iload 6, 2) := by decide +kernel
theorem dX6_layBest_48 : decode cX6_layBest 48 = .ok (.invokevirtual 158, 3) := by decide +kernel
theorem dX6_layBest_51 : decode cX6_layBest 51 = .ok (.aload_n 0, 1) := by decide +kernel
theorem dX6_layBest_52 : decode cX6_layBest 52 = .ok (.getfield 120, 3) := by decide +kernel
theorem dX6_layBest_55 : decode cX6_layBest 55 = .ok (.ifCond .le 68, 3) := by decide +kernel
theorem dX6_layBest_58 : decode cX6_layBest 58 = .ok (.aload_n 0, 1) := by decide +kernel
theorem dX6_layBest_59 : decode cX6_layBest 59 = .ok (.getfield 120, 3) := by decide +kernel
theorem dX6_layBest_62 : decode cX6_layBest 62 = .ok (.iload_n 2, 1) := by decide +kernel
theorem dX6_layBest_63 : decode cX6_layBest 63 = .ok (.aload_n 0, 1) := by decide +kernel
theorem dX6_layBest_64 : decode cX6_layBest 64 = .ok (.getfield 117, 3) := by decide +kernel
theorem dX6_layBest_67 : decode cX6_layBest 67 = .ok (.imul, 1) := by decide +kernel
theorem dX6_layBest_68 : decode cX6_layBest 68 = .ok (.if_icmp .lt 55, 3) := by decide +kernel
theorem dX6_layBest_71 : decode cX6_layBest 71 = .ok (.aload_n 0, 1) := by decide +kernel
theorem dX6_layBest_72 : decode cX6_layBest 72 = .ok (.iload 5, 2) := by decide +kernel
theorem dX6_layBest_74 : decode cX6_layBest 74 = .ok (.iload 6, 2) := by decide +kernel
theorem dX6_layBest_76 : decode cX6_layBest 76 = .ok (.invokevirtual 188, 3) := by decide +kernel
theorem dX6_layBest_79 : decode cX6_layBest 79 = .ok (.ifCond .eq 44, 3) := by decide +kernel
theorem dX6_layBest_82 : decode cX6_layBest 82 = .ok (.aload_n 0, 1) := by decide +kernel
theorem dX6_layBest_83 : decode cX6_layBest 83 = .ok (.iload 4, 2) := by decide +kernel
theorem dX6_layBest_85 : decode cX6_layBest 85 = .ok (.putfield 172, 3) := by decide +kernel
theorem dX6_layBest_88 : decode cX6_layBest 88 = .ok (.aload_n 0, 1) := by decide +kernel
theorem dX6_layBest_89 : decode cX6_layBest 89 = .ok (.iload 5, 2) := by decide +kernel
theorem dX6_layBest_91 : decode cX6_layBest 91 = .ok (.putfield 182, 3) := by decide +kernel
theorem dX6_layBest_94 : decode cX6_layBest 94 = .ok (.aload_n 0, 1) := by decide +kernel
theorem dX6_layBest_95 : decode cX6_layBest 95 = .ok (.iload 6, 2) := by decide +kernel
theorem dX6_layBest_97 : decode cX6_layBest 97 = .ok (.putfield 185, 3) := by decide +kernel
theorem dX6_layBest_100 : decode cX6_layBest 100 = .ok (.aload_n 0, 1) := by decide +kernel
theorem dX6_layBest_101 : decode cX6_layBest 101 = .ok (.aload_n 0, 1) := by decide +kernel
theorem dX6_layBest_102 : decode cX6_layBest 102 = .ok (.invokevirtual 152, 3) := by decide +kernel
theorem dX6_layBest_105 : decode cX6_layBest 105 = .ok (.putfield 179, 3) := by decide +kernel
theorem dX6_layBest_108 : decode cX6_layBest 108 = .ok (.aload_n 0, 1) := by decide +kernel
theorem dX6_layBest_109 : decode cX6_layBest 109 = .ok (.aload_n 0, 1) := by decide +kernel
theorem dX6_layBest_110 : decode cX6_layBest 110 = .ok (.getfield 117, 3) := by decide +kernel
theorem dX6_layBest_113 : decode cX6_layBest 113 = .ok (.i2l, 1) := by decide +kernel
theorem dX6_layBest_114 : decode cX6_layBest 114 = .ok (.aload_n 0, 1) := by decide +kernel
theorem dX6_layBest_115 : decode cX6_layBest 115 = .ok (.getfield 120, 3) := by decide +kernel
theorem dX6_layBest_118 : decode cX6_layBest 118 = .ok (.i2l, 1) := by decide +kernel
theorem dX6_layBest_119 : decode cX6_layBest 119 = .ok (.lmul, 1) := by decide +kernel
theorem dX6_layBest_120 : decode cX6_layBest 120 = .ok (.putfield 175, 3) := by decide +kernel
theorem dX6_layBest_123 : decode cX6_layBest 123 = .ok (.iinc 3 1, 3) := by decide +kernel
theorem dX6_layBest_126 : decode cX6_layBest 126 = .ok (.goto (-118), 3) := by decide +kernel
theorem dX6_layBest_129 : decode cX6_layBest 129 = .ok (.return_, 1) := by decide +kernel
theorem dX6_bestNow_0 : decode cX6_bestNow 0 = .ok (.aload_n 0, 1) := by decide +kernel
theorem dX6_bestNow_1 : decode cX6_bestNow 1 = .ok (.getfield 172, 3) := by decide +kernel
theorem dX6_bestNow_4 : decode cX6_bestNow 4 = .ok (.ldc 32, 2) := by decide +kernel
theorem dX6_bestNow_6 : decode cX6_bestNow 6 = .ok (.if_icmp .ne 6, 3) := by decide +kernel
theorem dX6_bestNow_9 : decode cX6_bestNow 9 = .ok (.ldc 32, 2) := by decide +kernel
theorem dX6_bestNow_11 : decode cX6_bestNow 11 = .ok (.ireturn, 1) := by decide +kernel
theorem dX6_bestNow_12 : decode cX6_bestNow 12 = .ok (.iload_n 1, 1) := by decide +kernel
theorem dX6_bestNow_13 : decode cX6_bestNow 13 = .ok (.ifCond .ne 10, 3) := by decide +kernel
theorem dX6_bestNow_16 : decode cX6_bestNow 16 = .ok (.aload_n 0, 1) := by decide +kernel
theorem dX6_bestNow_17 : decode cX6_bestNow 17 = .ok (.getfield 172, 3) := by decide +kernel
theorem dX6_bestNow_20 : decode cX6_bestNow 20 = .ok (.goto 41, 3) := by decide +kernel
theorem dX6_bestNow_23 : decode cX6_bestNow 23 = .ok (.iload_n 1, 1) := by decide +kernel
theorem dX6_bestNow_24 : decode cX6_bestNow 24 = .ok (.iconst 1, 1) := by decide +kernel
theorem dX6_bestNow_25 : decode cX6_bestNow 25 = .ok (.if_icmp .ne 10, 3) := by decide +kernel
theorem dX6_bestNow_28 : decode cX6_bestNow 28 = .ok (.aload_n 0, 1) := by decide +kernel
theorem dX6_bestNow_29 : decode cX6_bestNow 29 = .ok (.getfield 182, 3) := by decide +kernel
theorem dX6_bestNow_32 : decode cX6_bestNow 32 = .ok (.goto 29, 3) := by decide +kernel
theorem dX6_bestNow_35 : decode cX6_bestNow 35 = .ok (.iload_n 1, 1) := by decide +kernel
theorem dX6_bestNow_36 : decode cX6_bestNow 36 = .ok (.iconst 2, 1) := by decide +kernel
theorem dX6_bestNow_37 : decode cX6_bestNow 37 = .ok (.if_icmp .ne 10, 3) := by decide +kernel
theorem dX6_bestNow_40 : decode cX6_bestNow 40 = .ok (.aload_n 0, 1) := by decide +kernel
theorem dX6_bestNow_41 : decode cX6_bestNow 41 = .ok (.getfield 185, 3) := by decide +kernel
theorem dX6_bestNow_44 : decode cX6_bestNow 44 = .ok (.goto 17, 3) := by decide +kernel
theorem dX6_bestNow_47 : decode cX6_bestNow 47 = .ok (.aload_n 0, 1) := by decide +kernel
theorem dX6_bestNow_48 : decode cX6_bestNow 48 = .ok (.getfield 179, 3) := by decide +kernel
theorem dX6_bestNow_51 : decode cX6_bestNow 51 = .ok (.aload_n 0, 1) := by decide +kernel
theorem dX6_bestNow_52 : decode cX6_bestNow 52 = .ok (.getfield 175, 3) := by decide +kernel
theorem dX6_bestNow_55 : decode cX6_bestNow 55 = .ok (.iload_n 1, 1) := by decide +kernel
theorem dX6_bestNow_56 : decode cX6_bestNow 56 = .ok (.iconst 3, 1) := by decide +kernel
theorem dX6_bestNow_57 : decode cX6_bestNow 57 = .ok (.isub, 1) := by decide +kernel
theorem dX6_bestNow_58 : decode cX6_bestNow 58 = .ok (.invokestatic 145, 3) := by decide +kernel
theorem dX6_bestNow_61 : decode cX6_bestNow 61 = .ok (.ireturn, 1) := by decide +kernel
theorem dX6_best_0 : decode cX6_best 0 = .ok (.aload_n 0, 1) := by decide +kernel
theorem dX6_best_1 : decode cX6_best 1 = .ok (.iload_n 1, 1) := by decide +kernel
theorem dX6_best_2 : decode cX6_best 2 = .ok (.invokevirtual 65, 3) := by decide +kernel
theorem dX6_best_5 : decode cX6_best 5 = .ok (.ifCond .ne 6, 3) := by decide +kernel
theorem dX6_best_8 : decode cX6_best 8 = .ok (.ldc 68, 2) := by decide +kernel
theorem dX6_best_10 : decode cX6_best 10 = .ok (.ireturn, 1) := by decide +kernel
theorem dX6_best_11 : decode cX6_best 11 = .ok (.iload_n 2, 1) := by decide +kernel
theorem dX6_best_12 : decode cX6_best 12 = .ok (.iconst 0, 1) := by decide +kernel
theorem dX6_best_13 : decode cX6_best 13 = .ok (.bipush 99, 2) := by decide +kernel
theorem dX6_best_15 : decode cX6_best 15 = .ok (.invokestatic 22, 3) := by decide +kernel
theorem dX6_best_18 : decode cX6_best 18 = .ok (.ifCond .eq 12, 3) := by decide +kernel
theorem dX6_best_21 : decode cX6_best 21 = .ok (.iload_n 3, 1) := by decide +kernel
theorem dX6_best_22 : decode cX6_best 22 = .ok (.iconst 0, 1) := by decide +kernel
theorem dX6_best_23 : decode cX6_best 23 = .ok (.iconst 4, 1) := by decide +kernel
theorem dX6_best_24 : decode cX6_best 24 = .ok (.invokestatic 22, 3) := by decide +kernel
theorem dX6_best_27 : decode cX6_best 27 = .ok (.ifCond .ne 6, 3) := by decide +kernel
theorem dX6_best_30 : decode cX6_best 30 = .ok (.ldc 26, 2) := by decide +kernel
theorem dX6_best_32 : decode cX6_best 32 = .ok (.ireturn, 1) := by decide +kernel
theorem dX6_best_33 : decode cX6_best 33 = .ok (.aload_n 0, 1) := by decide +kernel
theorem dX6_best_34 : decode cX6_best 34 = .ok (.iload_n 1, 1) := by decide +kernel
theorem dX6_best_35 : decode cX6_best 35 = .ok (.iload_n 2, 1) := by decide +kernel
theorem dX6_best_36 : decode cX6_best 36 = .ok (.invokevirtual 191, 3) := by decide +kernel
theorem dX6_best_39 : decode cX6_best 39 = .ok (.aload_n 0, 1) := by decide +kernel
theorem dX6_best_40 : decode cX6_best 40 = .ok (.iload_n 3, 1) := by decide +kernel
theorem dX6_best_41 : decode cX6_best 41 = .ok (.invokevirtual 194, 3) := by decide +kernel
theorem dX6_best_44 : decode cX6_best 44 = .ok (.ireturn, 1) := by decide +kernel
theorem dX6_fieldAt_0 : decode cX6_fieldAt 0 = .ok (.iconst 0, 1) := by decide +kernel
theorem dX6_fieldAt_1 : decode cX6_fieldAt 1 = .ok (.istore 7, 2) := by decide +kernel
theorem dX6_fieldAt_3 : decode cX6_fieldAt 3 = .ok (.iconst 0, 1) := by decide +kernel
theorem dX6_fieldAt_4 : decode cX6_fieldAt 4 = .ok (.istore 8, 2) := by decide +kernel
theorem dX6_fieldAt_6 : decode cX6_fieldAt 6 = .ok (.iload 8, 2) := by decide +kernel
theorem dX6_fieldAt_8 : decode cX6_fieldAt 8 = .ok (.bipush 9, 2) := by decide +kernel
theorem dX6_fieldAt_10 : decode cX6_fieldAt 10 = .ok (.if_icmp .ge 52, 3) := by decide +kernel
theorem dX6_fieldAt_13 : decode cX6_fieldAt 13 = .ok (.iload 7, 2) := by decide +kernel
theorem dX6_fieldAt_15 : decode cX6_fieldAt 15 = .ok (.iload 4, 2) := by decide +kernel
theorem dX6_fieldAt_17 : decode cX6_fieldAt 17 = .ok (.iload 8, 2) := by decide +kernel
theorem dX6_fieldAt_19 : decode cX6_fieldAt 19 = .ok (.ishr, 1) := by decide +kernel
theorem dX6_fieldAt_20 : decode cX6_fieldAt 20 = .ok (.iconst 1, 1) := by decide +kernel
theorem dX6_fieldAt_21 : decode cX6_fieldAt 21 = .ok (.iand, 1) := by decide +kernel
theorem dX6_fieldAt_22 : decode cX6_fieldAt 22 = .ok (.iconst 1, 1) := by decide +kernel
theorem dX6_fieldAt_23 : decode cX6_fieldAt 23 = .ok (.if_icmp .ne 29, 3) := by decide +kernel
theorem dX6_fieldAt_26 : decode cX6_fieldAt 26 = .ok (.aload_n 0, 1) := by decide +kernel
theorem dX6_fieldAt_27 : decode cX6_fieldAt 27 = .ok (.iload_n 1, 1) := by decide +kernel
theorem dX6_fieldAt_28 : decode cX6_fieldAt 28 = .ok (.iload 5, 2) := by decide +kernel
theorem dX6_fieldAt_30 : decode cX6_fieldAt 30 = .ok (.iload 8, 2) := by decide +kernel
theorem dX6_fieldAt_32 : decode cX6_fieldAt 32 = .ok (.iconst 3, 1) := by decide +kernel
theorem dX6_fieldAt_33 : decode cX6_fieldAt 33 = .ok (.irem, 1) := by decide +kernel
theorem dX6_fieldAt_34 : decode cX6_fieldAt 34 = .ok (.iload_n 2, 1) := by decide +kernel
theorem dX6_fieldAt_35 : decode cX6_fieldAt 35 = .ok (.imul, 1) := by decide +kernel
theorem dX6_fieldAt_36 : decode cX6_fieldAt 36 = .ok (.isub, 1) := by decide +kernel
theorem dX6_fieldAt_37 : decode cX6_fieldAt 37 = .ok (.iload 6, 2) := by decide +kernel
theorem dX6_fieldAt_39 : decode cX6_fieldAt 39 = .ok (.iload 8, 2) := by decide +kernel
theorem dX6_fieldAt_41 : decode cX6_fieldAt 41 = .ok (.iconst 3, 1) := by decide +kernel
theorem dX6_fieldAt_42 : decode cX6_fieldAt 42 = .ok (.idiv, 1) := by decide +kernel
theorem dX6_fieldAt_43 : decode cX6_fieldAt 43 = .ok (.iload_n 3, 1) := by decide +kernel
theorem dX6_fieldAt_44 : decode cX6_fieldAt 44 = .ok (.imul, 1) := by decide +kernel
theorem dX6_fieldAt_45 : decode cX6_fieldAt 45 = .ok (.isub, 1) := by decide +kernel
theorem dX6_fieldAt_46 : decode cX6_fieldAt 46 = .ok (.invokevirtual 76, 3) := by decide +kernel
theorem dX6_fieldAt_49 : decode cX6_fieldAt 49 = .ok (.goto 4, 3) := by decide +kernel
theorem dX6_fieldAt_52 : decode cX6_fieldAt 52 = .ok (.iconst 0, 1) := by decide +kernel
theorem dX6_fieldAt_53 : decode cX6_fieldAt 53 = .ok (.iadd, 1) := by decide +kernel
theorem dX6_fieldAt_54 : decode cX6_fieldAt 54 = .ok (.istore 7, 2) := by decide +kernel
theorem dX6_fieldAt_56 : decode cX6_fieldAt 56 = .ok (.iinc 8 1, 3) := by decide +kernel
theorem dX6_fieldAt_59 : decode cX6_fieldAt 59 = .ok (.goto (-53), 3) := by decide +kernel
theorem dX6_fieldAt_62 : decode cX6_fieldAt 62 = .ok (.iload 7, 2) := by decide +kernel
theorem dX6_fieldAt_64 : decode cX6_fieldAt 64 = .ok (.ireturn, 1) := by decide +kernel
theorem dX6_layField_0 : decode cX6_layField 0 = .ok (.aload_n 0, 1) := by decide +kernel
theorem dX6_layField_1 : decode cX6_layField 1 = .ok (.invokevirtual 123, 3) := by decide +kernel
theorem dX6_layField_4 : decode cX6_layField 4 = .ok (.iconst 0, 1) := by decide +kernel
theorem dX6_layField_5 : decode cX6_layField 5 = .ok (.istore 7, 2) := by decide +kernel
theorem dX6_layField_7 : decode cX6_layField 7 = .ok (.iload 7, 2) := by decide +kernel
theorem dX6_layField_9 : decode cX6_layField 9 = .ok (.iload 5, 2) := by decide +kernel
theorem dX6_layField_11 : decode cX6_layField 11 = .ok (.iconst 1, 1) := by decide +kernel
theorem dX6_layField_12 : decode cX6_layField 12 = .ok (.isub, 1) := by decide +kernel
theorem dX6_layField_13 : decode cX6_layField 13 = .ok (.iload_n 3, 1) := by decide +kernel
theorem dX6_layField_14 : decode cX6_layField 14 = .ok (.imul, 1) := by decide +kernel
theorem dX6_layField_15 : decode cX6_layField 15 = .ok (.if_icmp .gt 46, 3) := by decide +kernel
theorem dX6_layField_18 : decode cX6_layField 18 = .ok (.iconst 0, 1) := by decide +kernel
theorem dX6_layField_19 : decode cX6_layField 19 = .ok (.istore 8, 2) := by decide +kernel
theorem dX6_layField_21 : decode cX6_layField 21 = .ok (.iload 8, 2) := by decide +kernel
theorem dX6_layField_23 : decode cX6_layField 23 = .ok (.iload 4, 2) := by decide +kernel
theorem dX6_layField_25 : decode cX6_layField 25 = .ok (.iconst 1, 1) := by decide +kernel
theorem dX6_layField_26 : decode cX6_layField 26 = .ok (.isub, 1) := by decide +kernel
theorem dX6_layField_27 : decode cX6_layField 27 = .ok (.iload_n 2, 1) := by decide +kernel
theorem dX6_layField_28 : decode cX6_layField 28 = .ok (.imul, 1) := by decide +kernel
theorem dX6_layField_29 : decode cX6_layField 29 = .ok (.if_icmp .gt 26, 3) := by decide +kernel
theorem dX6_layField_32 : decode cX6_layField 32 = .ok (.aload_n 0, 1) := by decide +kernel
theorem dX6_layField_33 : decode cX6_layField 33 = .ok (.aload_n 0, 1) := by decide +kernel
theorem dX6_layField_34 : decode cX6_layField 34 = .ok (.iload_n 1, 1) := by decide +kernel
theorem dX6_layField_35 : decode cX6_layField 35 = .ok (.iload_n 2, 1) := by decide +kernel
theorem dX6_layField_36 : decode cX6_layField 36 = .ok (.iload_n 3, 1) := by decide +kernel
theorem dX6_layField_37 : decode cX6_layField 37 = .ok (.iload 6, 2) := by decide +kernel
theorem dX6_layField_39 : decode cX6_layField 39 = .ok (.iload 8, 2) := by decide +kernel
theorem dX6_layField_41 : decode cX6_layField 41 = .ok (.iload 7, 2) := by decide +kernel
theorem dX6_layField_43 : decode cX6_layField 43 = .ok (.invokevirtual 197, 3) := by decide +kernel
theorem dX6_layField_46 : decode cX6_layField 46 = .ok (.invokevirtual 126, 3) := by decide +kernel
theorem dX6_layField_49 : decode cX6_layField 49 = .ok (.iinc 8 1, 3) := by decide +kernel
theorem dX6_layField_52 : decode cX6_layField 52 = .ok (.goto (-31), 3) := by decide +kernel
theorem dX6_layField_55 : decode cX6_layField 55 = .ok (.iinc 7 1, 3) := by decide +kernel
theorem dX6_layField_58 : decode cX6_layField 58 = .ok (.goto (-51), 3) := by decide +kernel
theorem dX6_layField_61 : decode cX6_layField 61 = .ok (.return_, 1) := by decide +kernel
theorem dX6_driest_0 : decode cX6_driest 0 = .ok (.iconst 0, 1) := by decide +kernel
theorem dX6_driest_1 : decode cX6_driest 1 = .ok (.istore_n 1, 1) := by decide +kernel
theorem dX6_driest_2 : decode cX6_driest 2 = .ok (.iconst 1, 1) := by decide +kernel
theorem dX6_driest_3 : decode cX6_driest 3 = .ok (.istore_n 2, 1) := by decide +kernel
theorem dX6_driest_4 : decode cX6_driest 4 = .ok (.iload_n 2, 1) := by decide +kernel
theorem dX6_driest_5 : decode cX6_driest 5 = .ok (.aload_n 0, 1) := by decide +kernel
theorem dX6_driest_6 : decode cX6_driest 6 = .ok (.getfield 117, 3) := by decide +kernel
theorem dX6_driest_9 : decode cX6_driest 9 = .ok (.if_icmp .ge 30, 3) := by decide +kernel
theorem dX6_driest_12 : decode cX6_driest 12 = .ok (.aload_n 0, 1) := by decide +kernel
theorem dX6_driest_13 : decode cX6_driest 13 = .ok (.getfield 19, 3) := by decide +kernel
theorem dX6_driest_16 : decode cX6_driest 16 = .ok (.iload_n 2, 1) := by decide +kernel
theorem dX6_driest_17 : decode cX6_driest 17 = .ok (.iaload, 1) := by decide +kernel
theorem dX6_driest_18 : decode cX6_driest 18 = .ok (.aload_n 0, 1) := by decide +kernel
theorem dX6_driest_19 : decode cX6_driest 19 = .ok (.getfield 19, 3) := by decide +kernel
theorem dX6_driest_22 : decode cX6_driest 22 = .ok (.iload_n 1, 1) := by decide +kernel
theorem dX6_driest_23 : decode cX6_driest 23 = .ok (.iaload, 1) := by decide +kernel
theorem dX6_driest_24 : decode cX6_driest 24 = .ok (.if_icmp .ge 7, 3) := by decide +kernel
theorem dX6_driest_27 : decode cX6_driest 27 = .ok (.iload_n 2, 1) := by decide +kernel
theorem dX6_driest_28 : decode cX6_driest 28 = .ok (.goto 4, 3) := by decide +kernel
theorem dX6_driest_31 : decode cX6_driest 31 = .ok (.iload_n 1, 1) := by decide +kernel
theorem dX6_driest_32 : decode cX6_driest 32 = .ok (.istore_n 1, 1) := by decide +kernel
theorem dX6_driest_33 : decode cX6_driest 33 = .ok (.iinc 2 1, 3) := by decide +kernel
theorem dX6_driest_36 : decode cX6_driest 36 = .ok (.goto (-32), 3) := by decide +kernel
theorem dX6_driest_39 : decode cX6_driest 39 = .ok (.iload_n 1, 1) := by decide +kernel
theorem dX6_driest_40 : decode cX6_driest 40 = .ok (.ireturn, 1) := by decide +kernel
theorem dX6_missedOf_0 : decode cX6_missedOf 0 = .ok (.ldc 32, 2) := by decide +kernel
theorem dX6_missedOf_2 : decode cX6_missedOf 2 = .ok (.istore 8, 2) := by decide +kernel
theorem dX6_missedOf_4 : decode cX6_missedOf 4 = .ok (.ldc 32, 2) := by decide +kernel
theorem dX6_missedOf_6 : decode cX6_missedOf 6 = .ok (.istore 9, 2) := by decide +kernel
theorem dX6_missedOf_8 : decode cX6_missedOf 8 = .ok (.iconst 0, 1) := by decide +kernel
theorem dX6_missedOf_9 : decode cX6_missedOf 9 = .ok (.istore 10, 2) := by decide +kernel
theorem dX6_missedOf_11 : decode cX6_missedOf 11 = .ok (.iload 10, 2) := by decide +kernel
theorem dX6_missedOf_13 : decode cX6_missedOf 13 = .ok (.bipush 9, 2) := by decide +kernel
theorem dX6_missedOf_15 : decode cX6_missedOf 15 = .ok (.if_icmp .ge 93, 3) := by decide +kernel
theorem dX6_missedOf_18 : decode cX6_missedOf 18 = .ok (.iload 6, 2) := by decide +kernel
theorem dX6_missedOf_20 : decode cX6_missedOf 20 = .ok (.iload 10, 2) := by decide +kernel
theorem dX6_missedOf_22 : decode cX6_missedOf 22 = .ok (.ishr, 1) := by decide +kernel
theorem dX6_missedOf_23 : decode cX6_missedOf 23 = .ok (.iconst 1, 1) := by decide +kernel
theorem dX6_missedOf_24 : decode cX6_missedOf 24 = .ok (.iand, 1) := by decide +kernel
theorem dX6_missedOf_25 : decode cX6_missedOf 25 = .ok (.iconst 1, 1) := by decide +kernel
theorem dX6_missedOf_26 : decode cX6_missedOf 26 = .ok (.if_icmp .ne 76, 3) := by decide +kernel
theorem dX6_missedOf_29 : decode cX6_missedOf 29 = .ok (.aload_n 0, 1) := by decide +kernel
theorem dX6_missedOf_30 : decode cX6_missedOf 30 = .ok (.iload_n 1, 1) := by decide +kernel
theorem dX6_missedOf_31 : decode cX6_missedOf 31 = .ok (.iload_n 2, 1) := by decide +kernel
theorem dX6_missedOf_32 : decode cX6_missedOf 32 = .ok (.iload_n 3, 1) := by decide +kernel
theorem dX6_missedOf_33 : decode cX6_missedOf 33 = .ok (.iload 4, 2) := by decide +kernel
theorem dX6_missedOf_35 : decode cX6_missedOf 35 = .ok (.iload 5, 2) := by decide +kernel
theorem dX6_missedOf_37 : decode cX6_missedOf 37 = .ok (.iload 6, 2) := by decide +kernel
theorem dX6_missedOf_39 : decode cX6_missedOf 39 = .ok (.iconst 1, 1) := by decide +kernel
theorem dX6_missedOf_40 : decode cX6_missedOf 40 = .ok (.iload 10, 2) := by decide +kernel
theorem dX6_missedOf_42 : decode cX6_missedOf 42 = .ok (.ishl, 1) := by decide +kernel
theorem dX6_missedOf_43 : decode cX6_missedOf 43 = .ok (.iconst (-1), 1) := by decide +kernel
theorem dX6_missedOf_44 : decode cX6_missedOf 44 = .ok (.ixor, 1) := by decide +kernel
theorem dX6_missedOf_45 : decode cX6_missedOf 45 = .ok (.iand, 1) := by decide +kernel
theorem dX6_missedOf_46 : decode cX6_missedOf 46 = .ok (.invokevirtual 200, 3) := by decide +kernel
theorem dX6_missedOf_49 : decode cX6_missedOf 49 = .ok (.iload 8, 2) := by decide +kernel
theorem dX6_missedOf_51 : decode cX6_missedOf 51 = .ok (.ldc 32, 2) := by decide +kernel
theorem dX6_missedOf_53 : decode cX6_missedOf 53 = .ok (.if_icmp .eq 12, 3) := by decide +kernel
theorem dX6_missedOf_56 : decode cX6_missedOf 56 = .ok (.aload_n 0, 1) := by decide +kernel
theorem dX6_missedOf_57 : decode cX6_missedOf 57 = .ok (.getfield 120, 3) := by decide +kernel
theorem dX6_missedOf_60 : decode cX6_missedOf 60 = .ok (.iload 9, 2) := by decide +kernel
theorem dX6_missedOf_62 : decode cX6_missedOf 62 = .ok (.if_icmp .ge 7, 3) := by decide +kernel
theorem dX6_missedOf_65 : decode cX6_missedOf 65 = .ok (.iconst 1, 1) := by decide +kernel
theorem dX6_missedOf_66 : decode cX6_missedOf 66 = .ok (.goto 4, 3) := by decide +kernel
theorem dX6_missedOf_69 : decode cX6_missedOf 69 = .ok (.iconst 0, 1) := by decide +kernel
theorem dX6_missedOf_70 : decode cX6_missedOf 70 = .ok (.istore 11, 2) := by decide +kernel
theorem dX6_missedOf_72 : decode cX6_missedOf 72 = .ok (.iload 11, 2) := by decide +kernel
theorem dX6_missedOf_74 : decode cX6_missedOf 74 = .ok (.ifCond .eq 8, 3) := by decide +kernel
theorem dX6_missedOf_77 : decode cX6_missedOf 77 = .ok (.iload 10, 2) := by decide +kernel
theorem dX6_missedOf_79 : decode cX6_missedOf 79 = .ok (.goto 5, 3) := by decide +kernel
theorem dX6_missedOf_82 : decode cX6_missedOf 82 = .ok (.iload 8, 2) := by decide +kernel
theorem dX6_missedOf_84 : decode cX6_missedOf 84 = .ok (.istore 8, 2) := by decide +kernel
theorem dX6_missedOf_86 : decode cX6_missedOf 86 = .ok (.iload 11, 2) := by decide +kernel
theorem dX6_missedOf_88 : decode cX6_missedOf 88 = .ok (.ifCond .eq 10, 3) := by decide +kernel
theorem dX6_missedOf_91 : decode cX6_missedOf 91 = .ok (.aload_n 0, 1) := by decide +kernel
theorem dX6_missedOf_92 : decode cX6_missedOf 92 = .ok (.getfield 120, 3) := by decide +kernel
theorem dX6_missedOf_95 : decode cX6_missedOf 95 = .ok (.goto 5, 3) := by decide +kernel
theorem dX6_missedOf_98 : decode cX6_missedOf 98 = .ok (.iload 9, 2) := by decide +kernel
theorem dX6_missedOf_100 : decode cX6_missedOf 100 = .ok (.istore 9, 2) := by decide +kernel
theorem dX6_missedOf_102 : decode cX6_missedOf 102 = .ok (.iinc 10 1, 3) := by decide +kernel
theorem dX6_missedOf_105 : decode cX6_missedOf 105 = .ok (.goto (-94), 3) := by decide +kernel
theorem dX6_missedOf_108 : decode cX6_missedOf 108 = .ok (.iload 7, 2) := by decide +kernel
theorem dX6_missedOf_110 : decode cX6_missedOf 110 = .ok (.ifCond .eq 8, 3) := by decide +kernel
theorem dX6_missedOf_113 : decode cX6_missedOf 113 = .ok (.iload 9, 2) := by decide +kernel
theorem dX6_missedOf_115 : decode cX6_missedOf 115 = .ok (.goto 5, 3) := by decide +kernel
theorem dX6_missedOf_118 : decode cX6_missedOf 118 = .ok (.iload 8, 2) := by decide +kernel
theorem dX6_missedOf_120 : decode cX6_missedOf 120 = .ok (.ireturn, 1) := by decide +kernel
theorem dX6_allOf_0 : decode cX6_allOf 0 = .ok (.iconst 0, 1) := by decide +kernel
theorem dX6_allOf_1 : decode cX6_allOf 1 = .ok (.istore_n 2, 1) := by decide +kernel
theorem dX6_allOf_2 : decode cX6_allOf 2 = .ok (.iconst 0, 1) := by decide +kernel
theorem dX6_allOf_3 : decode cX6_allOf 3 = .ok (.istore_n 3, 1) := by decide +kernel
theorem dX6_allOf_4 : decode cX6_allOf 4 = .ok (.iload_n 3, 1) := by decide +kernel
theorem dX6_allOf_5 : decode cX6_allOf 5 = .ok (.bipush 9, 2) := by decide +kernel
theorem dX6_allOf_7 : decode cX6_allOf 7 = .ok (.if_icmp .ge 33, 3) := by decide +kernel
theorem dX6_allOf_10 : decode cX6_allOf 10 = .ok (.iload_n 2, 1) := by decide +kernel
theorem dX6_allOf_11 : decode cX6_allOf 11 = .ok (.iload_n 3, 1) := by decide +kernel
theorem dX6_allOf_12 : decode cX6_allOf 12 = .ok (.iconst 3, 1) := by decide +kernel
theorem dX6_allOf_13 : decode cX6_allOf 13 = .ok (.irem, 1) := by decide +kernel
theorem dX6_allOf_14 : decode cX6_allOf 14 = .ok (.iload_n 0, 1) := by decide +kernel
theorem dX6_allOf_15 : decode cX6_allOf 15 = .ok (.if_icmp .ge 16, 3) := by decide +kernel
theorem dX6_allOf_18 : decode cX6_allOf 18 = .ok (.iload_n 3, 1) := by decide +kernel
theorem dX6_allOf_19 : decode cX6_allOf 19 = .ok (.iconst 3, 1) := by decide +kernel
theorem dX6_allOf_20 : decode cX6_allOf 20 = .ok (.idiv, 1) := by decide +kernel
theorem dX6_allOf_21 : decode cX6_allOf 21 = .ok (.iload_n 1, 1) := by decide +kernel
theorem dX6_allOf_22 : decode cX6_allOf 22 = .ok (.if_icmp .ge 9, 3) := by decide +kernel
theorem dX6_allOf_25 : decode cX6_allOf 25 = .ok (.iconst 1, 1) := by decide +kernel
theorem dX6_allOf_26 : decode cX6_allOf 26 = .ok (.iload_n 3, 1) := by decide +kernel
theorem dX6_allOf_27 : decode cX6_allOf 27 = .ok (.ishl, 1) := by decide +kernel
theorem dX6_allOf_28 : decode cX6_allOf 28 = .ok (.goto 4, 3) := by decide +kernel
theorem dX6_allOf_31 : decode cX6_allOf 31 = .ok (.iconst 0, 1) := by decide +kernel
theorem dX6_allOf_32 : decode cX6_allOf 32 = .ok (.ior, 1) := by decide +kernel
theorem dX6_allOf_33 : decode cX6_allOf 33 = .ok (.istore_n 2, 1) := by decide +kernel
theorem dX6_allOf_34 : decode cX6_allOf 34 = .ok (.iinc 3 1, 3) := by decide +kernel
theorem dX6_allOf_37 : decode cX6_allOf 37 = .ok (.goto (-33), 3) := by decide +kernel
theorem dX6_allOf_40 : decode cX6_allOf 40 = .ok (.iload_n 2, 1) := by decide +kernel
theorem dX6_allOf_41 : decode cX6_allOf 41 = .ok (.ireturn, 1) := by decide +kernel
theorem dX6_fieldNow_0 : decode cX6_fieldNow 0 = .ok (.iload 7, 2) := by decide +kernel
theorem dX6_fieldNow_2 : decode cX6_fieldNow 2 = .ok (.bipush 9, 2) := by decide +kernel
theorem dX6_fieldNow_4 : decode cX6_fieldNow 4 = .ok (.if_icmp .le 29, 3) := by decide +kernel
theorem dX6_fieldNow_7 : decode cX6_fieldNow 7 = .ok (.aload_n 0, 1) := by decide +kernel
theorem dX6_fieldNow_8 : decode cX6_fieldNow 8 = .ok (.iload_n 1, 1) := by decide +kernel
theorem dX6_fieldNow_9 : decode cX6_fieldNow 9 = .ok (.iload_n 2, 1) := by decide +kernel
theorem dX6_fieldNow_10 : decode cX6_fieldNow 10 = .ok (.iload_n 3, 1) := by decide +kernel
theorem dX6_fieldNow_11 : decode cX6_fieldNow 11 = .ok (.iload 4, 2) := by decide +kernel
theorem dX6_fieldNow_13 : decode cX6_fieldNow 13 = .ok (.iload 5, 2) := by decide +kernel
theorem dX6_fieldNow_15 : decode cX6_fieldNow 15 = .ok (.iload 6, 2) := by decide +kernel
theorem dX6_fieldNow_17 : decode cX6_fieldNow 17 = .ok (.iload 7, 2) := by decide +kernel
theorem dX6_fieldNow_19 : decode cX6_fieldNow 19 = .ok (.bipush 11, 2) := by decide +kernel
theorem dX6_fieldNow_21 : decode cX6_fieldNow 21 = .ok (.if_icmp .ne 7, 3) := by decide +kernel
theorem dX6_fieldNow_24 : decode cX6_fieldNow 24 = .ok (.iconst 1, 1) := by decide +kernel
theorem dX6_fieldNow_25 : decode cX6_fieldNow 25 = .ok (.goto 4, 3) := by decide +kernel
theorem dX6_fieldNow_28 : decode cX6_fieldNow 28 = .ok (.iconst 0, 1) := by decide +kernel
theorem dX6_fieldNow_29 : decode cX6_fieldNow 29 = .ok (.invokevirtual 204, 3) := by decide +kernel
theorem dX6_fieldNow_32 : decode cX6_fieldNow 32 = .ok (.ireturn, 1) := by decide +kernel
theorem dX6_fieldNow_33 : decode cX6_fieldNow 33 = .ok (.aload_n 0, 1) := by decide +kernel
theorem dX6_fieldNow_34 : decode cX6_fieldNow 34 = .ok (.iload_n 1, 1) := by decide +kernel
theorem dX6_fieldNow_35 : decode cX6_fieldNow 35 = .ok (.iload_n 2, 1) := by decide +kernel
theorem dX6_fieldNow_36 : decode cX6_fieldNow 36 = .ok (.iload_n 3, 1) := by decide +kernel
theorem dX6_fieldNow_37 : decode cX6_fieldNow 37 = .ok (.iload 4, 2) := by decide +kernel
theorem dX6_fieldNow_39 : decode cX6_fieldNow 39 = .ok (.iload 5, 2) := by decide +kernel
theorem dX6_fieldNow_41 : decode cX6_fieldNow 41 = .ok (.iload 6, 2) := by decide +kernel
theorem dX6_fieldNow_43 : decode cX6_fieldNow 43 = .ok (.invokevirtual 200, 3) := by decide +kernel
theorem dX6_fieldNow_46 : decode cX6_fieldNow 46 = .ok (.iload 4, 2) := by decide +kernel
theorem dX6_fieldNow_48 : decode cX6_fieldNow 48 = .ok (.iconst 1, 1) := by decide +kernel
theorem dX6_fieldNow_49 : decode cX6_fieldNow 49 = .ok (.isub, 1) := by decide +kernel
theorem dX6_fieldNow_50 : decode cX6_fieldNow 50 = .ok (.iload_n 2, 1) := by decide +kernel
theorem dX6_fieldNow_51 : decode cX6_fieldNow 51 = .ok (.imul, 1) := by decide +kernel
theorem dX6_fieldNow_52 : decode cX6_fieldNow 52 = .ok (.iconst 1, 1) := by decide +kernel
theorem dX6_fieldNow_53 : decode cX6_fieldNow 53 = .ok (.iadd, 1) := by decide +kernel
theorem dX6_fieldNow_54 : decode cX6_fieldNow 54 = .ok (.istore 8, 2) := by decide +kernel
theorem dX6_fieldNow_56 : decode cX6_fieldNow 56 = .ok (.iload 7, 2) := by decide +kernel
theorem dX6_fieldNow_58 : decode cX6_fieldNow 58 = .ok (.bipush 8, 2) := by decide +kernel
theorem dX6_fieldNow_60 : decode cX6_fieldNow 60 = .ok (.if_icmp .ge 12, 3) := by decide +kernel
theorem dX6_fieldNow_63 : decode cX6_fieldNow 63 = .ok (.aload_n 0, 1) := by decide +kernel
theorem dX6_fieldNow_64 : decode cX6_fieldNow 64 = .ok (.iload 7, 2) := by decide +kernel
theorem dX6_fieldNow_66 : decode cX6_fieldNow 66 = .ok (.invokevirtual 162, 3) := by decide +kernel
theorem dX6_fieldNow_69 : decode cX6_fieldNow 69 = .ok (.goto 27, 3) := by decide +kernel
theorem dX6_fieldNow_72 : decode cX6_fieldNow 72 = .ok (.iload 7, 2) := by decide +kernel
theorem dX6_fieldNow_74 : decode cX6_fieldNow 74 = .ok (.bipush 8, 2) := by decide +kernel
theorem dX6_fieldNow_76 : decode cX6_fieldNow 76 = .ok (.if_icmp .ne 13, 3) := by decide +kernel
theorem dX6_fieldNow_79 : decode cX6_fieldNow 79 = .ok (.aload_n 0, 1) := by decide +kernel
theorem dX6_fieldNow_80 : decode cX6_fieldNow 80 = .ok (.invokevirtual 208, 3) := by decide +kernel
theorem dX6_fieldNow_83 : decode cX6_fieldNow 83 = .ok (.iload 8, 2) := by decide +kernel
theorem dX6_fieldNow_85 : decode cX6_fieldNow 85 = .ok (.irem, 1) := by decide +kernel
theorem dX6_fieldNow_86 : decode cX6_fieldNow 86 = .ok (.goto 10, 3) := by decide +kernel
theorem dX6_fieldNow_89 : decode cX6_fieldNow 89 = .ok (.aload_n 0, 1) := by decide +kernel
theorem dX6_fieldNow_90 : decode cX6_fieldNow 90 = .ok (.invokevirtual 208, 3) := by decide +kernel
theorem dX6_fieldNow_93 : decode cX6_fieldNow 93 = .ok (.iload 8, 2) := by decide +kernel
theorem dX6_fieldNow_95 : decode cX6_fieldNow 95 = .ok (.idiv, 1) := by decide +kernel
theorem dX6_fieldNow_96 : decode cX6_fieldNow 96 = .ok (.ireturn, 1) := by decide +kernel
theorem dX6_field_0 : decode cX6_field 0 = .ok (.aload_n 0, 1) := by decide +kernel
theorem dX6_field_1 : decode cX6_field 1 = .ok (.iload_n 1, 1) := by decide +kernel
theorem dX6_field_2 : decode cX6_field 2 = .ok (.invokevirtual 65, 3) := by decide +kernel
theorem dX6_field_5 : decode cX6_field 5 = .ok (.ifCond .ne 6, 3) := by decide +kernel
theorem dX6_field_8 : decode cX6_field 8 = .ok (.ldc 68, 2) := by decide +kernel
theorem dX6_field_10 : decode cX6_field 10 = .ok (.ireturn, 1) := by decide +kernel
theorem dX6_field_11 : decode cX6_field 11 = .ok (.iconst 0, 1) := by decide +kernel
theorem dX6_field_12 : decode cX6_field 12 = .ok (.iload_n 2, 1) := by decide +kernel
theorem dX6_field_13 : decode cX6_field 13 = .ok (.iload_n 3, 1) := by decide +kernel
theorem dX6_field_14 : decode cX6_field 14 = .ok (.invokestatic 110, 3) := by decide +kernel
theorem dX6_field_17 : decode cX6_field 17 = .ok (.ifCond .eq 38, 3) := by decide +kernel
theorem dX6_field_20 : decode cX6_field 20 = .ok (.iload 4, 2) := by decide +kernel
theorem dX6_field_22 : decode cX6_field 22 = .ok (.iconst 2, 1) := by decide +kernel
theorem dX6_field_23 : decode cX6_field 23 = .ok (.iconst 3, 1) := by decide +kernel
theorem dX6_field_24 : decode cX6_field 24 = .ok (.invokestatic 22, 3) := by decide +kernel
theorem dX6_field_27 : decode cX6_field 27 = .ok (.ifCond .eq 28, 3) := by decide +kernel
theorem dX6_field_30 : decode cX6_field 30 = .ok (.iload 5, 2) := by decide +kernel
theorem dX6_field_32 : decode cX6_field 32 = .ok (.iconst 2, 1) := by decide +kernel
theorem dX6_field_33 : decode cX6_field 33 = .ok (.iconst 3, 1) := by decide +kernel
theorem dX6_field_34 : decode cX6_field 34 = .ok (.invokestatic 22, 3) := by decide +kernel
theorem dX6_field_37 : decode cX6_field 37 = .ok (.ifCond .eq 18, 3) := by decide +kernel
theorem dX6_field_40 : decode cX6_field 40 = .ok (.iload 7, 2) := by decide +kernel
theorem dX6_field_42 : decode cX6_field 42 = .ok (.iconst 0, 1) := by decide +kernel
theorem dX6_field_43 : decode cX6_field 43 = .ok (.bipush 11, 2) := by decide +kernel
theorem dX6_field_45 : decode cX6_field 45 = .ok (.invokestatic 22, 3) := by decide +kernel
theorem dX6_field_48 : decode cX6_field 48 = .ok (.ifCond .eq 7, 3) := by decide +kernel
theorem dX6_field_51 : decode cX6_field 51 = .ok (.iconst 1, 1) := by decide +kernel
theorem dX6_field_52 : decode cX6_field 52 = .ok (.goto 4, 3) := by decide +kernel
theorem dX6_field_55 : decode cX6_field 55 = .ok (.iconst 0, 1) := by decide +kernel
theorem dX6_field_56 : decode cX6_field 56 = .ok (.istore 8, 2) := by decide +kernel
theorem dX6_field_58 : decode cX6_field 58 = .ok (.iload 8, 2) := by decide +kernel
theorem dX6_field_60 : decode cX6_field 60 = .ok (.ifCond .eq 18, 3) := by decide +kernel
theorem dX6_field_63 : decode cX6_field 63 = .ok (.iload 6, 2) := by decide +kernel
theorem dX6_field_65 : decode cX6_field 65 = .ok (.iload 4, 2) := by decide +kernel
theorem dX6_field_67 : decode cX6_field 67 = .ok (.iload 5, 2) := by decide +kernel
theorem dX6_field_69 : decode cX6_field 69 = .ok (.invokestatic 211, 3) := by decide +kernel
theorem dX6_field_72 : decode cX6_field 72 = .ok (.iconst (-1), 1) := by decide +kernel
theorem dX6_field_73 : decode cX6_field 73 = .ok (.ixor, 1) := by decide +kernel
theorem dX6_field_74 : decode cX6_field 74 = .ok (.iand, 1) := by decide +kernel
theorem dX6_field_75 : decode cX6_field 75 = .ok (.ifCond .eq 6, 3) := by decide +kernel
theorem dX6_field_78 : decode cX6_field 78 = .ok (.ldc 26, 2) := by decide +kernel
theorem dX6_field_80 : decode cX6_field 80 = .ok (.ireturn, 1) := by decide +kernel
theorem dX6_field_81 : decode cX6_field 81 = .ok (.aload_n 0, 1) := by decide +kernel
theorem dX6_field_82 : decode cX6_field 82 = .ok (.iload_n 1, 1) := by decide +kernel
theorem dX6_field_83 : decode cX6_field 83 = .ok (.iload_n 2, 1) := by decide +kernel
theorem dX6_field_84 : decode cX6_field 84 = .ok (.iload_n 3, 1) := by decide +kernel
theorem dX6_field_85 : decode cX6_field 85 = .ok (.iload 4, 2) := by decide +kernel
theorem dX6_field_87 : decode cX6_field 87 = .ok (.iload 5, 2) := by decide +kernel
theorem dX6_field_89 : decode cX6_field 89 = .ok (.iload 4, 2) := by decide +kernel
theorem dX6_field_91 : decode cX6_field 91 = .ok (.iload 5, 2) := by decide +kernel
theorem dX6_field_93 : decode cX6_field 93 = .ok (.invokestatic 211, 3) := by decide +kernel
theorem dX6_field_96 : decode cX6_field 96 = .ok (.iload 6, 2) := by decide +kernel
theorem dX6_field_98 : decode cX6_field 98 = .ok (.iconst (-1), 1) := by decide +kernel
theorem dX6_field_99 : decode cX6_field 99 = .ok (.ixor, 1) := by decide +kernel
theorem dX6_field_100 : decode cX6_field 100 = .ok (.iand, 1) := by decide +kernel
theorem dX6_field_101 : decode cX6_field 101 = .ok (.iload 7, 2) := by decide +kernel
theorem dX6_field_103 : decode cX6_field 103 = .ok (.invokevirtual 214, 3) := by decide +kernel
theorem dX6_field_106 : decode cX6_field 106 = .ok (.ireturn, 1) := by decide +kernel
theorem dX6_thrownAll_0 : decode cX6_thrownAll 0 = .ok (.iconst 0, 1) := by decide +kernel
theorem dX6_thrownAll_1 : decode cX6_thrownAll 1 = .ok (.istore_n 1, 1) := by decide +kernel
theorem dX6_thrownAll_2 : decode cX6_thrownAll 2 = .ok (.iconst 0, 1) := by decide +kernel
theorem dX6_thrownAll_3 : decode cX6_thrownAll 3 = .ok (.istore_n 2, 1) := by decide +kernel
theorem dX6_thrownAll_4 : decode cX6_thrownAll 4 = .ok (.iload_n 2, 1) := by decide +kernel
theorem dX6_thrownAll_5 : decode cX6_thrownAll 5 = .ok (.aload_n 0, 1) := by decide +kernel
theorem dX6_thrownAll_6 : decode cX6_thrownAll 6 = .ok (.getfield 59, 3) := by decide +kernel
theorem dX6_thrownAll_9 : decode cX6_thrownAll 9 = .ok (.if_icmp .ge 17, 3) := by decide +kernel
theorem dX6_thrownAll_12 : decode cX6_thrownAll 12 = .ok (.iload_n 1, 1) := by decide +kernel
theorem dX6_thrownAll_13 : decode cX6_thrownAll 13 = .ok (.aload_n 0, 1) := by decide +kernel
theorem dX6_thrownAll_14 : decode cX6_thrownAll 14 = .ok (.iload_n 2, 1) := by decide +kernel
theorem dX6_thrownAll_15 : decode cX6_thrownAll 15 = .ok (.invokevirtual 86, 3) := by decide +kernel
theorem dX6_thrownAll_18 : decode cX6_thrownAll 18 = .ok (.iadd, 1) := by decide +kernel
theorem dX6_thrownAll_19 : decode cX6_thrownAll 19 = .ok (.istore_n 1, 1) := by decide +kernel
theorem dX6_thrownAll_20 : decode cX6_thrownAll 20 = .ok (.iinc 2 1, 3) := by decide +kernel
theorem dX6_thrownAll_23 : decode cX6_thrownAll 23 = .ok (.goto (-19), 3) := by decide +kernel
theorem dX6_thrownAll_26 : decode cX6_thrownAll 26 = .ok (.iload_n 1, 1) := by decide +kernel
theorem dX6_thrownAll_27 : decode cX6_thrownAll 27 = .ok (.ireturn, 1) := by decide +kernel
theorem dX6_howMany_0 : decode cX6_howMany 0 = .ok (.iload_n 1, 1) := by decide +kernel
theorem dX6_howMany_1 : decode cX6_howMany 1 = .ok (.tableswitch 69 0 5 #[39, 44, 49, 54, 59, 64], 39) := by decide +kernel
theorem dX6_howMany_40 : decode cX6_howMany 40 = .ok (.aload_n 0, 1) := by decide +kernel
theorem dX6_howMany_41 : decode cX6_howMany 41 = .ok (.getfield 59, 3) := by decide +kernel
theorem dX6_howMany_44 : decode cX6_howMany 44 = .ok (.ireturn, 1) := by decide +kernel
theorem dX6_howMany_45 : decode cX6_howMany 45 = .ok (.aload_n 0, 1) := by decide +kernel
theorem dX6_howMany_46 : decode cX6_howMany 46 = .ok (.getfield 27, 3) := by decide +kernel
theorem dX6_howMany_49 : decode cX6_howMany 49 = .ok (.ireturn, 1) := by decide +kernel
theorem dX6_howMany_50 : decode cX6_howMany 50 = .ok (.aload_n 0, 1) := by decide +kernel
theorem dX6_howMany_51 : decode cX6_howMany 51 = .ok (.getfield 62, 3) := by decide +kernel
theorem dX6_howMany_54 : decode cX6_howMany 54 = .ok (.ireturn, 1) := by decide +kernel
theorem dX6_howMany_55 : decode cX6_howMany 55 = .ok (.aload_n 0, 1) := by decide +kernel
theorem dX6_howMany_56 : decode cX6_howMany 56 = .ok (.getfield 83, 3) := by decide +kernel
theorem dX6_howMany_59 : decode cX6_howMany 59 = .ok (.ireturn, 1) := by decide +kernel
theorem dX6_howMany_60 : decode cX6_howMany 60 = .ok (.aload_n 0, 1) := by decide +kernel
theorem dX6_howMany_61 : decode cX6_howMany 61 = .ok (.getfield 69, 3) := by decide +kernel
theorem dX6_howMany_64 : decode cX6_howMany 64 = .ok (.ireturn, 1) := by decide +kernel
theorem dX6_howMany_65 : decode cX6_howMany 65 = .ok (.aload_n 0, 1) := by decide +kernel
theorem dX6_howMany_66 : decode cX6_howMany 66 = .ok (.invokevirtual 217, 3) := by decide +kernel
theorem dX6_howMany_69 : decode cX6_howMany 69 = .ok (.ireturn, 1) := by decide +kernel
theorem dX6_howMany_70 : decode cX6_howMany 70 = .ok (.ldc 26, 2) := by decide +kernel
theorem dX6_howMany_72 : decode cX6_howMany 72 = .ok (.ireturn, 1) := by decide +kernel
theorem dX6_count_0 : decode cX6_count 0 = .ok (.aload_n 0, 1) := by decide +kernel
theorem dX6_count_1 : decode cX6_count 1 = .ok (.iload_n 1, 1) := by decide +kernel
theorem dX6_count_2 : decode cX6_count 2 = .ok (.invokevirtual 220, 3) := by decide +kernel
theorem dX6_count_5 : decode cX6_count 5 = .ok (.ireturn, 1) := by decide +kernel
theorem dX6_mix_0 : decode cX6_mix 0 = .ok (.aload_n 0, 1) := by decide +kernel
theorem dX6_mix_1 : decode cX6_mix 1 = .ok (.ldc2_w 223, 3) := by decide +kernel
theorem dX6_mix_4 : decode cX6_mix 4 = .ok (.aload_n 0, 1) := by decide +kernel
theorem dX6_mix_5 : decode cX6_mix 5 = .ok (.getfield 225, 3) := by decide +kernel
theorem dX6_mix_8 : decode cX6_mix 8 = .ok (.lmul, 1) := by decide +kernel
theorem dX6_mix_9 : decode cX6_mix 9 = .ok (.lload_n 1, 1) := by decide +kernel
theorem dX6_mix_10 : decode cX6_mix 10 = .ok (.ladd, 1) := by decide +kernel
theorem dX6_mix_11 : decode cX6_mix 11 = .ok (.putfield 225, 3) := by decide +kernel
theorem dX6_mix_14 : decode cX6_mix 14 = .ok (.return_, 1) := by decide +kernel
theorem dX6_mixHead_0 : decode cX6_mixHead 0 = .ok (.iconst 0, 1) := by decide +kernel
theorem dX6_mixHead_1 : decode cX6_mixHead 1 = .ok (.istore_n 2, 1) := by decide +kernel
theorem dX6_mixHead_2 : decode cX6_mixHead 2 = .ok (.iload_n 2, 1) := by decide +kernel
theorem dX6_mixHead_3 : decode cX6_mixHead 3 = .ok (.iconst 5, 1) := by decide +kernel
theorem dX6_mixHead_4 : decode cX6_mixHead 4 = .ok (.if_icmp .ge 20, 3) := by decide +kernel
theorem dX6_mixHead_7 : decode cX6_mixHead 7 = .ok (.aload_n 0, 1) := by decide +kernel
theorem dX6_mixHead_8 : decode cX6_mixHead 8 = .ok (.aload_n 0, 1) := by decide +kernel
theorem dX6_mixHead_9 : decode cX6_mixHead 9 = .ok (.iload_n 1, 1) := by decide +kernel
theorem dX6_mixHead_10 : decode cX6_mixHead 10 = .ok (.iload_n 2, 1) := by decide +kernel
theorem dX6_mixHead_11 : decode cX6_mixHead 11 = .ok (.invokevirtual 102, 3) := by decide +kernel
theorem dX6_mixHead_14 : decode cX6_mixHead 14 = .ok (.i2l, 1) := by decide +kernel
theorem dX6_mixHead_15 : decode cX6_mixHead 15 = .ok (.invokevirtual 228, 3) := by decide +kernel
theorem dX6_mixHead_18 : decode cX6_mixHead 18 = .ok (.iinc 2 1, 3) := by decide +kernel
theorem dX6_mixHead_21 : decode cX6_mixHead 21 = .ok (.goto (-19), 3) := by decide +kernel
theorem dX6_mixHead_24 : decode cX6_mixHead 24 = .ok (.aload_n 0, 1) := by decide +kernel
theorem dX6_mixHead_25 : decode cX6_mixHead 25 = .ok (.getfield 13, 3) := by decide +kernel
theorem dX6_mixHead_28 : decode cX6_mixHead 28 = .ok (.iload_n 1, 1) := by decide +kernel
theorem dX6_mixHead_29 : decode cX6_mixHead 29 = .ok (.iaload, 1) := by decide +kernel
theorem dX6_mixHead_30 : decode cX6_mixHead 30 = .ok (.iconst 1, 1) := by decide +kernel
theorem dX6_mixHead_31 : decode cX6_mixHead 31 = .ok (.isub, 1) := by decide +kernel
theorem dX6_mixHead_32 : decode cX6_mixHead 32 = .ok (.iconst 2, 1) := by decide +kernel
theorem dX6_mixHead_33 : decode cX6_mixHead 33 = .ok (.idiv, 1) := by decide +kernel
theorem dX6_mixHead_34 : decode cX6_mixHead 34 = .ok (.istore_n 2, 1) := by decide +kernel
theorem dX6_mixHead_35 : decode cX6_mixHead 35 = .ok (.iload_n 2, 1) := by decide +kernel
theorem dX6_mixHead_36 : decode cX6_mixHead 36 = .ok (.istore_n 3, 1) := by decide +kernel
theorem dX6_mixHead_37 : decode cX6_mixHead 37 = .ok (.iload_n 3, 1) := by decide +kernel
theorem dX6_mixHead_38 : decode cX6_mixHead 38 = .ok (.iload_n 2, 1) := by decide +kernel
theorem dX6_mixHead_39 : decode cX6_mixHead 39 = .ok (.ineg, 1) := by decide +kernel
theorem dX6_mixHead_40 : decode cX6_mixHead 40 = .ok (.if_icmp .lt 38, 3) := by decide +kernel
theorem dX6_mixHead_43 : decode cX6_mixHead 43 = .ok (.iload_n 2, 1) := by decide +kernel
theorem dX6_mixHead_44 : decode cX6_mixHead 44 = .ok (.ineg, 1) := by decide +kernel
theorem dX6_mixHead_45 : decode cX6_mixHead 45 = .ok (.istore 4, 2) := by decide +kernel
theorem dX6_mixHead_47 : decode cX6_mixHead 47 = .ok (.iload 4, 2) := by decide +kernel
theorem dX6_mixHead_49 : decode cX6_mixHead 49 = .ok (.iload_n 2, 1) := by decide +kernel
theorem dX6_mixHead_50 : decode cX6_mixHead 50 = .ok (.if_icmp .gt 22, 3) := by decide +kernel
theorem dX6_mixHead_53 : decode cX6_mixHead 53 = .ok (.aload_n 0, 1) := by decide +kernel
theorem dX6_mixHead_54 : decode cX6_mixHead 54 = .ok (.aload_n 0, 1) := by decide +kernel
theorem dX6_mixHead_55 : decode cX6_mixHead 55 = .ok (.iload_n 1, 1) := by decide +kernel
theorem dX6_mixHead_56 : decode cX6_mixHead 56 = .ok (.iload 4, 2) := by decide +kernel
theorem dX6_mixHead_58 : decode cX6_mixHead 58 = .ok (.iload_n 3, 1) := by decide +kernel
theorem dX6_mixHead_59 : decode cX6_mixHead 59 = .ok (.invokevirtual 76, 3) := by decide +kernel
theorem dX6_mixHead_62 : decode cX6_mixHead 62 = .ok (.i2l, 1) := by decide +kernel
theorem dX6_mixHead_63 : decode cX6_mixHead 63 = .ok (.invokevirtual 228, 3) := by decide +kernel
theorem dX6_mixHead_66 : decode cX6_mixHead 66 = .ok (.iinc 4 1, 3) := by decide +kernel
theorem dX6_mixHead_69 : decode cX6_mixHead 69 = .ok (.goto (-22), 3) := by decide +kernel
theorem dX6_mixHead_72 : decode cX6_mixHead 72 = .ok (.iinc 3 (-1), 3) := by decide +kernel
theorem dX6_mixHead_75 : decode cX6_mixHead 75 = .ok (.goto (-38), 3) := by decide +kernel
theorem dX6_mixHead_78 : decode cX6_mixHead 78 = .ok (.iconst 0, 1) := by decide +kernel
theorem dX6_mixHead_79 : decode cX6_mixHead 79 = .ok (.istore_n 3, 1) := by decide +kernel
theorem dX6_mixHead_80 : decode cX6_mixHead 80 = .ok (.iload_n 3, 1) := by decide +kernel
theorem dX6_mixHead_81 : decode cX6_mixHead 81 = .ok (.iconst 2, 1) := by decide +kernel
theorem dX6_mixHead_82 : decode cX6_mixHead 82 = .ok (.if_icmp .ge 44, 3) := by decide +kernel
theorem dX6_mixHead_85 : decode cX6_mixHead 85 = .ok (.aload_n 0, 1) := by decide +kernel
theorem dX6_mixHead_86 : decode cX6_mixHead 86 = .ok (.iload_n 1, 1) := by decide +kernel
theorem dX6_mixHead_87 : decode cX6_mixHead 87 = .ok (.iload_n 3, 1) := by decide +kernel
theorem dX6_mixHead_88 : decode cX6_mixHead 88 = .ok (.iconst 4, 1) := by decide +kernel
theorem dX6_mixHead_89 : decode cX6_mixHead 89 = .ok (.iconst 3, 1) := by decide +kernel
theorem dX6_mixHead_90 : decode cX6_mixHead 90 = .ok (.invokevirtual 158, 3) := by decide +kernel
theorem dX6_mixHead_93 : decode cX6_mixHead 93 = .ok (.iconst 0, 1) := by decide +kernel
theorem dX6_mixHead_94 : decode cX6_mixHead 94 = .ok (.istore 4, 2) := by decide +kernel
theorem dX6_mixHead_96 : decode cX6_mixHead 96 = .ok (.iload 4, 2) := by decide +kernel
theorem dX6_mixHead_98 : decode cX6_mixHead 98 = .ok (.bipush 8, 2) := by decide +kernel
theorem dX6_mixHead_100 : decode cX6_mixHead 100 = .ok (.if_icmp .ge 20, 3) := by decide +kernel
theorem dX6_mixHead_103 : decode cX6_mixHead 103 = .ok (.aload_n 0, 1) := by decide +kernel
theorem dX6_mixHead_104 : decode cX6_mixHead 104 = .ok (.aload_n 0, 1) := by decide +kernel
theorem dX6_mixHead_105 : decode cX6_mixHead 105 = .ok (.iload 4, 2) := by decide +kernel
theorem dX6_mixHead_107 : decode cX6_mixHead 107 = .ok (.invokevirtual 162, 3) := by decide +kernel
theorem dX6_mixHead_110 : decode cX6_mixHead 110 = .ok (.i2l, 1) := by decide +kernel
theorem dX6_mixHead_111 : decode cX6_mixHead 111 = .ok (.invokevirtual 228, 3) := by decide +kernel
theorem dX6_mixHead_114 : decode cX6_mixHead 114 = .ok (.iinc 4 1, 3) := by decide +kernel
theorem dX6_mixHead_117 : decode cX6_mixHead 117 = .ok (.goto (-21), 3) := by decide +kernel
theorem dX6_mixHead_120 : decode cX6_mixHead 120 = .ok (.iinc 3 1, 3) := by decide +kernel
theorem dX6_mixHead_123 : decode cX6_mixHead 123 = .ok (.goto (-43), 3) := by decide +kernel
theorem dX6_mixHead_126 : decode cX6_mixHead 126 = .ok (.aload_n 0, 1) := by decide +kernel
theorem dX6_mixHead_127 : decode cX6_mixHead 127 = .ok (.iload_n 1, 1) := by decide +kernel
theorem dX6_mixHead_128 : decode cX6_mixHead 128 = .ok (.iconst 1, 1) := by decide +kernel
theorem dX6_mixHead_129 : decode cX6_mixHead 129 = .ok (.invokevirtual 191, 3) := by decide +kernel
theorem dX6_mixHead_132 : decode cX6_mixHead 132 = .ok (.iconst 0, 1) := by decide +kernel
theorem dX6_mixHead_133 : decode cX6_mixHead 133 = .ok (.istore_n 3, 1) := by decide +kernel
theorem dX6_mixHead_134 : decode cX6_mixHead 134 = .ok (.iload_n 3, 1) := by decide +kernel
theorem dX6_mixHead_135 : decode cX6_mixHead 135 = .ok (.iconst 5, 1) := by decide +kernel
theorem dX6_mixHead_136 : decode cX6_mixHead 136 = .ok (.if_icmp .ge 19, 3) := by decide +kernel
theorem dX6_mixHead_139 : decode cX6_mixHead 139 = .ok (.aload_n 0, 1) := by decide +kernel
theorem dX6_mixHead_140 : decode cX6_mixHead 140 = .ok (.aload_n 0, 1) := by decide +kernel
theorem dX6_mixHead_141 : decode cX6_mixHead 141 = .ok (.iload_n 3, 1) := by decide +kernel
theorem dX6_mixHead_142 : decode cX6_mixHead 142 = .ok (.invokevirtual 194, 3) := by decide +kernel
theorem dX6_mixHead_145 : decode cX6_mixHead 145 = .ok (.i2l, 1) := by decide +kernel
theorem dX6_mixHead_146 : decode cX6_mixHead 146 = .ok (.invokevirtual 228, 3) := by decide +kernel
theorem dX6_mixHead_149 : decode cX6_mixHead 149 = .ok (.iinc 3 1, 3) := by decide +kernel
theorem dX6_mixHead_152 : decode cX6_mixHead 152 = .ok (.goto (-18), 3) := by decide +kernel
theorem dX6_mixHead_155 : decode cX6_mixHead 155 = .ok (.return_, 1) := by decide +kernel
theorem dX6_digest_0 : decode cX6_digest 0 = .ok (.aload_n 0, 1) := by decide +kernel
theorem dX6_digest_1 : decode cX6_digest 1 = .ok (.ldc2_w 232, 3) := by decide +kernel
theorem dX6_digest_4 : decode cX6_digest 4 = .ok (.putfield 225, 3) := by decide +kernel
theorem dX6_digest_7 : decode cX6_digest 7 = .ok (.iconst 0, 1) := by decide +kernel
theorem dX6_digest_8 : decode cX6_digest 8 = .ok (.istore_n 1, 1) := by decide +kernel
theorem dX6_digest_9 : decode cX6_digest 9 = .ok (.iload_n 1, 1) := by decide +kernel
theorem dX6_digest_10 : decode cX6_digest 10 = .ok (.aload_n 0, 1) := by decide +kernel
theorem dX6_digest_11 : decode cX6_digest 11 = .ok (.getfield 59, 3) := by decide +kernel
theorem dX6_digest_14 : decode cX6_digest 14 = .ok (.if_icmp .ge 14, 3) := by decide +kernel
theorem dX6_digest_17 : decode cX6_digest 17 = .ok (.aload_n 0, 1) := by decide +kernel
theorem dX6_digest_18 : decode cX6_digest 18 = .ok (.iload_n 1, 1) := by decide +kernel
theorem dX6_digest_19 : decode cX6_digest 19 = .ok (.invokevirtual 234, 3) := by decide +kernel
theorem dX6_digest_22 : decode cX6_digest 22 = .ok (.iinc 1 1, 3) := by decide +kernel
theorem dX6_digest_25 : decode cX6_digest 25 = .ok (.goto (-16), 3) := by decide +kernel
theorem dX6_digest_28 : decode cX6_digest 28 = .ok (.iconst 0, 1) := by decide +kernel
theorem dX6_digest_29 : decode cX6_digest 29 = .ok (.istore_n 1, 1) := by decide +kernel
theorem dX6_digest_30 : decode cX6_digest 30 = .ok (.iload_n 1, 1) := by decide +kernel
theorem dX6_digest_31 : decode cX6_digest 31 = .ok (.aload_n 0, 1) := by decide +kernel
theorem dX6_digest_32 : decode cX6_digest 32 = .ok (.getfield 27, 3) := by decide +kernel
theorem dX6_digest_35 : decode cX6_digest 35 = .ok (.if_icmp .ge 20, 3) := by decide +kernel
theorem dX6_digest_38 : decode cX6_digest 38 = .ok (.aload_n 0, 1) := by decide +kernel
theorem dX6_digest_39 : decode cX6_digest 39 = .ok (.aload_n 0, 1) := by decide +kernel
theorem dX6_digest_40 : decode cX6_digest 40 = .ok (.getfield 7, 3) := by decide +kernel
theorem dX6_digest_43 : decode cX6_digest 43 = .ok (.iload_n 1, 1) := by decide +kernel
theorem dX6_digest_44 : decode cX6_digest 44 = .ok (.iaload, 1) := by decide +kernel
theorem dX6_digest_45 : decode cX6_digest 45 = .ok (.i2l, 1) := by decide +kernel
theorem dX6_digest_46 : decode cX6_digest 46 = .ok (.invokevirtual 228, 3) := by decide +kernel
theorem dX6_digest_49 : decode cX6_digest 49 = .ok (.iinc 1 1, 3) := by decide +kernel
theorem dX6_digest_52 : decode cX6_digest 52 = .ok (.goto (-22), 3) := by decide +kernel
theorem dX6_digest_55 : decode cX6_digest 55 = .ok (.iconst 0, 1) := by decide +kernel
theorem dX6_digest_56 : decode cX6_digest 56 = .ok (.istore_n 1, 1) := by decide +kernel
theorem dX6_digest_57 : decode cX6_digest 57 = .ok (.iload_n 1, 1) := by decide +kernel
theorem dX6_digest_58 : decode cX6_digest 58 = .ok (.bipush 6, 2) := by decide +kernel
theorem dX6_digest_60 : decode cX6_digest 60 = .ok (.if_icmp .ge 19, 3) := by decide +kernel
theorem dX6_digest_63 : decode cX6_digest 63 = .ok (.aload_n 0, 1) := by decide +kernel
theorem dX6_digest_64 : decode cX6_digest 64 = .ok (.aload_n 0, 1) := by decide +kernel
theorem dX6_digest_65 : decode cX6_digest 65 = .ok (.iload_n 1, 1) := by decide +kernel
theorem dX6_digest_66 : decode cX6_digest 66 = .ok (.invokevirtual 220, 3) := by decide +kernel
theorem dX6_digest_69 : decode cX6_digest 69 = .ok (.i2l, 1) := by decide +kernel
theorem dX6_digest_70 : decode cX6_digest 70 = .ok (.invokevirtual 228, 3) := by decide +kernel
theorem dX6_digest_73 : decode cX6_digest 73 = .ok (.iinc 1 1, 3) := by decide +kernel
theorem dX6_digest_76 : decode cX6_digest 76 = .ok (.goto (-19), 3) := by decide +kernel
theorem dX6_digest_79 : decode cX6_digest 79 = .ok (.aload_n 0, 1) := by decide +kernel
theorem dX6_digest_80 : decode cX6_digest 80 = .ok (.getfield 225, 3) := by decide +kernel
theorem dX6_digest_83 : decode cX6_digest 83 = .ok (.lreturn, 1) := by decide +kernel
